/-! PURE: calls that write a few numbers -/
def aup (S : aS) (c j v : Nat) : aS := fun a b => if a = c ∧ b = j then v else S a b
theorem aup_at {S : aS} {c j v : Nat} : aup S c j v c j = v := if_pos ⟨rfl, rfl⟩
theorem aup_c {S : aS} {c j v a b : Nat} (h : a ≠ c) : aup S c j v a b = S a b := if_neg (fun z => h z.1)
theorem aup_f {S : aS} {c j v a : Nat} (h : a ≠ c) : aup S c j v a = S a := funext fun _ => aup_c h
theorem aup_j {S : aS} {c j v a b : Nat} (h : b ≠ j) : aup S c j v a b = S a b := if_neg (fun z => h z.2)
def keepA : List Nat := [2, 4, 5, 6, 7, 8, 9, 10, 11, 12, 13, 14, 15, 16, 17, 18, 19, 20, 21, 22, 23, 24, 25, 26, 39, 40]
def keepB : List Nat := [1, 2, 3, 4, 6, 17, 18]
theorem RA_keep {σ σ1 : zS} {S : aS} (h : RA σ S) (hk : ∀ k ∈ keepA, σ1 k = σ k) (h1 : σ1 1 1 = σ 1 1) : RA σ1 S := by
  obtain ⟨r, ⟨n1, n2, n3, n4⟩, t, f, w⟩ := h
  have k4 := hk 4 (by decide); have k17 := hk 17 (by decide); have k2 := hk 2 (by decide)
  have k25 := hk 25 (by decide); have k26 := hk 26 (by decide); have k15 := hk 15 (by decide); have k16 := hk 16 (by decide)
  refine ⟨fun q hq j hj => ?_, ⟨by rw [k4]; exact n1, by rw [k4]; exact n2, by rw [h1]; exact n3, by rw [k17]; exact n4⟩, fun j hj => by rw [k2]; exact t j hj, fun b hb => by rw [k25, k26]; exact f b hb, fun a ha => by rw [k15, k16]; exact w a ha⟩
  have hm : q.1 ∈ keepA := by
    have hall : rowsA.all (fun q => decide (q.1 ∈ keepA)) = true := by decide
    exact of_decide_eq_true (List.all_eq_true.mp hall q hq)
  rw [hk _ hm]
  exact r q hq j hj
theorem RB_keep {τ τ1 : zS} {S : aS} (h : RB τ S) (hk : ∀ k ∈ keepB, τ1 k = τ k) (h0 : ∀ j ∈ [3, 4, 5, 6, 16], τ1 0 j = τ 0 j) : RB τ1 S := by
  obtain ⟨a, b, c, ⟨d1, d2, d3, d4, d5⟩, e, f, g⟩ := h
  have k1 := hk 1 (by decide); have k2 := hk 2 (by decide); have k3 := hk 3 (by decide); have k4 := hk 4 (by decide)
  have k6 := hk 6 (by decide); have k17 := hk 17 (by decide); have k18 := hk 18 (by decide)
  refine ⟨?_, ?_, ?_, ⟨?_, ?_, ?_, ?_, ?_⟩, ?_, ?_, ?_⟩
  · rw [k1]; exact a
  · rw [k3]; exact b
  · rw [k2]; exact c
  · rw [h0 3 (by decide)]; exact d1
  · rw [h0 4 (by decide)]; exact d2
  · rw [h0 5 (by decide)]; exact d3
  · rw [h0 6 (by decide)]; exact d4
  · rw [h0 16 (by decide)]; exact d5
  · rw [k4]; exact e
  · rw [k6]; exact f
  · rw [k17, k18]; exact g
/-- one place of a row of the class -/
theorem RA_up {σ : zS} {S : aS} (h : RA σ S) (k c : Nat) (j v : Nat) (hu : rowsA.all (fun q => (q.1 == k) == (q.2.1 == c)) = true) (hk : k ∉ [4, 1, 17, 2, 25, 26, 15, 16]) (hc : c ∉ [11, 12, 20, 21, 9, 10]) : RA (zup σ k j (nI v)) (aup S c j v) := by
  obtain ⟨r, n, t, f, w⟩ := h
  simp only [List.mem_cons, not_or, List.not_mem_nil, not_false_eq_true, and_true] at hk hc
  obtain ⟨a1, a2, a3, a4, a5, a6, a7, a8⟩ := hk
  obtain ⟨b1, b2, b3, b4, b5, b6⟩ := hc
  refine ⟨fun q hq i hi => ?_, ?_, ?_, ?_, ?_⟩
  · have e := List.all_eq_true.mp hu q hq
    by_cases hqk : q.1 = k
    · have hqc : q.2.1 = c := by simpa [hqk] using e
      rw [hqk, hqc]
      by_cases hij : i = j
      · rw [hij, zup_at, aup_at]
      · rw [zup_no hij, aup_j hij, ← hqk, ← hqc]; exact r q hq i hi
    · have hqc : q.2.1 ≠ c := by
        intro z
        simp [z, hqk] at e
      rw [zup_ne hqk, aup_c hqc]; exact r q hq i hi
  · rw [zup_ne (Ne.symm a1), zup_ne (Ne.symm a2), zup_ne (Ne.symm a3), aup_f (Ne.symm b1)]; exact n
  · rw [zup_ne (Ne.symm a4), aup_f (Ne.symm b1), aup_f (Ne.symm b2)]; exact t
  · rw [zup_ne (Ne.symm a5), zup_ne (Ne.symm a6), aup_f (Ne.symm b1), aup_f (Ne.symm b3), aup_f (Ne.symm b4)]; exact f
  · rw [zup_ne (Ne.symm a7), zup_ne (Ne.symm a8), aup_f (Ne.symm b5), aup_f (Ne.symm b6)]; exact w
/-- what slot k of blade b holds -/
def bv (S : aS) (b k : Nat) : Int32 := match k with
  | 0 => nI (S 13 b)
  | 1 => nI (S 14 (3 * b + 0))
  | 2 => nI (S 14 (3 * b + 1))
  | 3 => nI (S 14 (3 * b + 2))
  | 4 => nI (S 15 b)
  | 5 => nI (S 16 b)
  | 6 => nI (S 17 b)
  | 7 => nI (S 18 b)
  | 8 => nI (S 19 b)
  | 9 => nI (S 20 b) - 1
  | _ => nI (S 21 b) - 1
theorem RB.slot {τ : zS} {S : aS} (h : RB τ S) {b k : Nat} (hb : b < S 11 3) (hk : k < 11) : τ 6 (11 * b + k) = bv S b k := by
  obtain ⟨b0, b1, b4, b5, b6, b7, b8, b9, b10⟩ := h.bl hb
  match k, hk with
  | 0, _ => exact b0
  | 1, _ => exact b1 0 (by omega)
  | 2, _ => exact b1 1 (by omega)
  | 3, _ => exact b1 2 (by omega)
  | 4, _ => exact b4
  | 5, _ => exact b5
  | 6, _ => exact b6
  | 7, _ => exact b7
  | 8, _ => exact b8
  | 9, _ => exact b9
  | 10, _ => exact b10
  | k + 11, h => omega
theorem RB_of {τ τ1 : zS} {S S1 : aS} (h : RB τ S) (hk : ∀ k, k ≠ 6 → k ≠ 0 → τ1 k = τ k) (h0 : ∀ j ∈ [3, 4, 5, 6], τ1 0 j = τ 0 j) (h16 : τ1 0 16 = nI (S1 11 3)) (hS : ∀ c, c < 11 ∨ c = 12 ∨ 21 < c → S1 c = S c) (h11 : ∀ j, j < 3 → S1 11 j = S 11 j)
    (hs : ∀ b k, b < S1 11 3 → k < 11 → τ1 6 (11 * b + k) = bv S1 b k) : RB τ1 S1 := by
  obtain ⟨a, b, c, ⟨d1, d2, d3, d4, d5⟩, e, f, g⟩ := h
  have k1 := hk 1 (by decide) (by decide); have k2 := hk 2 (by decide) (by decide); have k3 := hk 3 (by decide) (by decide); have k4 := hk 4 (by decide) (by decide)
  have k17 := hk 17 (by decide) (by decide); have k18 := hk 18 (by decide) (by decide)
  refine ⟨?_, ?_, ?_, ⟨?_, ?_, ?_, ?_, h16⟩, ?_, fun b hb => ⟨hs b 0 hb (by omega), fun i hi => ?_, hs b 4 hb (by omega), hs b 5 hb (by omega), hs b 6 hb (by omega), hs b 7 hb (by omega), hs b 8 hb (by omega), hs b 9 hb (by omega), hs b 10 hb (by omega)⟩, ?_⟩
  · rw [k1, hS 1 (by omega), hS 2 (by omega), hS 3 (by omega)]; exact a
  · rw [k3, hS 5 (by omega), hS 6 (by omega), hS 7 (by omega), hS 8 (by omega)]; exact b
  · rw [k2, hS 9 (by omega), hS 10 (by omega)]; exact c
  · rw [h0 3 (by decide), hS 4 (by omega)]; exact d1
  · rw [h0 4 (by decide), h11 0 (by omega)]; exact d2
  · rw [h0 5 (by decide), h11 1 (by omega)]; exact d3
  · rw [h0 6 (by decide), h11 2 (by omega)]; exact d4
  · rw [k4, hS 12 (by omega), h11 2 (by omega)]; exact e
  · match i, hi with
    | 0, _ => exact hs b 1 hb (by omega)
    | 1, _ => exact hs b 2 hb (by omega)
    | 2, _ => exact hs b 3 hb (by omega)
    | i + 3, h => omega
  · rw [k17, k18, hS 22 (by omega), hS 23 (by omega)]; exact g
theorem RB_slot {τ : zS} {S S1 : aS} {b k : Nat} {v : Int32} (h : RB τ S) (hk : k < 11) (hS : ∀ c, c < 13 ∨ 21 < c → S1 c = S c) (hv : ∀ b1 k1, b1 < S 11 3 → k1 < 11 → bv S1 b1 k1 = if b1 = b ∧ k1 = k then v else bv S b1 k1) : RB (zup τ 6 (11 * b + k) v) S1 := by
  have e11 : S1 11 = S 11 := hS 11 (by omega)
  refine RB_of h (fun k h6 _ => zup_ne h6) (fun j _ => by rw [zup_ne (by decide)]) (by rw [zup_ne (by decide), e11]; exact h.many) (fun c hc => hS c (by omega)) (fun j _ => by rw [e11]) (fun b1 k1 hb hk1 => ?_)
  rw [e11] at hb
  rw [hv b1 k1 hb hk1]
  by_cases e : b1 = b ∧ k1 = k
  · rw [if_pos e, e.1, e.2, zup_at]
  · rw [if_neg e, zup_no (by omega)]
    exact h.slot hb hk1
theorem bv_18 {S : aS} {b m : Nat} : ∀ b1 k1, k1 < 11 → bv (aup S 18 b m) b1 k1 = if b1 = b ∧ k1 = 7 then nI m else bv S b1 k1 := by
  intro b1 k1 h
  match k1, h with
  | 0, _ | 1, _ | 2, _ | 3, _ | 4, _ | 5, _ | 6, _ | 8, _ | 9, _ | 10, _ => simp [bv, aup]
  | 7, _ => by_cases e : b1 = b <;> simp [bv, aup, e]
  | k + 11, h => omega
theorem bv_19 {S : aS} {b m : Nat} : ∀ b1 k1, k1 < 11 → bv (aup S 19 b m) b1 k1 = if b1 = b ∧ k1 = 8 then nI m else bv S b1 k1 := by
  intro b1 k1 h
  match k1, h with
  | 0, _ | 1, _ | 2, _ | 3, _ | 4, _ | 5, _ | 6, _ | 7, _ | 9, _ | 10, _ => simp [bv, aup]
  | 8, _ => by_cases e : b1 = b <;> simp [bv, aup, e]
  | k + 11, h => omega
theorem bv_20 {S : aS} {b m : Nat} : ∀ b1 k1, k1 < 11 → bv (aup S 20 b m) b1 k1 = if b1 = b ∧ k1 = 9 then nI m - 1 else bv S b1 k1 := by
  intro b1 k1 h
  match k1, h with
  | 0, _ | 1, _ | 2, _ | 3, _ | 4, _ | 5, _ | 6, _ | 7, _ | 8, _ | 10, _ => simp [bv, aup]
  | 9, _ => by_cases e : b1 = b <;> simp [bv, aup, e]
  | k + 11, h => omega
theorem bv_21 {S : aS} {b m : Nat} : ∀ b1 k1, k1 < 11 → bv (aup S 21 b m) b1 k1 = if b1 = b ∧ k1 = 10 then nI m - 1 else bv S b1 k1 := by
  intro b1 k1 h
  match k1, h with
  | 0, _ | 1, _ | 2, _ | 3, _ | 4, _ | 5, _ | 6, _ | 7, _ | 8, _ | 9, _ => simp [bv, aup]
  | 10, _ => by_cases e : b1 = b <;> simp [bv, aup, e]
  | k + 11, h => omega
theorem bv_15 {S : aS} {b m : Nat} : ∀ b1 k1, k1 < 11 → bv (aup S 15 b m) b1 k1 = if b1 = b ∧ k1 = 4 then nI m else bv S b1 k1 := by
  intro b1 k1 h
  match k1, h with
  | 0, _ | 1, _ | 2, _ | 3, _ | 5, _ | 6, _ | 7, _ | 8, _ | 9, _ | 10, _ => simp [bv, aup]
  | 4, _ => by_cases e : b1 = b <;> simp [bv, aup, e]
  | k + 11, h => omega
theorem bv_14 {S : aS} {b i m : Nat} (hi : i < 3) : ∀ b1 k1, k1 < 11 → bv (aup S 14 (3 * b + i) m) b1 k1 = if b1 = b ∧ k1 = 1 + i then nI m else bv S b1 k1 := by
  intro b1 k1 h
  match k1, h with
  | 0, _ => rw [if_neg (by omega)]; simp [bv, aup]
  | 4, _ | 5, _ | 6, _ | 7, _ | 8, _ | 9, _ | 10, _ => rw [if_neg (by omega)]; simp [bv, aup]
  | 1, _ =>
    by_cases e : b1 = b ∧ 1 = 1 + i
    · rw [if_pos e]; show nI (aup S 14 (3 * b + i) m 14 (3 * b1 + 0)) = _; rw [show 3 * b1 + 0 = 3 * b + i by omega, aup_at]
    · rw [if_neg e]; show nI (aup S 14 (3 * b + i) m 14 (3 * b1 + 0)) = _; rw [aup_j (by omega)]; rfl
  | 2, _ =>
    by_cases e : b1 = b ∧ 2 = 1 + i
    · rw [if_pos e]; show nI (aup S 14 (3 * b + i) m 14 (3 * b1 + 1)) = _; rw [show 3 * b1 + 1 = 3 * b + i by omega, aup_at]
    · rw [if_neg e]; show nI (aup S 14 (3 * b + i) m 14 (3 * b1 + 1)) = _; rw [aup_j (by omega)]; rfl
  | 3, _ =>
    by_cases e : b1 = b ∧ 3 = 1 + i
    · rw [if_pos e]; show nI (aup S 14 (3 * b + i) m 14 (3 * b1 + 2)) = _; rw [show 3 * b1 + 2 = 3 * b + i by omega, aup_at]
    · rw [if_neg e]; show nI (aup S 14 (3 * b + i) m 14 (3 * b1 + 2)) = _; rw [aup_j (by omega)]; rfl
  | k + 11, h => omega
theorem aup_lo {S : aS} {c j v : Nat} (hc : 13 ≤ c ∧ c ≤ 21) : ∀ a, a < 13 ∨ 21 < a → aup S c j v a = S a := fun _ h => aup_f (by omega)
/-- a change of one blade's numbers keeps the rest of Inv -/
theorem Inv_bl {S S1 : aS} (h : Inv S) (hS : ∀ c, c < 13 ∨ 21 < c → S1 c = S c) (hb : ∀ b, b < S 11 3 → S1 13 b ≤ 9 ∧ (∀ i, i < 3 → S1 14 (3 * b + i) ≤ 999) ∧ 1 ≤ S1 15 b ∧ S1 15 b ≤ 99 ∧ 1 ≤ S1 16 b ∧ S1 16 b ≤ 999 ∧ S1 17 b ≤ 99 ∧ S1 18 b ≤ 999 ∧ S1 19 b ≤ 999 ∧ (0 < S1 19 b → S1 19 b < S1 18 b) ∧ S1 20 b ≤ S 11 3 ∧ S1 21 b ≤ 10000)
    (hz : ∀ b, S 11 3 ≤ b → b < 12 → S1 18 b = 0 ∧ S1 19 b = 0) (hr : ∃ rk : Nat → Nat, ∀ b, b < S 11 3 → rk b < 12 ∧ (0 < S1 20 b → rk (S1 20 b - 1) < rk b)) : Inv S1 := by
  obtain ⟨i1, i2, i3, i4, i5, i6, i7, i8, i9⟩ := h
  refine ⟨?_, ?_, ?_, ?_, ?_, ?_, ?_, ?_, ?_⟩
  · rw [hS 1 (by omega), hS 2 (by omega), hS 3 (by omega)]; exact i1
  · rw [hS 4 (by omega), hS 5 (by omega), hS 6 (by omega), hS 7 (by omega), hS 8 (by omega)]; exact i2
  · rw [hS 9 (by omega), hS 10 (by omega)]; exact i3
  · rw [hS 11 (by omega)]; exact i4
  · rw [hS 11 (by omega), hS 12 (by omega)]; exact i5
  · rw [hS 11 (by omega)]; exact hb
  · rw [hS 11 (by omega)]; exact hz
  · rw [hS 22 (by omega), hS 23 (by omega)]; exact i8
  · rw [hS 11 (by omega)]; exact hr
theorem Inv.fr0 {S : aS} (h : Inv S) : ∀ b, S 11 3 ≤ b → b < 12 → S 18 b = 0 ∧ S 19 b = 0 := h.2.2.2.2.2.2.1
theorem Inv.rk {S : aS} (h : Inv S) : ∃ rk : Nat → Nat, ∀ b, b < S 11 3 → rk b < 12 ∧ (0 < S 20 b → rk (S 20 b - 1) < rk b) := h.2.2.2.2.2.2.2.2
section WRITE
variable {σ τ : zS} {S : aS}
theorem ag_erase (hA : RA σ S) (hB : RB τ S) (hI : Inv S) : Ag (f_X9_erase σ) (f_X10_erase τ) (aup S 11 2 0) := by
  have hr : ∀ c, c ≠ 11 → aup S 11 2 0 c = S c := fun c h => aup_f h
  have h3 : aup S 11 2 0 11 3 = S 11 3 := aup_j (by decide)
  have h0 : aup S 11 2 0 11 0 = S 11 0 := aup_j (by decide)
  have h1 : aup S 11 2 0 11 1 = S 11 1 := aup_j (by decide)
  have h2 : aup S 11 2 0 11 2 = 0 := aup_at
  refine Ag.mk (r := nI (S 11 2)) (σ := zup σ 1 1 0) (τ := zup τ 0 6 0) ?_ ?_ ?_ ?_ ?_
  · unfold f_X9_erase f_X7_empty
    rw [zst_s, zbd_s, hA.len]
  · unfold f_X10_erase
    rw [zst_s, hB.len]
  · obtain ⟨r, ⟨n1, n2, n3, n4⟩, t, f, w⟩ := hA
    refine ⟨fun q hq j hj => ?_, ⟨?_, ?_, ?_, ?_⟩, fun j hj => ?_, ?_, ?_⟩
    · have hall : rowsA.all (fun q => decide (q.1 ≠ 1 ∧ q.2.1 ≠ 11)) = true := by decide
      have e := of_decide_eq_true (List.all_eq_true.mp hall q hq)
      rw [zup_ne e.1, aup_c e.2]; exact r q hq j hj
    · rw [zup_ne (by decide), h0]; exact n1
    · rw [zup_ne (by decide), h1]; exact n2
    · rw [zup_at, h2]; rfl
    · rw [zup_ne (by decide), h3]; exact n4
    · rw [h2] at hj; omega
    · rw [zup_ne (by decide), zup_ne (by decide), h3, hr 20 (by decide), hr 21 (by decide)]; exact f
    · rw [zup_ne (by decide), zup_ne (by decide), hr 9 (by decide), hr 10 (by decide)]; exact w
  · obtain ⟨a, b, c, ⟨d1, d2, d3, d4, d5⟩, e, f, g⟩ := hB
    refine ⟨?_, ?_, ?_, ⟨?_, ?_, ?_, ?_, ?_⟩, fun j hj => ?_, ?_, ?_⟩
    · rw [zup_ne (by decide), hr 1 (by decide), hr 2 (by decide), hr 3 (by decide)]; exact a
    · rw [zup_ne (by decide), hr 5 (by decide), hr 6 (by decide), hr 7 (by decide), hr 8 (by decide)]; exact b
    · rw [zup_ne (by decide), hr 9 (by decide), hr 10 (by decide)]; exact c
    · rw [zup_no (by decide), hr 4 (by decide)]; exact d1
    · rw [zup_no (by decide), h0]; exact d2
    · rw [zup_no (by decide), h1]; exact d3
    · rw [zup_at, h2]; rfl
    · rw [zup_no (by decide), h3]; exact d5
    · rw [h2] at hj; omega
    · rw [zup_ne (by decide), h3, hr 13 (by decide), hr 14 (by decide), hr 15 (by decide), hr 16 (by decide), hr 17 (by decide), hr 18 (by decide), hr 19 (by decide), hr 20 (by decide), hr 21 (by decide)]; exact f
    · rw [zup_ne (by decide), zup_ne (by decide), hr 22 (by decide), hr 23 (by decide)]; exact g
  · obtain ⟨i1, i2, i3, i4, i5, i6, i7, i8, i9⟩ := hI
    refine ⟨?_, ?_, ?_, ?_, fun j hj => ?_, ?_, ?_, ?_, ?_⟩
    · rw [hr 1 (by omega), hr 2 (by omega), hr 3 (by omega)]; exact i1
    · rw [hr 4 (by omega), hr 5 (by omega), hr 6 (by omega), hr 7 (by omega), hr 8 (by omega)]; exact i2
    · rw [hr 9 (by omega), hr 10 (by omega)]; exact i3
    · rw [h0, h1, h2, h3]; omega
    · rw [h2] at hj; omega
    · rw [h3, hr 13 (by decide), hr 14 (by decide), hr 15 (by decide), hr 16 (by decide), hr 17 (by decide), hr 18 (by decide), hr 19 (by decide), hr 20 (by decide), hr 21 (by decide)]; exact i6
    · rw [h3, hr 18 (by decide), hr 19 (by decide)]; exact i7
    · rw [hr 22 (by omega), hr 23 (by omega)]; exact i8
    · rw [h3, hr 20 (by decide)]; exact i9
theorem RA_fr {b m : Nat} (h : RA σ S) (hb : b < S 11 3) : RA (zup σ 25 b (nI m - 1)) (aup S 20 b m) := by
  obtain ⟨r, n, t, f, w⟩ := h
  have hr : ∀ c, c ≠ 20 → aup S 20 b m c = S c := fun c h => aup_f h
  refine ⟨fun q hq j hj => ?_, ?_, ?_, fun b1 hb1 => ?_, ?_⟩
  · have hall : rowsA.all (fun q => decide (q.1 ≠ 25 ∧ q.2.1 ≠ 20)) = true := by decide
    have e := of_decide_eq_true (List.all_eq_true.mp hall q hq)
    rw [zup_ne e.1, hr _ e.2]; exact r q hq j hj
  · rw [zup_ne (by decide), zup_ne (by decide), zup_ne (by decide), hr 11 (by decide)]; exact n
  · rw [zup_ne (by decide), hr 11 (by decide), hr 12 (by decide)]; exact t
  · rw [hr 11 (by decide)] at hb1
    rw [hr 21 (by decide), zup_ne (k := 25) (a := 26) (by decide)]
    refine ⟨?_, (f b1 hb1).2⟩
    by_cases e : b1 = b
    · rw [e, zup_at, aup_at]
    · rw [zup_no e, aup_j e]; exact (f b1 hb1).1
  · rw [zup_ne (by decide), zup_ne (by decide), hr 9 (by decide), hr 10 (by decide)]; exact w
theorem RA_dt {b m : Nat} (h : RA σ S) (hb : b < S 11 3) : RA (zup σ 26 b (nI m - 1)) (aup S 21 b m) := by
  obtain ⟨r, n, t, f, w⟩ := h
  have hr : ∀ c, c ≠ 21 → aup S 21 b m c = S c := fun c h => aup_f h
  refine ⟨fun q hq j hj => ?_, ?_, ?_, fun b1 hb1 => ?_, ?_⟩
  · have hall : rowsA.all (fun q => decide (q.1 ≠ 26 ∧ q.2.1 ≠ 21)) = true := by decide
    have e := of_decide_eq_true (List.all_eq_true.mp hall q hq)
    rw [zup_ne e.1, hr _ e.2]; exact r q hq j hj
  · rw [zup_ne (by decide), zup_ne (by decide), zup_ne (by decide), hr 11 (by decide)]; exact n
  · rw [zup_ne (by decide), hr 11 (by decide), hr 12 (by decide)]; exact t
  · rw [hr 11 (by decide)] at hb1
    rw [hr 20 (by decide), zup_ne (k := 26) (a := 25) (by decide)]
    refine ⟨(f b1 hb1).1, ?_⟩
    by_cases e : b1 = b
    · rw [e, zup_at, aup_at]
    · rw [zup_no e, aup_j e]; exact (f b1 hb1).2
  · rw [zup_ne (by decide), zup_ne (by decide), hr 9 (by decide), hr 10 (by decide)]; exact w
theorem ag_undo (hA : RA σ S) (hB : RB τ S) (hI : Inv S) (x1 : Int32) : ∃ S1, Ag (f_X9_undo x1 σ) (f_X10_undo x1 τ) S1 := by
  have hn := hI.n12
  simp only [f_X9_undo, f_X10_undo, hasA hA hI, isBladeB hB hI, zbd_s, ifz]
  by_cases h : vd x1 (S 11 3)
  · rw [if_pos h, if_pos h]
    obtain ⟨b, hb, rfl⟩ := vd_of h
    have hb12 : b < 12 := by omega
    refine ⟨aup S 20 b 0, ?_⟩
    rw [zrd_n hb12 (by omega), zwr_n hb12 (by omega), hA.fr hb, atB (x := nI b) (y := 9) (k := 9) hb12 (by omega) rfl rfl, zbd_s, zwr_i (x := 11 * nI b + 9) (j := 11 * b + 9) (ix1 11 b 9) (by omega) (by omega), (hB.bl hb).2.2.2.2.2.2.2.1]
    refine Ag.mk rfl rfl (RA_fr (m := 0) hA hb) (RB_slot hB (by omega) (aup_lo (by omega)) (fun b1 k1 _ hk => bv_20 b1 k1 hk)) (Inv_bl hI (aup_lo (by omega)) (fun b1 hb1 => ?_) ?_ ?_)
    · have hi := hI.bl hb1
      rw [aup_f (a := 13) (by decide), aup_f (a := 14) (by decide), aup_f (a := 15) (by decide), aup_f (a := 16) (by decide), aup_f (a := 17) (by decide), aup_f (a := 18) (by decide), aup_f (a := 19) (by decide), aup_f (a := 21) (by decide)]
      refine ⟨hi.1, hi.2.1, hi.2.2.1, hi.2.2.2.1, hi.2.2.2.2.1, hi.2.2.2.2.2.1, hi.2.2.2.2.2.2.1, hi.2.2.2.2.2.2.2.1, hi.2.2.2.2.2.2.2.2.1, hi.2.2.2.2.2.2.2.2.2.1, ?_, hi.2.2.2.2.2.2.2.2.2.2.2⟩
      by_cases e : b1 = b
      · rw [e, aup_at]; omega
      · rw [aup_j e]; exact hi.2.2.2.2.2.2.2.2.2.2.1
    · rw [aup_f (a := 18) (by decide), aup_f (a := 19) (by decide)]; exact hI.fr0
    · obtain ⟨rk, hrk⟩ := hI.rk
      refine ⟨rk, fun b1 hb1 => ⟨(hrk b1 hb1).1, ?_⟩⟩
      by_cases e : b1 = b
      · rw [e, aup_at]; omega
      · rw [aup_j e]; exact (hrk b1 hb1).2
  · rw [if_neg h, if_neg h]; exact ⟨S, Ag.mk rfl rfl hA hB hI⟩
theorem ag_dated (hA : RA σ S) (hB : RB τ S) (hI : Inv S) (x1 x2 : Int32) : ∃ S1, Ag (f_X9_dated x1 x2 σ) (f_X10_dated x1 x2 τ) S1 := by
  have hn := hI.n12
  simp only [f_X9_dated, f_X10_dated, hasA hA hI, isBladeB hB hI, isWithinA, inB, zbd_s, ifz]
  by_cases h : vd x1 (S 11 3)
  · rw [if_pos h, if_pos h]
    by_cases g : (-1 : Int32).toInt ≤ x2.toInt ∧ x2.toInt ≤ (9999 : Int32).toInt
    · rw [if_pos g, if_pos g]
      rw [tm1, t9999] at g
      obtain ⟨b, hb, rfl⟩ := vd_of h
      have hb12 : b < 12 := by omega
      obtain ⟨m, hm, rfl⟩ : ∃ m : Nat, m ≤ 10000 ∧ x2 = nI m - 1 := ⟨(x2.toInt + 1).toNat, by omega, by rw [qeq, nI_m1 (by omega)]; omega⟩
      refine ⟨aup S 21 b m, ?_⟩
      rw [zwr_n hb12 (by omega), zwr_i (x := 11 * nI b + 10) (j := 11 * b + 10) (ix1 11 b 10) (by omega) (by omega)]
      refine Ag.mk rfl rfl (RA_dt hA hb) (RB_slot hB (by omega) (aup_lo (by omega)) (fun b1 k1 _ hk => bv_21 b1 k1 hk)) (Inv_bl hI (aup_lo (by omega)) (fun b1 hb1 => ?_) ?_ ?_)
      · have hi := hI.bl hb1
        rw [aup_f (a := 13) (by decide), aup_f (a := 14) (by decide), aup_f (a := 15) (by decide), aup_f (a := 16) (by decide), aup_f (a := 17) (by decide), aup_f (a := 18) (by decide), aup_f (a := 19) (by decide), aup_f (a := 20) (by decide)]
        refine ⟨hi.1, hi.2.1, hi.2.2.1, hi.2.2.2.1, hi.2.2.2.2.1, hi.2.2.2.2.2.1, hi.2.2.2.2.2.2.1, hi.2.2.2.2.2.2.2.1, hi.2.2.2.2.2.2.2.2.1, hi.2.2.2.2.2.2.2.2.2.1, hi.2.2.2.2.2.2.2.2.2.2.1, ?_⟩
        by_cases e : b1 = b
        · rw [e, aup_at]; omega
        · rw [aup_j e]; exact hi.2.2.2.2.2.2.2.2.2.2.2
      · rw [aup_f (a := 18) (by decide), aup_f (a := 19) (by decide)]; exact hI.fr0
      · rw [aup_f (a := 20) (by decide)]; exact hI.rk
    · rw [if_neg g, if_neg g]; exact ⟨S, Ag.mk rfl rfl hA hB hI⟩
  · rw [if_neg h, if_neg h]; exact ⟨S, Ag.mk rfl rfl hA hB hI⟩
theorem ag_rim (hA : RA σ S) (hB : RB τ S) (hI : Inv S) (x1 x2 x3 : Int32) : ∃ S1, Ag (f_X9_rim x1 x2 x3 σ) (f_X10_rim x1 x2 x3 τ) S1 := by
  have hn := hI.n12
  have hx2 := qrange x2
  simp only [f_X9_rim, f_X10_rim, f_X9_rim_J34, f_X10_rim_J45, hasA hA hI, isBladeB hB hI, isWithinA, inB, zbd_s, ifz, t0, t999, t1]
  by_cases h : vd x1 (S 11 3)
  · rw [if_pos h, if_pos h]
    obtain ⟨b, hb, rfl⟩ := vd_of h
    have hb12 : b < 12 := by omega
    by_cases g : 0 ≤ x2.toInt ∧ x2.toInt ≤ 999
    · rw [if_pos g]
      have em : (x2 - 1).toInt = x2.toInt - 1 := by
        rw [qof g.1, nI_m1 (by omega), qti (by omega)]
      have good : (x3.toInt = 0 ∨ (1 ≤ x3.toInt ∧ x3.toInt ≤ x2.toInt - 1)) → ∃ S1, Ag (zwr σ 23 12 (nI b) x2 fun σ2 => zwr σ2 24 12 (nI b) x3 fun σ3 => some (1, σ3)) (zwr τ 6 132 (11 * nI b + 7) x2 fun σ1 => zwr σ1 6 132 (11 * nI b + 8) x3 fun σ2 => some (1, σ2)) S1 := by
        intro hg
        obtain ⟨r, hr⟩ : ∃ r : Nat, r = x2.toInt.toNat := ⟨_, rfl⟩
        obtain ⟨q, hq⟩ : ∃ q : Nat, q = x3.toInt.toNat := ⟨_, rfl⟩
        have e2 : x2 = nI r := by rw [hr]; exact qof g.1
        have e3 : x3 = nI q := by rw [hq]; exact qof (by omega)
        have hrq : r ≤ 999 ∧ q ≤ 999 ∧ (0 < q → q < r) := by omega
        rw [zwr_n hb12 (by omega), zwr_n hb12 (by omega), zwr_i (x := 11 * nI b + 7) (j := 11 * b + 7) (ix1 11 b 7) (by omega) (by omega), zwr_i (x := 11 * nI b + 8) (j := 11 * b + 8) (ix1 11 b 8) (by omega) (by omega), e2, e3]
        refine ⟨aup (aup S 18 b r) 19 b q, Ag.mk rfl rfl (RA_up (RA_up hA 23 18 b r (by decide) (by decide) (by decide)) 24 19 b q (by decide) (by decide) (by decide)) ?_ ?_⟩
        · exact RB_slot (RB_slot hB (by omega) (aup_lo (by omega)) (fun b1 k1 _ hk => bv_18 b1 k1 hk)) (by omega) (aup_lo (by omega)) (fun b1 k1 _ hk => bv_19 b1 k1 hk)
        · refine Inv_bl hI (fun c hc => by rw [aup_lo (by omega) c hc, aup_lo (by omega) c hc]) (fun b1 hb1 => ?_) (fun b1 h1 h2 => ?_) ?_
          · have hi := hI.bl hb1
            rw [aup_f (a := 13) (by decide), aup_f (a := 14) (by decide), aup_f (a := 15) (by decide), aup_f (a := 16) (by decide), aup_f (a := 17) (by decide), aup_f (a := 18) (c := 19) (by decide), aup_f (a := 20) (by decide), aup_f (a := 21) (by decide), aup_f (a := 13) (by decide), aup_f (a := 14) (by decide), aup_f (a := 15) (by decide), aup_f (a := 16) (by decide), aup_f (a := 17) (by decide), aup_f (a := 20) (by decide), aup_f (a := 21) (by decide)]
            by_cases e : b1 = b
            · rw [e, aup_at, aup_at]
              rw [e] at hi
              exact ⟨hi.1, hi.2.1, hi.2.2.1, hi.2.2.2.1, hi.2.2.2.2.1, hi.2.2.2.2.2.1, hi.2.2.2.2.2.2.1, hrq.1, hrq.2.1, hrq.2.2, hi.2.2.2.2.2.2.2.2.2.2⟩
            · rw [aup_j e, aup_j e, aup_f (a := 19) (by decide)]
              exact hi
          · have hne : b1 ≠ b := by omega
            rw [aup_f (a := 18) (c := 19) (by decide), aup_j hne, aup_j hne, aup_f (a := 19) (by decide)]
            exact hI.fr0 b1 h1 h2
          · rw [aup_f (a := 20) (by decide), aup_f (a := 20) (by decide)]; exact hI.rk
      by_cases e3 : x3 = 0
      · have e3t : x3.toInt = 0 := by rw [e3]; rfl
        rw [if_pos e3, if_pos g, if_neg (by decide), if_pos (by omega), if_pos (by rw [qle, t0]; omega)]
        exact good (Or.inl e3t)
      · have e3t : x3.toInt ≠ 0 := ne_t (n := 0) e3 (by omega)
        rw [if_neg e3, em]
        by_cases k : 1 ≤ x3.toInt ∧ x3.toInt ≤ x2.toInt - 1
        · rw [if_pos k, if_pos g, if_neg (by decide), if_pos (by omega), if_neg (by rw [qle, t0]; omega), if_pos (by rw [qlt]; omega)]
          exact good (Or.inr k)
        · rw [if_neg k, if_pos g, if_pos trivial, if_pos g]
          by_cases k2 : 0 ≤ x3.toInt ∧ x3.toInt ≤ 999
          · rw [if_pos k2, if_neg (by rw [qle, t0]; omega), if_neg (by rw [qlt]; omega)]
            exact ⟨S, Ag.mk rfl rfl hA hB hI⟩
          · rw [if_neg k2]; exact ⟨S, Ag.mk rfl rfl hA hB hI⟩
    · rw [if_neg g]
      refine ⟨S, Ag.mk (r := -3) (σ := σ) (τ := τ) ?_ (if_neg g) hA hB hI⟩
      by_cases e3 : x3 = 0
      · rw [if_pos e3]
      · rw [if_neg e3]
        by_cases k : 1 ≤ x3.toInt ∧ x3.toInt ≤ (x2 - 1).toInt
        · rw [if_pos k]
        · rw [if_neg k, if_neg g]
  · rw [if_neg h, if_neg h]; exact ⟨S, Ag.mk rfl rfl hA hB hI⟩
end WRITE
