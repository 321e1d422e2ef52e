/-! PURE: ways told, and land -/
theorem bit_upd (p : Nat → Bool) {b m : Nat} (hb : b < 10) {s0 : Int32} (hs : s0 = if 0 < m then 1 else 0) : (nI (bN p 10) &&& (((1 : Int32) <<< (nI b &&& 31)) ^^^ (-1))) ||| (s0 <<< (nI b &&& 31)) = nI (bN (fun d => if d = b then decide (0 < m) else p d) 10) := by
  rw [shl_one hb (by omega), bN_ann _ _ (by omega)]
  by_cases h : 0 < m
  · rw [if_pos h] at hs
    rw [hs, shl_one hb (by omega), bN_orB _ _ (by omega)]
    congr 1
    refine bN_cong (fun d _ => ?_)
    by_cases e : d = b
    · rw [if_pos e, decide_eq_true e, decide_eq_true h]; simp
    · rw [if_neg e, decide_eq_false e]; simp
  · rw [if_neg h] at hs
    rw [hs, Int32.zero_shiftLeft, or0]
    congr 1
    refine bN_cong (fun d _ => ?_)
    by_cases e : d = b
    · rw [if_pos e, decide_eq_true e, decide_eq_false h]; simp
    · rw [if_neg e, decide_eq_false e]; simp
theorem rdI_a {T : Nat → Nat} {N : Nat} {g : Nat → Nat} : ∀ {d i bf x a : Nat}, x ≤ N → rdI T N g d i bf x = .inl a → a ≤ N
  | 0, i, bf, x, a, hx, h => by rw [rdI] at h; cases h
  | d + 1, i, bf, x, a, hx, h => by
    cases e : numO T N (skN T N x) with
    | none => rw [rdI_n e] at h; cases h; exact skN_le hx
    | some v =>
      by_cases c : cst (g i) v bf = true
      · rw [rdI_s e c] at h
        cases e2 : rdI T N g d (i + 1) v (teN T N (skN T N x)) with
        | inl b => rw [e2] at h; cases h; exact rdI_a teN_le e2
        | inr q => rw [e2] at h; cases h
      · rw [rdI_f e c] at h; cases h; exact skN_le hx
theorem lnR_a {T : Nat → Nat} {N x a : Nat} (hx : x ≤ N) (h : lnR T N x = .inl a) : a ≤ N := by
  cases e : kdF T N (skN T N x) 6 0 with
  | none => rw [lnR_n e] at h; cases h; exact skN_le hx
  | some k =>
    rw [lnR_s e] at h
    cases e2 : rdI T N (wc (fk k)) (wl (fk k)) 0 0 (teN T N (skN T N x)) with
    | inl b => rw [e2] at h; cases h; exact rdI_a teN_le e2
    | inr q => rw [e2] at h; cases h
theorem rdL_le {T : Nat → Nat} {N : Nat} : ∀ {d x a : Nat}, x ≤ N → rdL T N d x = .inl a → a ≤ N
  | 0, x, a, _, h => by rw [rdL] at h; cases h
  | d + 1, x, a, hx, h => by
    cases e : lnR T N x with
    | inl b => rw [rdL_f e] at h; cases h; exact lnR_a hx e
    | inr p =>
      obtain ⟨hk, hr⟩ := lnR_inv e
      have hp : p.1 ≤ N := rdI_le (q := (p.1, p.2.2)) teN_le hr
      rw [rdL_s e] at h
      split at h
      · split at h
        · split at h
          · cases h; exact skN_le hp
          · cases e2 : rdL T N d (teN T N (skN T N p.1)) with
            | inl b => rw [e2] at h; cases h; exact rdL_le teN_le e2
            | inr m => rw [e2] at h; cases h
        · cases h; exact skN_le hp
      · cases h
theorem rdL_a {T : Nat → Nat} {N d a : Nat} (hN : N ≤ 200) (h : rdL T N d 0 = .inl a) : a ≤ 200 := Nat.le_trans (rdL_le (Nat.zero_le _) h) hN
def wyS (S : aS) (c a b m : Nat) : aS := aup (aup S c (10 * a + b) m) c (10 * b + a) m
section WAYS
variable {S : aS} {σ τ : zS}
theorem wyS_f {c a b m i : Nat} (h : i ≠ c) : wyS S c a b m i = S i := by unfold wyS; rw [aup_f h, aup_f h]
theorem wyS_c {c a b m j : Nat} : wyS S c a b m c j = if j = 10 * a + b ∨ j = 10 * b + a then m else S c j := by
  unfold wyS
  by_cases h : j = 10 * b + a
  · rw [if_pos (Or.inr h), h, aup_at]
  · rw [aup_j h]
    by_cases g : j = 10 * a + b
    · rw [if_pos (Or.inl g), g, aup_at]
    · rw [if_neg (by omega), aup_j g]
theorem wy_bits {c a b m x : Nat} (ha : a < 10) (hb : b < 10) (hab : a ≠ b) (hx : x < 10) : bN (fun d => decide (0 < wyS S c a b m c (10 * x + d))) 10 = bN (fun d => if x = a then (if d = b then decide (0 < m) else decide (0 < S c (10 * x + d))) else if x = b then (if d = a then decide (0 < m) else decide (0 < S c (10 * x + d))) else decide (0 < S c (10 * x + d))) 10 := by
  refine bN_cong (fun d hd => ?_)
  rw [wyS_c]
  by_cases h1 : x = a
  · rw [if_pos h1]
    by_cases h2 : d = b
    · rw [if_pos h2, if_pos (by omega)]
    · rw [if_neg h2, if_neg (by omega)]
  · rw [if_neg h1]
    by_cases h2 : x = b
    · rw [if_pos h2]
      by_cases h3 : d = a
      · rw [if_pos h3, if_pos (by omega)]
      · rw [if_neg h3, if_neg (by omega)]
    · rw [if_neg h2, if_neg (by omega)]
theorem tellWay2 {a b m : Nat} (hA : RA σ S) (ha : a < 10) (hb : b < 10) (hab : a ≠ b) (hm : m ≤ 999) : ∃ σ1, f_X3_tellWay_13_15 (nI a) (nI b) (nI m) σ = some (0, σ1) ∧ RA σ1 (wyS S 9 a b m) ∧ ∀ k, k ≠ 13 → k ≠ 15 → σ1 k = σ k := by
  obtain ⟨σ2, e2⟩ : ∃ σ2, σ2 = zup (zup σ 13 (10 * a + b) (nI m)) 13 (10 * b + a) (nI m) := ⟨_, rfl⟩
  have k2 : ∀ k, k ≠ 13 → σ2 k = σ k := fun k h => by rw [e2, zup_ne h, zup_ne h]
  have wa := hA.2.2.2.2 a ha
  have wb := hA.2.2.2.2 b hb
  obtain ⟨σ1, e1⟩ : ∃ σ1, σ1 = zup (zup σ2 15 a (nI (bN (fun d => if d = b then decide (0 < m) else decide (0 < S 9 (10 * a + d))) 10))) 15 b (nI (bN (fun d => if d = a then decide (0 < m) else decide (0 < S 9 (10 * b + d))) 10)) := ⟨_, rfl⟩
  have hk : ∀ k, k ≠ 13 → k ≠ 15 → σ1 k = σ k := fun k h1 h2 => by rw [e1, zup_ne h2, zup_ne h2, k2 k h1]
  have hJ : ∀ s0 : Int32, s0 = (if 0 < m then 1 else 0) → f_X3_tellWay_13_15_J30 (nI a) (nI b) s0 σ2 = some (0, σ1) := by
    intro s0 hs
    unfold f_X3_tellWay_13_15_J30
    rw [zrd_n ha (by omega), k2 15 (by decide), wa.1, bit_upd _ hb hs, zwr_n ha (by omega), zrd_n hb (by omega), zup_no (Ne.symm hab), k2 15 (by decide), wb.1, bit_upd _ ha hs, zwr_n hb (by omega), ← e1]
  refine ⟨σ1, ?_, ?_, hk⟩
  · unfold f_X3_tellWay_13_15
    rw [zwr_i (x := nI a * 10 + nI b) (j := 10 * a + b) (by rw [q10, pk_mul, nI_add, Nat.mul_comm]) (by omega) (by omega), zwr_i (x := nI b * 10 + nI a) (j := 10 * b + a) (by rw [q10, pk_mul, nI_add, Nat.mul_comm]) (by omega) (by omega), ← e2]
    by_cases h : 0 < m
    · rw [if_neg (by rw [q0, qle_n (by omega) (by omega)]; omega)]
      exact hJ 1 (by rw [if_pos h])
    · rw [if_pos (by rw [q0, qle_n (by omega) (by omega)]; omega)]
      exact hJ 0 (by rw [if_neg h])
  · have c13 : ∀ j, σ1 13 j = if j = 10 * a + b ∨ j = 10 * b + a then nI m else σ 13 j := fun j => by
      rw [e1, zup_ne (by decide), zup_ne (by decide), e2]
      by_cases h : j = 10 * b + a
      · rw [if_pos (Or.inr h), h, zup_at]
      · rw [zup_no h]
        by_cases g : j = 10 * a + b
        · rw [if_pos (Or.inl g), g, zup_at]
        · rw [if_neg (by omega), zup_no g]
    obtain ⟨r, n, t, f, w⟩ := hA
    refine ⟨fun q hq j hj => ?_, ?_, ?_, ?_, fun x hx => ?_⟩
    · have hall : rowsA.all (fun q => ((q.1 == 13) == (q.2.1 == 9)) && decide (q.1 ≠ 15)) = true := by decide
      have e := List.all_eq_true.mp hall q hq
      rw [Bool.and_eq_true] at e
      have hr := r q hq j hj
      by_cases hqk : q.1 = 13
      · have hqc : q.2.1 = 9 := by simpa [hqk] using e.1
        rw [hqk, hqc] at hr ⊢
        rw [c13, wyS_c]
        by_cases g : j = 10 * a + b ∨ j = 10 * b + a
        · rw [if_pos g, if_pos g]
        · rw [if_neg g, if_neg g]; exact hr
      · have hqc : q.2.1 ≠ 9 := by
          intro z
          simp [z, hqk] at e
        rw [hk _ hqk (of_decide_eq_true e.2), wyS_f hqc]; exact hr
    · rw [hk 4 (by decide) (by decide), hk 1 (by decide) (by decide), hk 17 (by decide) (by decide), wyS_f (by decide)]; exact n
    · rw [hk 2 (by decide) (by decide), wyS_f (by decide), wyS_f (by decide)]; exact t
    · rw [hk 25 (by decide) (by decide), hk 26 (by decide) (by decide), wyS_f (by decide), wyS_f (by decide), wyS_f (by decide)]; exact f
    · rw [hk 16 (by decide) (by decide), wyS_f (i := 10) (by decide), wy_bits ha hb hab hx]
      have hw := w x hx
      have main : σ1 15 x = nI (bN (fun d => if x = a then (if d = b then decide (0 < m) else decide (0 < S 9 (10 * x + d))) else if x = b then (if d = a then decide (0 < m) else decide (0 < S 9 (10 * x + d))) else decide (0 < S 9 (10 * x + d))) 10) := by
        rw [e1]
        by_cases h1 : x = a
        · subst h1
          rw [zup_no hab, zup_at]
          congr 1
          exact bN_cong (fun d _ => by rw [if_pos rfl])
        · by_cases h2 : x = b
          · subst h2
            rw [zup_at]
            congr 1
            exact bN_cong (fun d _ => by rw [if_neg h1, if_pos rfl])
          · rw [zup_no h2, zup_no h1, k2 15 (by decide), hw.1]
            congr 1
            exact bN_cong (fun d _ => by rw [if_neg h1, if_neg h2])
      exact ⟨main, hw.2⟩
theorem told2 (hA : RA σ S) (hB : RB τ S) (hI : Inv S) {w0 a b m : Nat} (hw0 : w0 + 8 ≤ 64) (ha : a < 10) (hb : b < 10) (hab : a ≠ b) (hm : m ≤ 999) (a0 : σ 3 w0 = nI 2) (a1 : σ 3 (w0 + 1) = nI a) (a2 : σ 3 (w0 + 2) = nI b) (a3 : σ 3 (w0 + 3) = nI m) (b0 : τ 5 w0 = nI 2) (b1 : τ 5 (w0 + 1) = nI a) (b2 : τ 5 (w0 + 2) = nI b) (b3 : τ 5 (w0 + 3) = nI m) : Told σ τ w0 := by
  obtain ⟨σ1, c1, c2, c3⟩ := tellWay2 (m := m) hA ha hb hab hm
  obtain ⟨τ1, e2⟩ : ∃ τ1, τ1 = zup (zup τ 2 (0 + (10 * a + b)) (nI m)) 2 (0 + (10 * b + a)) (nI m) := ⟨_, rfl⟩
  have hz : ∀ k, k ≠ 2 → τ1 k = τ k := fun k h => by rw [e2, zup_ne h, zup_ne h]
  have hr : ∀ c, c ≠ 9 → wyS S 9 a b m c = S c := fun c h => wyS_f h
  have ixab : 100 * (nI 2 - 2) + 10 * nI a + nI b = nI (0 + (10 * a + b)) := by
    rw [show nI 2 - 2 = nI 0 from rfl, q100, q10, pk_mul, pk_mul, nI_add, nI_add, Nat.add_assoc]
  have ixba : 100 * (nI 2 - 2) + 10 * nI b + nI a = nI (0 + (10 * b + a)) := by
    rw [show nI 2 - 2 = nI 0 from rfl, q100, q10, pk_mul, pk_mul, nI_add, nI_add, Nat.add_assoc]
  refine ⟨wyS S 9 a b m, σ1, τ1, ?_, ?_, c2, ?_, ?_, c3 3 (by decide) (by decide), hz 5 (by decide), by rw [hz 0 (by decide)]⟩
  · unfold f_X3_tell
    rw [zrd_i (x := nI w0 + 1) (j := w0 + 1) (by rw [nI_1]) (by omega) (by omega), a1, zrd_n (by omega) (by omega), a0, if_neg (by decide), if_neg (by decide), if_pos (by decide), zrd_i (x := nI w0 + 2) (j := w0 + 2) (by rw [q2, nI_add]) (by omega) (by omega), a2, zrd_i (x := nI w0 + 3) (j := w0 + 3) (by rw [q3, nI_add]) (by omega) (by omega), a3, c1, zbd_s]
  · unfold f_X10_doLine
    rw [zrd_i (x := nI w0 + 1) (j := w0 + 1) (by rw [nI_1]) (by omega) (by omega), b1, zrd_i (x := nI w0 + 2) (j := w0 + 2) (by rw [q2, nI_add]) (by omega) (by omega), b2, zrd_n (by omega) (by omega), b0, if_neg (by decide), if_neg (by decide), if_pos (by decide), zrd_n (by omega) (by omega), b0, zrd_i (x := nI w0 + 3) (j := w0 + 3) (by rw [q3, nI_add]) (by omega) (by omega), b3, zwr_i ixab (by omega) (by omega), zrd_n (by omega) (by omega), zup_ne (by decide), b0, zrd_i (x := nI w0 + 3) (j := w0 + 3) (by rw [q3, nI_add]) (by omega) (by omega), zup_ne (by decide), b3, zwr_i ixba (by omega) (by omega), ← e2]
  · obtain ⟨a', b', c, ⟨d1, d2, d3, d4, d5⟩, e, f, g⟩ := hB
    refine ⟨?_, ?_, ?_, ⟨?_, ?_, ?_, ?_, ?_⟩, ?_, ?_, ?_⟩
    · rw [hz 1 (by decide), hr 1 (by decide), hr 2 (by decide), hr 3 (by decide)]; exact a'
    · rw [hz 3 (by decide), hr 5 (by decide), hr 6 (by decide), hr 7 (by decide), hr 8 (by decide)]; exact b'
    · intro j hj
      rw [wyS_c, hr 10 (by decide)]
      obtain ⟨x1, x2⟩ := c j hj
      constructor
      · rw [e2]
        by_cases h : j = 10 * b + a
        · rw [if_pos (Or.inr h), h, Nat.zero_add (10 * b + a), zup_at]
        · rw [zup_no (by omega)]
          by_cases g : j = 10 * a + b
          · rw [if_pos (Or.inl g), g, Nat.zero_add (10 * a + b), zup_at]
          · rw [if_neg (by omega), zup_no (by omega)]; exact x1
      · rw [e2, zup_no (by omega), zup_no (by omega)]; exact x2
    · rw [hz 0 (by decide), hr 4 (by decide)]; exact d1
    · rw [hz 0 (by decide), hr 11 (by decide)]; exact d2
    · rw [hz 0 (by decide), hr 11 (by decide)]; exact d3
    · rw [hz 0 (by decide), hr 11 (by decide)]; exact d4
    · rw [hz 0 (by decide), hr 11 (by decide)]; exact d5
    · rw [hz 4 (by decide), hr 11 (by decide), hr 12 (by decide)]; exact e
    · rw [hz 6 (by decide), hr 11 (by decide), hr 13 (by decide), hr 14 (by decide), hr 15 (by decide), hr 16 (by decide), hr 17 (by decide), hr 18 (by decide), hr 19 (by decide), hr 20 (by decide), hr 21 (by decide)]; exact f
    · rw [hz 17 (by decide), hz 18 (by decide), hr 22 (by decide), hr 23 (by decide)]; exact g
  · obtain ⟨i1, i2, i3, i4, i5, i6, i7, i8, i9⟩ := hI
    refine ⟨?_, ?_, ?_, ?_, ?_, ?_, ?_, ?_, ?_⟩
    · rw [hr 1 (by decide), hr 2 (by decide), hr 3 (by decide)]; exact i1
    · rw [hr 4 (by decide), hr 5 (by decide), hr 6 (by decide), hr 7 (by decide), hr 8 (by decide)]; exact i2
    · intro j hj
      rw [wyS_c, hr 10 (by decide)]
      refine ⟨?_, (i3 j hj).2⟩
      split
      · exact hm
      · exact (i3 j hj).1
    · rw [hr 11 (by decide)]; exact i4
    · rw [hr 11 (by decide), hr 12 (by decide)]; exact i5
    · rw [hr 11 (by decide), hr 13 (by decide), hr 14 (by decide), hr 15 (by decide), hr 16 (by decide), hr 17 (by decide), hr 18 (by decide), hr 19 (by decide), hr 20 (by decide), hr 21 (by decide)]; exact i6
    · rw [hr 11 (by decide), hr 18 (by decide), hr 19 (by decide)]; exact i7
    · rw [hr 22 (by decide), hr 23 (by decide)]; exact i8
    · rw [hr 11 (by decide), hr 20 (by decide)]; exact i9
theorem tellWay3 {a b m : Nat} (hA : RA σ S) (ha : a < 10) (hb : b < 10) (hab : a ≠ b) (hm : m ≤ 999) : ∃ σ1, f_X3_tellWay_14_16 (nI a) (nI b) (nI m) σ = some (0, σ1) ∧ RA σ1 (wyS S 10 a b m) ∧ ∀ k, k ≠ 14 → k ≠ 16 → σ1 k = σ k := by
  obtain ⟨σ2, e2⟩ : ∃ σ2, σ2 = zup (zup σ 14 (10 * a + b) (nI m)) 14 (10 * b + a) (nI m) := ⟨_, rfl⟩
  have k2 : ∀ k, k ≠ 14 → σ2 k = σ k := fun k h => by rw [e2, zup_ne h, zup_ne h]
  have wa := hA.2.2.2.2 a ha
  have wb := hA.2.2.2.2 b hb
  obtain ⟨σ1, e1⟩ : ∃ σ1, σ1 = zup (zup σ2 16 a (nI (bN (fun d => if d = b then decide (0 < m) else decide (0 < S 10 (10 * a + d))) 10))) 16 b (nI (bN (fun d => if d = a then decide (0 < m) else decide (0 < S 10 (10 * b + d))) 10)) := ⟨_, rfl⟩
  have hk : ∀ k, k ≠ 14 → k ≠ 16 → σ1 k = σ k := fun k h1 h2 => by rw [e1, zup_ne h2, zup_ne h2, k2 k h1]
  have hJ : ∀ s0 : Int32, s0 = (if 0 < m then 1 else 0) → f_X3_tellWay_14_16_J30 (nI a) (nI b) s0 σ2 = some (0, σ1) := by
    intro s0 hs
    unfold f_X3_tellWay_14_16_J30
    rw [zrd_n ha (by omega), k2 16 (by decide), wa.2, bit_upd _ hb hs, zwr_n ha (by omega), zrd_n hb (by omega), zup_no (Ne.symm hab), k2 16 (by decide), wb.2, bit_upd _ ha hs, zwr_n hb (by omega), ← e1]
  refine ⟨σ1, ?_, ?_, hk⟩
  · unfold f_X3_tellWay_14_16
    rw [zwr_i (x := nI a * 10 + nI b) (j := 10 * a + b) (by rw [q10, pk_mul, nI_add, Nat.mul_comm]) (by omega) (by omega), zwr_i (x := nI b * 10 + nI a) (j := 10 * b + a) (by rw [q10, pk_mul, nI_add, Nat.mul_comm]) (by omega) (by omega), ← e2]
    by_cases h : 0 < m
    · rw [if_neg (by rw [q0, qle_n (by omega) (by omega)]; omega)]
      exact hJ 1 (by rw [if_pos h])
    · rw [if_pos (by rw [q0, qle_n (by omega) (by omega)]; omega)]
      exact hJ 0 (by rw [if_neg h])
  · have c13 : ∀ j, σ1 14 j = if j = 10 * a + b ∨ j = 10 * b + a then nI m else σ 14 j := fun j => by
      rw [e1, zup_ne (by decide), zup_ne (by decide), e2]
      by_cases h : j = 10 * b + a
      · rw [if_pos (Or.inr h), h, zup_at]
      · rw [zup_no h]
        by_cases g : j = 10 * a + b
        · rw [if_pos (Or.inl g), g, zup_at]
        · rw [if_neg (by omega), zup_no g]
    obtain ⟨r, n, t, f, w⟩ := hA
    refine ⟨fun q hq j hj => ?_, ?_, ?_, ?_, fun x hx => ?_⟩
    · have hall : rowsA.all (fun q => ((q.1 == 14) == (q.2.1 == 10)) && decide (q.1 ≠ 16)) = true := by decide
      have e := List.all_eq_true.mp hall q hq
      rw [Bool.and_eq_true] at e
      have hr := r q hq j hj
      by_cases hqk : q.1 = 14
      · have hqc : q.2.1 = 10 := by simpa [hqk] using e.1
        rw [hqk, hqc] at hr ⊢
        rw [c13, wyS_c]
        by_cases g : j = 10 * a + b ∨ j = 10 * b + a
        · rw [if_pos g, if_pos g]
        · rw [if_neg g, if_neg g]; exact hr
      · have hqc : q.2.1 ≠ 10 := by
          intro z
          simp [z, hqk] at e
        rw [hk _ hqk (of_decide_eq_true e.2), wyS_f hqc]; exact hr
    · rw [hk 4 (by decide) (by decide), hk 1 (by decide) (by decide), hk 17 (by decide) (by decide), wyS_f (by decide)]; exact n
    · rw [hk 2 (by decide) (by decide), wyS_f (by decide), wyS_f (by decide)]; exact t
    · rw [hk 25 (by decide) (by decide), hk 26 (by decide) (by decide), wyS_f (by decide), wyS_f (by decide), wyS_f (by decide)]; exact f
    · rw [hk 15 (by decide) (by decide), wyS_f (i := 9) (by decide), wy_bits ha hb hab hx]
      have hw := w x hx
      have main : σ1 16 x = nI (bN (fun d => if x = a then (if d = b then decide (0 < m) else decide (0 < S 10 (10 * x + d))) else if x = b then (if d = a then decide (0 < m) else decide (0 < S 10 (10 * x + d))) else decide (0 < S 10 (10 * x + d))) 10) := by
        rw [e1]
        by_cases h1 : x = a
        · subst h1
          rw [zup_no hab, zup_at]
          congr 1
          exact bN_cong (fun d _ => by rw [if_pos rfl])
        · by_cases h2 : x = b
          · subst h2
            rw [zup_at]
            congr 1
            exact bN_cong (fun d _ => by rw [if_neg h1, if_pos rfl])
          · rw [zup_no h2, zup_no h1, k2 16 (by decide), hw.2]
            congr 1
            exact bN_cong (fun d _ => by rw [if_neg h1, if_neg h2])
      exact ⟨hw.1, main⟩
theorem told3 (hA : RA σ S) (hB : RB τ S) (hI : Inv S) {w0 a b m : Nat} (hw0 : w0 + 8 ≤ 64) (ha : a < 10) (hb : b < 10) (hab : a ≠ b) (hm : m ≤ 999) (a0 : σ 3 w0 = nI 3) (a1 : σ 3 (w0 + 1) = nI a) (a2 : σ 3 (w0 + 2) = nI b) (a3 : σ 3 (w0 + 3) = nI m) (b0 : τ 5 w0 = nI 3) (b1 : τ 5 (w0 + 1) = nI a) (b2 : τ 5 (w0 + 2) = nI b) (b3 : τ 5 (w0 + 3) = nI m) : Told σ τ w0 := by
  obtain ⟨σ1, c1, c2, c3⟩ := tellWay3 (m := m) hA ha hb hab hm
  obtain ⟨τ1, e2⟩ : ∃ τ1, τ1 = zup (zup τ 2 (100 + (10 * a + b)) (nI m)) 2 (100 + (10 * b + a)) (nI m) := ⟨_, rfl⟩
  have hz : ∀ k, k ≠ 2 → τ1 k = τ k := fun k h => by rw [e2, zup_ne h, zup_ne h]
  have hr : ∀ c, c ≠ 10 → wyS S 10 a b m c = S c := fun c h => wyS_f h
  have ixab : 100 * (nI 3 - 2) + 10 * nI a + nI b = nI (100 + (10 * a + b)) := by
    rw [show nI 3 - 2 = nI 1 from rfl, q100, q10, pk_mul, pk_mul, nI_add, nI_add, Nat.add_assoc]
  have ixba : 100 * (nI 3 - 2) + 10 * nI b + nI a = nI (100 + (10 * b + a)) := by
    rw [show nI 3 - 2 = nI 1 from rfl, q100, q10, pk_mul, pk_mul, nI_add, nI_add, Nat.add_assoc]
  refine ⟨wyS S 10 a b m, σ1, τ1, ?_, ?_, c2, ?_, ?_, c3 3 (by decide) (by decide), hz 5 (by decide), by rw [hz 0 (by decide)]⟩
  · unfold f_X3_tell
    rw [zrd_i (x := nI w0 + 1) (j := w0 + 1) (by rw [nI_1]) (by omega) (by omega), a1, zrd_n (by omega) (by omega), a0, if_neg (by decide), if_neg (by decide), if_neg (by decide), if_pos (by decide), zrd_i (x := nI w0 + 2) (j := w0 + 2) (by rw [q2, nI_add]) (by omega) (by omega), a2, zrd_i (x := nI w0 + 3) (j := w0 + 3) (by rw [q3, nI_add]) (by omega) (by omega), a3, c1, zbd_s]
  · unfold f_X10_doLine
    rw [zrd_i (x := nI w0 + 1) (j := w0 + 1) (by rw [nI_1]) (by omega) (by omega), b1, zrd_i (x := nI w0 + 2) (j := w0 + 2) (by rw [q2, nI_add]) (by omega) (by omega), b2, zrd_n (by omega) (by omega), b0, if_neg (by decide), if_neg (by decide), if_neg (by decide), if_pos (by decide), zrd_n (by omega) (by omega), b0, zrd_i (x := nI w0 + 3) (j := w0 + 3) (by rw [q3, nI_add]) (by omega) (by omega), b3, zwr_i ixab (by omega) (by omega), zrd_n (by omega) (by omega), zup_ne (by decide), b0, zrd_i (x := nI w0 + 3) (j := w0 + 3) (by rw [q3, nI_add]) (by omega) (by omega), zup_ne (by decide), b3, zwr_i ixba (by omega) (by omega), ← e2]
  · obtain ⟨a', b', c, ⟨d1, d2, d3, d4, d5⟩, e, f, g⟩ := hB
    refine ⟨?_, ?_, ?_, ⟨?_, ?_, ?_, ?_, ?_⟩, ?_, ?_, ?_⟩
    · rw [hz 1 (by decide), hr 1 (by decide), hr 2 (by decide), hr 3 (by decide)]; exact a'
    · rw [hz 3 (by decide), hr 5 (by decide), hr 6 (by decide), hr 7 (by decide), hr 8 (by decide)]; exact b'
    · intro j hj
      rw [wyS_c, hr 9 (by decide)]
      obtain ⟨x1, x2⟩ := c j hj
      constructor
      · rw [e2, zup_no (by omega), zup_no (by omega)]; exact x1
      · rw [e2]
        by_cases h : j = 10 * b + a
        · rw [if_pos (Or.inr h), h, zup_at]
        · rw [zup_no (by omega)]
          by_cases g : j = 10 * a + b
          · rw [if_pos (Or.inl g), g, zup_at]
          · rw [if_neg (by omega), zup_no (by omega)]; exact x2
    · rw [hz 0 (by decide), hr 4 (by decide)]; exact d1
    · rw [hz 0 (by decide), hr 11 (by decide)]; exact d2
    · rw [hz 0 (by decide), hr 11 (by decide)]; exact d3
    · rw [hz 0 (by decide), hr 11 (by decide)]; exact d4
    · rw [hz 0 (by decide), hr 11 (by decide)]; exact d5
    · rw [hz 4 (by decide), hr 11 (by decide), hr 12 (by decide)]; exact e
    · rw [hz 6 (by decide), hr 11 (by decide), hr 13 (by decide), hr 14 (by decide), hr 15 (by decide), hr 16 (by decide), hr 17 (by decide), hr 18 (by decide), hr 19 (by decide), hr 20 (by decide), hr 21 (by decide)]; exact f
    · rw [hz 17 (by decide), hz 18 (by decide), hr 22 (by decide), hr 23 (by decide)]; exact g
  · obtain ⟨i1, i2, i3, i4, i5, i6, i7, i8, i9⟩ := hI
    refine ⟨?_, ?_, ?_, ?_, ?_, ?_, ?_, ?_, ?_⟩
    · rw [hr 1 (by decide), hr 2 (by decide), hr 3 (by decide)]; exact i1
    · rw [hr 4 (by decide), hr 5 (by decide), hr 6 (by decide), hr 7 (by decide), hr 8 (by decide)]; exact i2
    · intro j hj
      rw [wyS_c, hr 9 (by decide)]
      refine ⟨(i3 j hj).1, ?_⟩
      split
      · exact hm
      · exact (i3 j hj).2
    · rw [hr 11 (by decide)]; exact i4
    · rw [hr 11 (by decide), hr 12 (by decide)]; exact i5
    · rw [hr 11 (by decide), hr 13 (by decide), hr 14 (by decide), hr 15 (by decide), hr 16 (by decide), hr 17 (by decide), hr 18 (by decide), hr 19 (by decide), hr 20 (by decide), hr 21 (by decide)]; exact i6
    · rw [hr 11 (by decide), hr 18 (by decide), hr 19 (by decide)]; exact i7
    · rw [hr 22 (by decide), hr 23 (by decide)]; exact i8
    · rw [hr 11 (by decide), hr 20 (by decide)]; exact i9
theorem toldAny (hA : RA σ S) (hB : RB τ S) (hI : Inv S) {k : Nat} (hk : k < 8) {q : Nat × List Nat} (hq : okLn q) (h1 : σ 3 (8 * k) = nI q.1 ∧ ∀ j, j < q.2.length → σ 3 (8 * k + 1 + j) = nI (q.2.getD j 0)) (h2 : τ 5 (8 * k) = nI q.1 ∧ ∀ j, j < q.2.length → τ 5 (8 * k + 1 + j) = nI (q.2.getD j 0)) : Told σ τ (8 * k) := by
  obtain ⟨a0, aa⟩ := h1
  obtain ⟨b0, bb⟩ := h2
  rcases hq with ⟨e, p, y, z, w, e2, g1, g2, g3, g4, g5⟩ | ⟨e, f, p, y, a, b, c, s, e2, g1, g2, g3, g4, g5, g6, g7⟩ | ⟨e, a, b, m, e2, g1, g2, g3, g4⟩ | ⟨e, v, e2, g1⟩
  · rw [e] at a0 b0
    rw [e2] at aa bb
    exact told0 hA hB hI (by omega) g1 g2 g3 ⟨g4, g5⟩ a0 (aa 0 (by simp)) (aa 1 (by simp)) (aa 2 (by simp)) (aa 3 (by simp)) b0 (bb 0 (by simp)) (bb 1 (by simp)) (bb 2 (by simp)) (bb 3 (by simp))
  · rw [e] at a0 b0
    rw [e2] at aa bb
    exact told1 hA hB hI (by omega) g1 g2 g3 g4 g5 g6 g7 a0 aa b0 bb
  · rw [e2] at aa bb
    rcases e with e | e
    · rw [e] at a0 b0
      exact told2 hA hB hI (by omega) g1 g2 g3 g4 a0 (aa 0 (by simp)) (aa 1 (by simp)) (aa 2 (by simp)) b0 (bb 0 (by simp)) (bb 1 (by simp)) (bb 2 (by simp))
    · rw [e] at a0 b0
      exact told3 hA hB hI (by omega) g1 g2 g3 g4 a0 (aa 0 (by simp)) (aa 1 (by simp)) (aa 2 (by simp)) b0 (bb 0 (by simp)) (bb 1 (by simp)) (bb 2 (by simp))
  · rw [e2] at aa bb
    rcases e with e | e
    · rw [e] at a0 b0
      exact told4 hA hB hI (by omega) g1 a0 (aa 0 (by simp)) b0 (bb 0 (by simp))
    · rw [e] at a0 b0
      exact told5 hA hB hI (by omega) g1 a0 (aa 0 (by simp)) b0 (bb 0 (by simp))
end WAYS
theorem landL : ∀ (l : List (Nat × List Nat)) (k n : Nat) (S : aS) (σ τ : zS), RA σ S → RB τ S → Inv S → Lns (σ 3) k l → Lns (τ 5) k l → (∀ q ∈ l, okLn q) → k + l.length ≤ 8 → τ 0 14 = nI (k + l.length) → l.length < n → ∃ S1, Ag (f_X9_land_L24 (nI (k + l.length)) n (nI k) σ) (f_X10_land_L12 n (nI k) τ) S1
  | [], k, n, S, σ, τ, hA, hB, hI, _, _, _, h8, h14, hn => by
    obtain ⟨n, rfl⟩ : ∃ m, n = m + 1 := ⟨n - 1, by omega⟩
    obtain ⟨r, σ1, τ1, e1, e2, a1, a2, a3⟩ := ag_erase hA hB hI
    have f1 : f_X9_erase σ = some (σ 1 1, zup σ 1 1 0) := rfl
    have f2 : f_X10_erase τ = some (τ 0 6, zup τ 0 6 0) := rfl
    rw [f1] at e1
    rw [f2] at e2
    have q1 : zup σ 1 1 0 = σ1 := congrArg Prod.snd (Option.some.inj e1)
    have q2 : zup τ 0 6 0 = τ1 := congrArg Prod.snd (Option.some.inj e2)
    rw [← q1] at a1
    rw [← q2] at a2
    refine ⟨aup S 11 2 0, Ag.mk (r := nI k) ?_ ?_ a1 a2 a3⟩
    · rw [f_X9_land_L24, List.length_nil, Nat.add_zero, if_pos (Int32.le_refl _)]
      rfl
    · rw [List.length_nil, Nat.add_zero] at h14
      rw [f_X10_land_L12, h14, if_pos (Int32.le_refl _), zst_s, zup_no (by decide), h14]
  | q :: l, k, n, S, σ, τ, hA, hB, hI, h1, h2, hq, h8, h14, hn => by
    obtain ⟨n, rfl⟩ : ∃ m, n = m + 1 := ⟨n - 1, by omega⟩
    rw [List.length_cons] at h8 h14 hn
    obtain ⟨S1, σ1, τ1, e1, e2, a1, a2, a3, a4, a5, a6⟩ := toldAny hA hB hI (k := k) (by omega) (hq q (List.mem_cons_self ..)) h1.1 h2.1
    obtain ⟨S2, r⟩ := landL l (k + 1) n S1 σ1 τ1 a1 a2 a3 (by rw [a4]; exact h1.2) (by rw [a5]; exact h2.2) (fun p hp => hq p (List.mem_cons_of_mem _ hp)) (by omega) (by rw [a6, h14]; congr 1; omega) (by omega)
    refine ⟨S2, ?_⟩
    rw [List.length_cons, f_X9_land_L24, if_neg (by rw [qle_n (by omega) (by omega)]; omega), show nI k * 8 = nI (8 * k) by rw [q8, pk_mul, Nat.mul_comm], e1, zbd_s, f_X10_land_L12, h14, if_neg (by rw [qle_n (by omega) (by omega)]; omega), show 8 * nI k = nI (8 * k) by rw [q8, pk_mul], e2, zbd_s, nI_1, show k + (l.length + 1) = k + 1 + l.length by omega]
    exact r
theorem ag_land {S : aS} {σ τ : zS} (hA : RA σ S) (hB : RB τ S) (hI : Inv S) : ∃ S1, Ag (f_X9_land σ) (f_X10_land τ) S1 := by
  have h1 := readA (TA_of hA hI)
  have h2 := isReadB (TB_of hB hI)
  unfold f_X9_land f_X10_land
  cases e : rdL (S 12) (S 11 2) 8 0 with
  | inl a =>
    rw [e] at h1 h2
    obtain ⟨σ1, a1, a2⟩ := h1
    obtain ⟨τ1, b1, b2, b3⟩ := h2
    have ha : a < 2147483648 := by
      have := rdL_a hI.l200 e
      omega
    rw [a1, b1, zbd_s, zbd_s, if_pos rfl, if_neg (nI_nm ha)]
    exact ⟨S, Ag.mk rfl rfl (RA_r hA a2) (RB_q hB b2) hI⟩
  | inr l =>
    rw [e] at h1 h2
    obtain ⟨σ1, a1, a2, a3, a4, _⟩ := h1
    obtain ⟨τ1, b1, b2, b3, b4, _⟩ := h2
    have hl := rdL_len e
    rw [a1, b1, zbd_s, zbd_s, if_pos (show (-1 : Int32) = -1 from rfl), if_neg (show ¬ (1 : Int32) = 0 by decide), a3]
    exact landL l 0 zfu S σ1 τ1 (RA_r hA a2) (RB_q hB b2) hI a4 b4 (okAll e) (by omega) b3 (zfu_gt (by omega))
