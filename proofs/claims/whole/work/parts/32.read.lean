/-! PURE: calls that only read -/
theorem ix1 (a b c : Nat) : nI a * nI b + nI c = nI (a * b + c) := by rw [pk_mul, nI_add]
theorem ne_t {x : Int32} {n : Nat} (h : ¬ x = nI n) (hn : n < 2147483648) : x.toInt ≠ n := fun e => h (by rw [qeq, qti hn]; exact e)
theorem t0 : (0 : Int32).toInt = 0 := rfl
theorem t1 : (1 : Int32).toInt = 1 := rfl
theorem t2 : (2 : Int32).toInt = 2 := rfl
theorem t5 : (5 : Int32).toInt = 5 := rfl
theorem t8 : (8 : Int32).toInt = 8 := rfl
theorem t9 : (9 : Int32).toInt = 9 := rfl
theorem t99 : (99 : Int32).toInt = 99 := rfl
theorem t999 : (999 : Int32).toInt = 999 := rfl
theorem t9999 : (9999 : Int32).toInt = 9999 := rfl
theorem tm1 : (-1 : Int32).toInt = -1 := rfl
section READ
variable {σ τ : zS} {S : aS}
theorem ag_place (hA : RA σ S) (hB : RB τ S) (hI : Inv S) (x1 x2 : Int32) : Ag (f_X9_place x1 x2 σ) (f_X10_place x1 x2 τ) S := by
  simp only [f_X9_place, f_X10_place, isPlaceA, isPlaceB, inB, zbd_s, ifz]
  by_cases h : vd x1 10
  · obtain ⟨p, hp, rfl⟩ := vd_of h
    rw [if_pos h, if_pos h]
    by_cases e0 : x2 = 0
    · subst e0
      rw [if_pos rfl, if_pos (by decide)]
      exact Ag.mk (r := nI (S 1 p)) (by rw [zrd_n hp (by omega), hA.row 5 1 10 (by decide) hp]) (by rw [zrd_i (x := 3 * nI p + 0) (j := 3 * p + 0) (ix1 3 p 0) (by omega) (by omega), Nat.add_zero, (hB.pl hp).1]) hA hB hI
    rw [if_neg e0]
    by_cases e1 : x2 = 1
    · subst e1
      rw [if_pos rfl, if_pos (by decide)]
      exact Ag.mk (r := nI (S 2 p)) (by rw [zrd_n hp (by omega), hA.row 6 2 10 (by decide) hp]) (by rw [zrd_i (x := 3 * nI p + 1) (j := 3 * p + 1) (ix1 3 p 1) (by omega) (by omega), (hB.pl hp).2.1]) hA hB hI
    rw [if_neg e1]
    by_cases e2 : x2 = 2
    · subst e2
      rw [if_pos rfl, if_pos (by decide)]
      exact Ag.mk (r := nI (S 3 p)) (by rw [zrd_n hp (by omega), hA.row 7 3 10 (by decide) hp]) (by rw [zrd_i (x := 3 * nI p + 2) (j := 3 * p + 2) (ix1 3 p 2) (by omega) (by omega), (hB.pl hp).2.2]) hA hB hI
    rw [if_neg e2, if_neg (by
      have a0 := ne_t (n := 0) e0 (by omega); have a1 := ne_t (n := 1) e1 (by omega); have a2 := ne_t (n := 2) e2 (by omega)
      rw [t0, t2]; omega)]
    exact Ag.mk rfl rfl hA hB hI
  · rw [if_neg h, if_neg h]
    exact Ag.mk rfl rfl hA hB hI
theorem ag_way (hA : RA σ S) (hB : RB τ S) (hI : Inv S) (x1 x2 x3 : Int32) : Ag (f_X9_way x1 x2 x3 σ) (f_X10_way x1 x2 x3 τ) S := by
  simp only [f_X9_way, f_X10_way, isPlaceA, isPlaceB, inB, zbd_s, ifz]
  by_cases h : vd x1 10
  · rw [if_pos h, if_pos h]
    by_cases g : vd x2 10
    · rw [if_pos g, if_pos g]
      by_cases e : x1 = x2
      · rw [if_pos e, if_pos e]; exact Ag.mk rfl rfl hA hB hI
      rw [if_neg e, if_neg e]
      obtain ⟨p, hp, rfl⟩ := vd_of h
      obtain ⟨q, hq, rfl⟩ := vd_of g
      by_cases e0 : x3 = 0
      · subst e0
        rw [if_pos rfl, if_pos (by decide)]
        have ea : nI p * 10 + nI q = nI (10 * p + q) := by rw [q10, pk_mul, nI_add, Nat.mul_comm]
        have eb : 100 * 0 + 10 * nI p + nI q = nI (10 * p + q) := by
          show nI 100 * nI 0 + nI 10 * nI p + nI q = _
          rw [pk_mul, pk_mul, nI_add, nI_add]; congr 1; omega
        exact Ag.mk (r := nI (S 9 (10 * p + q))) (by rw [zrd_i ea (by omega) (by omega), hA.row 13 9 100 (by decide) (by omega)]) (by rw [zrd_i eb (by omega) (by omega), (hB.wy (by omega)).1]) hA hB hI
      rw [if_neg e0]
      by_cases e1 : x3 = 1
      · subst e1
        rw [if_pos rfl, if_pos (by decide)]
        have ea : nI p * 10 + nI q = nI (10 * p + q) := by rw [q10, pk_mul, nI_add, Nat.mul_comm]
        have eb : 100 * 1 + 10 * nI p + nI q = nI (100 + (10 * p + q)) := by
          show nI 100 * nI 1 + nI 10 * nI p + nI q = _
          rw [pk_mul, pk_mul, nI_add, nI_add]; congr 1; omega
        exact Ag.mk (r := nI (S 10 (10 * p + q))) (by rw [zrd_i ea (by omega) (by omega), hA.row 14 10 100 (by decide) (by omega)]) (by rw [zrd_i eb (by omega) (by omega), (hB.wy (by omega)).2]) hA hB hI
      rw [if_neg e1, if_neg (by
        have a0 := ne_t (n := 0) e0 (by omega); have a1 := ne_t (n := 1) e1 (by omega)
        rw [t0, t1]; omega)]
      exact Ag.mk rfl rfl hA hB hI
    · rw [if_neg g, if_neg g]; exact Ag.mk rfl rfl hA hB hI
  · rw [if_neg h, if_neg h]; exact Ag.mk rfl rfl hA hB hI
theorem ag_flow (hA : RA σ S) (hB : RB τ S) (hI : Inv S) (x1 x2 : Int32) : Ag (f_X9_flow x1 x2 σ) (f_X10_flow x1 x2 τ) S := by
  simp only [f_X9_flow, f_X10_flow, isToldA hA hI, isFlowB hB, inB, zbd_s, ifz]
  by_cases h : tl S x1
  · rw [if_pos h, if_pos h]
    obtain ⟨f, hf, rfl, h4⟩ := tl_of h
    obtain ⟨b0, b1, b2, b5⟩ := hB.fl hf
    by_cases e0 : x2 = 0
    · subst e0
      rw [if_pos rfl, if_pos (by decide)]
      exact Ag.mk (r := nI (S 5 f)) (by rw [zrd_n hf (by omega), hA.row 9 5 9 (by decide) hf]) (by rw [zrd_i (x := 6 * nI f + 0) (j := 6 * f + 0) (ix1 6 f 0) (by omega) (by omega), Nat.add_zero, b0]) hA hB hI
    rw [if_neg e0]
    by_cases e1 : x2 = 1
    · subst e1
      rw [if_pos rfl, if_pos (by decide)]
      exact Ag.mk (r := nI (S 6 f)) (by rw [zrd_n hf (by omega), hA.row 10 6 9 (by decide) hf]) (by rw [zrd_i (x := 6 * nI f + 1) (j := 6 * f + 1) (ix1 6 f 1) (by omega) (by omega), b1]) hA hB hI
    rw [if_neg e1]
    have key : ∀ i, i < 3 → nI f * 3 + nI (2 + i) - 2 = nI (3 * f + i) := by
      intro i hi
      show nI f * nI 3 + nI (2 + i) - nI 2 = _
      rw [pk_mul, nI_add, pk_sub (by omega)]; congr 1; omega
    by_cases e2 : x2 = 2
    · subst e2
      rw [if_pos rfl, if_pos (by decide)]
      exact Ag.mk (r := nI (S 7 (3 * f + 0))) (by rw [zrd_i (x := nI f * 3 + 2 - 2) (key 0 (by omega)) (by omega) (by omega), hA.row 11 7 27 (by decide) (by omega)]) (by rw [zrd_i (x := 6 * nI f + 2) (j := 6 * f + 2) (ix1 6 f 2) (by omega) (by omega)]; rw [← b2 0 (by omega)]) hA hB hI
    rw [if_neg e2]
    by_cases e3 : x2 = 3
    · subst e3
      rw [if_pos rfl, if_pos (by decide)]
      exact Ag.mk (r := nI (S 7 (3 * f + 1))) (by rw [zrd_i (x := nI f * 3 + 3 - 2) (key 1 (by omega)) (by omega) (by omega), hA.row 11 7 27 (by decide) (by omega)]) (by rw [zrd_i (x := 6 * nI f + 3) (j := 6 * f + 3) (ix1 6 f 3) (by omega) (by omega)]; rw [← b2 1 (by omega)]) hA hB hI
    rw [if_neg e3]
    by_cases e4 : x2 = 4
    · subst e4
      rw [if_pos rfl, if_pos (by decide)]
      exact Ag.mk (r := nI (S 7 (3 * f + 2))) (by rw [zrd_i (x := nI f * 3 + 4 - 2) (key 2 (by omega)) (by omega) (by omega), hA.row 11 7 27 (by decide) (by omega)]) (by rw [zrd_i (x := 6 * nI f + 4) (j := 6 * f + 4) (ix1 6 f 4) (by omega) (by omega)]; rw [← b2 2 (by omega)]) hA hB hI
    rw [if_neg e4]
    by_cases e5 : x2 = 5
    · subst e5
      rw [if_pos rfl, if_pos (by decide)]
      exact Ag.mk (r := nI (S 8 f)) (by rw [zrd_n hf (by omega), hA.row 12 8 9 (by decide) hf]) (by rw [zrd_i (x := 6 * nI f + 5) (j := 6 * f + 5) (ix1 6 f 5) (by omega) (by omega), b5]) hA hB hI
    rw [if_neg e5, if_neg (by
      have a0 := ne_t (n := 0) e0 (by omega); have a1 := ne_t (n := 1) e1 (by omega); have a2 := ne_t (n := 2) e2 (by omega); have a3 := ne_t (n := 3) e3 (by omega); have a4 := ne_t (n := 4) e4 (by omega); have a5 := ne_t (n := 5) e5 (by omega)
      rw [t0, t5]; omega)]
    exact Ag.mk rfl rfl hA hB hI
  · rw [if_neg h, if_neg h]; exact Ag.mk rfl rfl hA hB hI
theorem ag_of (hA : RA σ S) (hB : RB τ S) (hI : Inv S) (x1 x2 : Int32) : Ag (f_X9_of x1 x2 σ) (f_X10_of x1 x2 τ) S := by
  have hn := hI.n12
  simp only [f_X9_of, f_X10_of, hasA hA hI, isBladeB hB hI, inB, zbd_s, ifz]
  by_cases h : vd x1 (S 11 3)
  · rw [if_pos h, if_pos h]
    obtain ⟨b, hb, rfl⟩ := vd_of h
    have hb12 : b < 12 := by omega
    obtain ⟨b0, b1, b4, b5, b6, b7, b8, b9, b10⟩ := hB.bl hb
    by_cases e0 : x2 = 0
    · subst e0
      rw [if_pos rfl, if_pos (by decide), atB (x := nI b) (y := 0) (k := 0) hb12 (by omega) rfl rfl, zbd_s, zrd_n hb12 (by omega), hA.row 18 13 12 (by decide) hb12, Nat.add_zero, b0]
      exact Ag.mk rfl rfl hA hB hI
    rw [if_neg e0]
    have key : ∀ i, i < 3 → nI b * 3 + nI (1 + i) - 1 = nI (3 * b + i) := by
      intro i hi
      show nI b * nI 3 + nI (1 + i) - nI 1 = _
      rw [pk_mul, nI_add, pk_sub (by omega)]; congr 1; omega
    by_cases e1 : x2 = 1
    · subst e1
      rw [if_pos rfl, if_pos (by decide), atB (x := nI b) (y := 1) (k := 1) hb12 (by omega) rfl rfl, zbd_s, zrd_i (x := nI b * 3 + 1 - 1) (key 0 (by omega)) (by omega) (by omega), hA.row 19 14 36 (by decide) (by omega), ← b1 0 (by omega)]
      exact Ag.mk rfl rfl hA hB hI
    rw [if_neg e1]
    by_cases e2 : x2 = 2
    · subst e2
      rw [if_pos rfl, if_pos (by decide), atB (x := nI b) (y := 2) (k := 2) hb12 (by omega) rfl rfl, zbd_s, zrd_i (x := nI b * 3 + 2 - 1) (key 1 (by omega)) (by omega) (by omega), hA.row 19 14 36 (by decide) (by omega), ← b1 1 (by omega)]
      exact Ag.mk rfl rfl hA hB hI
    rw [if_neg e2]
    by_cases e3 : x2 = 3
    · subst e3
      rw [if_pos rfl, if_pos (by decide), atB (x := nI b) (y := 3) (k := 3) hb12 (by omega) rfl rfl, zbd_s, zrd_i (x := nI b * 3 + 3 - 1) (key 2 (by omega)) (by omega) (by omega), hA.row 19 14 36 (by decide) (by omega), ← b1 2 (by omega)]
      exact Ag.mk rfl rfl hA hB hI
    rw [if_neg e3]
    by_cases e4 : x2 = 4
    · subst e4
      rw [if_pos rfl, if_pos (by decide), atB (x := nI b) (y := 4) (k := 4) hb12 (by omega) rfl rfl, zbd_s, zrd_n hb12 (by omega), hA.row 20 15 12 (by decide) hb12, b4]
      exact Ag.mk rfl rfl hA hB hI
    rw [if_neg e4]
    by_cases e5 : x2 = 5
    · subst e5
      rw [if_pos rfl, if_pos (by decide), atB (x := nI b) (y := 5) (k := 5) hb12 (by omega) rfl rfl, zbd_s, zrd_n hb12 (by omega), hA.row 21 16 12 (by decide) hb12, b5]
      exact Ag.mk rfl rfl hA hB hI
    rw [if_neg e5]
    by_cases e6 : x2 = 6
    · subst e6
      rw [if_pos rfl, if_pos (by decide), atB (x := nI b) (y := 6) (k := 6) hb12 (by omega) rfl rfl, zbd_s, zrd_n hb12 (by omega), hA.row 22 17 12 (by decide) hb12, b6]
      exact Ag.mk rfl rfl hA hB hI
    rw [if_neg e6]
    by_cases e7 : x2 = 7
    · subst e7
      rw [if_pos rfl, if_pos (by decide), atB (x := nI b) (y := 7) (k := 7) hb12 (by omega) rfl rfl, zbd_s, zrd_n hb12 (by omega), hA.row 23 18 12 (by decide) hb12, b7]
      exact Ag.mk rfl rfl hA hB hI
    rw [if_neg e7]
    by_cases e8 : x2 = 8
    · subst e8
      rw [if_pos rfl, if_pos (by decide), atB (x := nI b) (y := 8) (k := 8) hb12 (by omega) rfl rfl, zbd_s, zrd_n hb12 (by omega), hA.row 24 19 12 (by decide) hb12, b8]
      exact Ag.mk rfl rfl hA hB hI
    rw [if_neg e8]
    by_cases e9 : x2 = 9
    · subst e9
      rw [if_pos rfl, if_pos (by decide), atB (x := nI b) (y := 9) (k := 9) hb12 (by omega) rfl rfl, zbd_s, zrd_n hb12 (by omega), hA.fr hb, b9]
      exact Ag.mk rfl rfl hA hB hI
    rw [if_neg e9, if_neg (by
      have a0 := ne_t (n := 0) e0 (by omega); have a1 := ne_t (n := 1) e1 (by omega); have a2 := ne_t (n := 2) e2 (by omega); have a3 := ne_t (n := 3) e3 (by omega); have a4 := ne_t (n := 4) e4 (by omega); have a5 := ne_t (n := 5) e5 (by omega)
      have a6 := ne_t (n := 6) e6 (by omega); have a7 := ne_t (n := 7) e7 (by omega); have a8 := ne_t (n := 8) e8 (by omega); have a9 := ne_t (n := 9) e9 (by omega)
      rw [t0, t9]; omega)]
    exact Ag.mk rfl rfl hA hB hI
  · rw [if_neg h, if_neg h]; exact Ag.mk rfl rfl hA hB hI
/-! counting -/
def cN (p : Nat → Bool) : Nat → Nat
  | 0 => 0
  | n + 1 => cN p n + (if p n then 1 else 0)
theorem cN_le (p : Nat → Bool) : ∀ n, cN p n ≤ n
  | 0 => Nat.le_refl 0
  | n + 1 => by have := cN_le p n; rw [cN]; split <;> omega
theorem toldFlowsA (hA : RA σ S) (hI : Inv S) : ∀ (d n k : Nat), k + d = 9 → d < n → f_X3_toldFlows_L4 n (nI (cN (fun f => decide (0 < S 4 f)) k)) (nI k) σ = some (nI (cN (fun f => decide (0 < S 4 f)) 9), σ)
  | 0, n + 1, k, h, _ => by
    have hk : k = 9 := by omega
    subst hk
    rw [f_X3_toldFlows_L4, if_pos (by decide)]
  | d + 1, n + 1, k, h, hn => by
    have hk : k < 9 := by omega
    have ih := toldFlowsA hA hI d n (k + 1) (by omega) (by omega)
    have h4 := (hI.fl hk).1
    rw [f_X3_toldFlows_L4, if_neg (by rw [q9, qle_n (by omega) (by omega)]; omega), zrd_n hk (by omega), hA.row 8 4 9 (by decide) hk]
    by_cases h0 : S 4 k = 0
    · rw [if_pos (by rw [h0]; rfl)]
      rw [cN, if_neg (by simp [h0]), Nat.add_zero] at ih
      rw [q0, q1, nI_add, nI_add, Nat.add_zero]
      exact ih
    · rw [if_neg (by rw [nI_z (by omega)]; exact h0)]
      rw [cN, if_pos (by simp; omega)] at ih
      rw [q1, nI_add, nI_add]
      exact ih
theorem bitsB (p : Nat → Bool) {m : Nat} (hm : m ≤ 12) : ∀ (d n k : Nat), k + d = 12 → d < n → f_X10_bits_L4 (nI (bN p m)) n (nI (cN (fun f => decide (f < m) && p f) k)) (nI k) τ = some (nI (cN (fun f => decide (f < m) && p f) 12), τ)
  | 0, n + 1, k, h, _ => by
    have hk : k = 12 := by omega
    subst hk
    rw [f_X10_bits_L4, if_pos (by decide)]
  | d + 1, n + 1, k, h, hn => by
    have hk : k < 12 := by omega
    have ih := bitsB p hm d n (k + 1) (by omega) (by omega)
    rw [f_X10_bits_L4, if_neg (by rw [q12, qle_n (by omega) (by omega)]; omega)]
    have e : nI (cN (fun f => decide (f < m) && p f) k) + (nI (bN p m) >>> (nI k &&& 31) &&& 1) = nI (cN (fun f => decide (f < m) && p f) (k + 1)) := by
      rw [cN]
      by_cases hkm : k < m
      · rw [bN_test p hm hkm]
        by_cases hp : p k = true
        · rw [if_pos hp, if_pos (by simp [hkm, hp]), q1, nI_add]
        · rw [if_neg hp, if_neg (by simp [hp]), q0, nI_add]
      · rw [bN_test0 p hm (by omega) (by omega), if_neg (by simp [hkm]), q0, nI_add]
    rw [e, q1, nI_add]
    exact ih
theorem cN_cong {p q : Nat → Bool} : ∀ {n : Nat}, (∀ k, k < n → p k = q k) → cN p n = cN q n
  | 0, _ => rfl
  | n + 1, h => by rw [cN, cN, cN_cong (fun k hk => h k (by omega)), h n (by omega)]
theorem cN_12 (p : Nat → Bool) : cN (fun f => decide (f < 9) && p f) 12 = cN p 9 := by
  have e : cN (fun f => decide (f < 9) && p f) 9 = cN p 9 := cN_cong (fun k hk => by simp [hk])
  simp [cN, Nat.add_assoc]
theorem zfu_gt {n : Nat} (h : n < 4096) : n < zfu := h
theorem strikesA (hA : RA σ S) (hI : Inv S) : ∀ (d n k : Nat), k + d = S 11 3 → d < n → f_X0_strikes_L4 n (nI (cN (fun f => decide (0 < S 20 f)) k)) (nI k) σ = some (nI (cN (fun f => decide (0 < S 20 f)) (S 11 3)), σ)
  | 0, n + 1, k, h, _ => by
    have hk : k = S 11 3 := by omega
    rw [f_X0_strikes_L4, hA.many, hk, if_pos (Int32.le_refl _)]
  | d + 1, n + 1, k, h, hn => by
    have h12 := hI.n12
    have hk : k < S 11 3 := by omega
    have ih := strikesA hA hI d n (k + 1) (by omega) (by omega)
    have h20 := (hI.bl hk).2.2.2.2.2.2.2.2.2.2.1
    rw [f_X0_strikes_L4, hA.many, if_neg (by rw [qle_n (by omega) (by omega)]; omega), zrd_n (by omega) (by omega), hA.fr hk]
    by_cases h0 : S 20 k = 0
    · rw [if_pos (by rw [h0]; rfl)]
      rw [cN, if_neg (by simp [h0]), Nat.add_zero] at ih
      rw [q0, q1, nI_add, nI_add, Nat.add_zero]
      exact ih
    · rw [if_neg (by rw [qeq, nI_m1 (by omega), tm1]; omega)]
      rw [cN, if_pos (by simp; omega)] at ih
      rw [q1, nI_add, nI_add]
      exact ih
theorem countB (hB : RB τ S) (hI : Inv S) : ∀ (d n k : Nat), k + d = S 11 3 → d < n → f_X10_count_L70 n (nI (cN (fun f => decide (0 < S 20 f)) k)) (nI k) τ = some (nI (cN (fun f => decide (0 < S 20 f)) (S 11 3)), τ)
  | 0, n + 1, k, h, _ => by
    have hk : k = S 11 3 := by omega
    rw [f_X10_count_L70, hB.many, hk, if_pos (Int32.le_refl _)]
  | d + 1, n + 1, k, h, hn => by
    have h12 := hI.n12
    have hk : k < S 11 3 := by omega
    have ih := countB hB hI d n (k + 1) (by omega) (by omega)
    have h20 := (hI.bl hk).2.2.2.2.2.2.2.2.2.2.1
    rw [f_X10_count_L70, hB.many, if_neg (by rw [qle_n (by omega) (by omega)]; omega), atB (x := nI k) (y := 9) (b := k) (k := 9) (by omega) (by omega) rfl rfl, zbd_s, (hB.bl hk).2.2.2.2.2.2.2.1]
    by_cases h0 : S 20 k = 0
    · rw [if_pos (by rw [h0]; rfl)]
      rw [cN, if_neg (by simp [h0]), Nat.add_zero] at ih
      rw [q0, q1, nI_add, nI_add, Nat.add_zero]
      exact ih
    · rw [if_neg (by rw [qeq, nI_m1 (by omega), tm1]; omega)]
      rw [cN, if_pos (by simp; omega)] at ih
      rw [q1, nI_add, nI_add]
      exact ih
theorem ag_count (hA : RA σ S) (hB : RB τ S) (hI : Inv S) (x1 : Int32) : Ag (f_X9_count x1 σ) (f_X10_count x1 τ) S := by
  have h12 := hI.n12
  unfold f_X9_count f_X10_count
  by_cases e0 : x1 = 0
  · rw [if_pos e0, if_pos e0]
    have h1 : f_X3_toldFlows σ = some (nI (cN (fun f => decide (0 < S 4 f)) 9), σ) := toldFlowsA hA hI 9 zfu 0 (by omega) (zfu_gt (by omega))
    have h2 : f_X10_bits (τ 0 3) τ = some (nI (cN (fun f => decide (0 < S 4 f)) 9), τ) := by
      rw [hB.told, ← cN_12]
      exact bitsB _ (by omega) 12 zfu 0 (by omega) (zfu_gt (by omega))
    rw [h1, h2, zbd_s, zbd_s]
    exact Ag.mk rfl rfl hA hB hI
  rw [if_neg e0, if_neg e0]
  by_cases e1 : x1 = 1
  · rw [if_pos e1, if_pos e1, hA.len, hB.len]; exact Ag.mk rfl rfl hA hB hI
  rw [if_neg e1, if_neg e1]
  by_cases e2 : x1 = 2
  · rw [if_pos e2, if_pos e2, hA.many, hB.many]; exact Ag.mk rfl rfl hA hB hI
  rw [if_neg e2, if_neg e2]
  by_cases e3 : x1 = 3
  · rw [if_pos e3, if_pos e3, hA.near, hB.near]; exact Ag.mk rfl rfl hA hB hI
  rw [if_neg e3, if_neg e3]
  by_cases e4 : x1 = 4
  · rw [if_pos e4, if_pos e4, hA.far, hB.far]; exact Ag.mk rfl rfl hA hB hI
  rw [if_neg e4, if_neg e4]
  by_cases e5 : x1 = 5
  · rw [if_pos e5, if_pos e5]
    have h1 : f_X0_strikes σ = some (nI (cN (fun f => decide (0 < S 20 f)) (S 11 3)), σ) := strikesA hA hI (S 11 3) zfu 0 (by omega) (zfu_gt (by omega))
    rw [h1, zbd_s]
    exact Ag.mk rfl (countB hB hI (S 11 3) zfu 0 (by omega) (zfu_gt (by omega))) hA hB hI
  rw [if_neg e5, if_neg e5]
  exact Ag.mk rfl rfl hA hB hI
end READ
