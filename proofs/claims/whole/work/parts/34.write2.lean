/-! PURE: strike -/
/-- whether o stands above the code c (0: nobody; q + 1) -/
def frm (S : aS) (o : Nat) : Nat → Nat → Bool
  | 0, _ => false
  | m + 1, c => if c = 0 then false else if c = o + 1 then true else frm S o m (S 20 (c - 1))
theorem nI_sub1 {c : Nat} (h : 0 < c) : nI c - 1 = nI (c - 1) := by
  obtain ⟨k, rfl⟩ : ∃ k, c = k + 1 := ⟨c - 1, by omega⟩
  rw [nI_pred]; rfl
theorem nI_nm1 {c : Nat} (hc : c < 2147483648) : (nI c - 1 = -1) ↔ c = 0 := by
  rw [qeq, nI_m1 hc, tm1]; omega
/-- more fuel than rank changes nothing -/
theorem frm_fuel {S : aS} {rk : Nat → Nat} (hr : ∀ b, b < S 11 3 → 0 < S 20 b → rk (S 20 b - 1) < rk b) (hl : ∀ b, b < S 11 3 → S 20 b ≤ S 11 3) (o : Nat) : ∀ (m m2 c : Nat), c ≤ S 11 3 → (0 < c → rk (c - 1) < m ∧ rk (c - 1) < m2) → frm S o m c = frm S o m2 c
  | 0, m2, c, hc, h => by
    have : c = 0 := Nat.eq_zero_of_not_pos (fun z => by have := h z; omega)
    subst this
    cases m2 with
    | zero => rfl
    | succ k => rw [frm, frm, if_pos rfl]
  | m + 1, 0, c, hc, h => by
    have : c = 0 := Nat.eq_zero_of_not_pos (fun z => by have := h z; omega)
    subst this
    rw [frm, frm, if_pos rfl]
  | m + 1, m2 + 1, c, hc, h => by
    rw [frm, frm]
    by_cases e : c = 0
    · rw [if_pos e, if_pos e]
    · rw [if_neg e, if_neg e]
      have hc1 : c - 1 < S 11 3 := by omega
      rw [frm_fuel hr hl o m m2 (S 20 (c - 1)) (hl _ hc1) (fun z => by have := hr _ hc1 z; have := h (by omega); omega)]
section STRIKE
variable {σ τ : zS} {S : aS}
theorem Inv.fl20 (h : Inv S) : ∀ b, b < S 11 3 → S 20 b ≤ S 11 3 := fun b hb => (h.bl hb).2.2.2.2.2.2.2.2.2.2.1
theorem comesFromL (hA : RA σ S) (hI : Inv S) {rk : Nat → Nat} (hr : ∀ b, b < S 11 3 → rk b < 12 ∧ (0 < S 20 b → rk (S 20 b - 1) < rk b)) {o : Nat} (ho : o < 12) : ∀ (m n k c : Nat), c ≤ S 11 3 → (0 < c → rk (c - 1) < m ∧ rk (c - 1) + k < 12) → k < 100 → m < n → f_X0_comesFrom_L10 (nI o) n (nI c - 1) (nI k) σ = some (if frm S o m c then 1 else 0, σ)
  | 0, n + 1, k, c, hc, h, hk, _ => by
    have h12 := hI.n12
    have e : c = 0 := Nat.eq_zero_of_not_pos (fun z => by have := h z; omega)
    rw [f_X0_comesFrom_L10, if_pos ((nI_nm1 (by omega)).mpr e), f_X0_comesFrom_J40, if_neg (by rw [qeq, nI_m1 (by omega), qti (by omega)]; omega), frm]
    rfl
  | m + 1, n + 1, k, c, hc, h, hk, hn => by
    have h12 := hI.n12
    rw [f_X0_comesFrom_L10, frm]
    by_cases e : c = 0
    · rw [if_pos ((nI_nm1 (by omega)).mpr e), f_X0_comesFrom_J40, if_neg (by rw [qeq, nI_m1 (by omega), qti (by omega)]; omega), if_pos e]
      rfl
    · have hc1 : c - 1 < S 11 3 := by omega
      rw [if_neg (fun z => e ((nI_nm1 (by omega)).mp z)), if_neg e]
      by_cases e2 : c = o + 1
      · rw [if_pos (by rw [e2, nI_pred]), f_X0_comesFrom_J40, if_pos (by rw [e2, nI_pred]), if_pos e2]
        rfl
      · rw [if_neg (by rw [qeq, nI_m1 (by omega), qti (by omega)]; omega), if_neg e2, if_neg (by rw [q12, qle_n (by omega) (by omega)]; have := h (by omega); omega), nI_sub1 (by omega), zrd_n (by omega) (by omega), hA.fr hc1, nI_1]
        exact comesFromL hA hI hr ho m n (k + 1) (S 20 (c - 1)) (hI.fl20 _ hc1) (fun z => by have := (hr _ hc1).2 z; have := h (by omega); omega) (by have := h (by omega); omega) (by omega)
theorem comesFromA (hA : RA σ S) (hI : Inv S) {b o : Nat} (hb : b < S 11 3) (ho : o < 12) : f_X0_comesFrom (nI b) (nI o) σ = some (if frm S o 12 (S 20 b) then 1 else 0, σ) := by
  obtain ⟨rk, hr⟩ := hI.rk
  have h12 := hI.n12
  unfold f_X0_comesFrom
  rw [zrd_n (by omega) (by omega), hA.fr hb]
  exact comesFromL hA hI hr ho 12 zfu 0 (S 20 b) (hI.fl20 b hb) (fun z => by have h1 := hI.fl20 b hb; have := (hr (S 20 b - 1) (by omega)).1; omega) (by omega) (zfu_gt (by omega))
theorem isFromL (hB : RB τ S) (hI : Inv S) {rk : Nat → Nat} (hr : ∀ b, b < S 11 3 → rk b < 12 ∧ (0 < S 20 b → rk (S 20 b - 1) < rk b)) {o : Nat} (ho : o < 12) : ∀ (m n c : Nat), c ≤ S 11 3 → (0 < c → rk (c - 1) < m) → m < n → f_X10_isFrom_L8 (nI o) n (nI c - 1) τ = some (if frm S o m c then 1 else 0, τ)
  | 0, n + 1, c, hc, h, _ => by
    have h12 := hI.n12
    have e : c = 0 := Nat.eq_zero_of_not_pos (fun z => by have := h z; omega)
    rw [f_X10_isFrom_L8, if_pos ((nI_nm1 (by omega)).mpr e), f_X10_isFrom_J29, if_pos ((nI_nm1 (by omega)).mpr e), frm]
    rfl
  | m + 1, n + 1, c, hc, h, hn => by
    have h12 := hI.n12
    rw [f_X10_isFrom_L8, frm]
    by_cases e : c = 0
    · rw [if_pos ((nI_nm1 (by omega)).mpr e), f_X10_isFrom_J29, if_pos ((nI_nm1 (by omega)).mpr e), if_pos e]
      rfl
    · have hc1 : c - 1 < S 11 3 := by omega
      rw [if_neg (fun z => e ((nI_nm1 (by omega)).mp z)), if_neg e]
      by_cases e2 : c = o + 1
      · rw [if_pos (by rw [e2, nI_pred]), f_X10_isFrom_J29, if_neg (fun z => e ((nI_nm1 (by omega)).mp z)), if_pos e2]
        rfl
      · rw [if_neg (by rw [qeq, nI_m1 (by omega), qti (by omega)]; omega), if_neg e2, nI_sub1 (by omega), atB (x := nI (c - 1)) (y := 9) (b := c - 1) (k := 9) (by omega) (by omega) rfl rfl, zbd_s, (hB.bl hc1).2.2.2.2.2.2.2.1]
        exact isFromL hB hI hr ho m n (S 20 (c - 1)) (hI.fl20 _ hc1) (fun z => by have := (hr _ hc1).2 z; have := h (by omega); omega) (by omega)
theorem isFromB (hB : RB τ S) (hI : Inv S) {b o : Nat} (hb : b < S 11 3) (ho : o < 12) : f_X10_isFrom (nI b) (nI o) τ = some (if frm S o 12 (S 20 b) then 1 else 0, τ) := by
  obtain ⟨rk, hr⟩ := hI.rk
  have h12 := hI.n12
  unfold f_X10_isFrom
  rw [atB (x := nI b) (y := 9) (b := b) (k := 9) (by omega) (by omega) rfl rfl, zbd_s, (hB.bl hb).2.2.2.2.2.2.2.1]
  exact isFromL hB hI hr ho 12 zfu (S 20 b) (hI.fl20 b hb) (fun z => by have h1 := hI.fl20 b hb; have := (hr (S 20 b - 1) (by omega)).1; omega) (zfu_gt (by omega))
theorem cN_lt {p : Nat → Bool} : ∀ {n b : Nat}, b < n → p b = false → cN p n < n
  | n + 1, b, h, hp => by
    rw [cN]
    by_cases e : b = n
    · subst e
      have := cN_le p b
      rw [hp]; simp; omega
    · have := cN_lt (n := n) (b := b) (by omega) hp
      split <;> omega
theorem cN_sub {p q : Nat → Bool} (h : ∀ k, p k = true → q k = true) : ∀ n, cN p n ≤ cN q n
  | 0 => Nat.le_refl 0
  | n + 1 => by
    have := cN_sub h n
    rw [cN, cN]
    by_cases hp : p n = true
    · rw [if_pos hp, if_pos (h n hp)]; omega
    · rw [if_neg hp]; omega
theorem cN_strict {p q : Nat → Bool} (h : ∀ k, p k = true → q k = true) : ∀ {n a : Nat}, a < n → p a = false → q a = true → cN p n < cN q n
  | n + 1, a, ha, hp, hq => by
    rw [cN, cN]
    by_cases e : a = n
    · subst e
      have := cN_sub h a
      rw [hp, hq]; simp; omega
    · have := cN_strict h (n := n) (a := a) (by omega) hp hq
      by_cases hpn : p n = true
      · rw [if_pos hpn, if_pos (h n hpn)]; omega
      · rw [if_neg hpn]; omega
theorem rank_norm {n : Nat} {P rk : Nat → Nat} (hn : n ≤ 12) (h : ∀ b, b < n → 0 < P b → P b - 1 < n ∧ rk (P b - 1) < rk b) : ∃ rk2 : Nat → Nat, ∀ b, b < n → rk2 b < 12 ∧ (0 < P b → rk2 (P b - 1) < rk2 b) := by
  refine ⟨fun b => cN (fun y => decide (rk y < rk b)) n, fun b hb => ⟨?_, fun z => ?_⟩⟩
  · have := cN_lt (p := fun y => decide (rk y < rk b)) hb (by simp)
    show cN (fun y => decide (rk y < rk b)) n < 12
    omega
  · obtain ⟨h1, h2⟩ := h b hb z
    exact cN_strict (fun k hk => by simp at hk ⊢; omega) h1 (by simp) (by simp; exact h2)
theorem ag_strike (hA : RA σ S) (hB : RB τ S) (hI : Inv S) (x1 x2 : Int32) : ∃ S1, Ag (f_X9_strike x1 x2 σ) (f_X10_strike x1 x2 τ) S1 := by
  have hn := hI.n12
  simp only [f_X9_strike, f_X10_strike, hasA hA hI, isBladeB hB hI, zbd_s, ifz]
  by_cases h : vd x1 (S 11 3)
  · rw [if_pos h, if_pos h]
    by_cases g : vd x2 (S 11 3)
    · rw [if_pos g, if_pos g]
      by_cases e : x1 = x2
      · rw [if_pos e, if_pos e]; exact ⟨S, Ag.mk rfl rfl hA hB hI⟩
      rw [if_neg e, if_neg e]
      obtain ⟨b, hb, rfl⟩ := vd_of h
      obtain ⟨o, ho, rfl⟩ := vd_of g
      have hbo : b ≠ o := fun z => e (by rw [z])
      rw [zrd_n (by omega) (by omega), hA.fr hb, atB (x := nI b) (y := 9) (b := b) (k := 9) (by omega) (by omega) rfl rfl, zbd_s, (hB.bl hb).2.2.2.2.2.2.2.1]
      have h20 := hI.fl20 b hb
      by_cases e0 : S 20 b = 0
      · rw [if_pos ((nI_nm1 (by omega)).mpr e0), if_pos ((nI_nm1 (by omega)).mpr e0), comesFromA hA hI ho (by omega), isFromB hB hI ho (by omega), zbd_s, zbd_s]
        by_cases hf : frm S b 12 (S 20 o) = true
        · rw [if_pos hf, if_neg (by decide), if_neg (by decide)]; exact ⟨S, Ag.mk rfl rfl hA hB hI⟩
        · rw [if_neg hf, if_pos rfl, if_pos rfl, zwr_n (by omega) (by omega), zwr_i (x := 11 * nI b + 9) (j := 11 * b + 9) (ix1 11 b 9) (by omega) (by omega)]
          have ev : nI o = nI (o + 1) - 1 := (nI_pred o).symm
          rw [ev]
          refine ⟨aup S 20 b (o + 1), Ag.mk rfl rfl (RA_fr hA hb) (RB_slot hB (by omega) (aup_lo (by omega)) (fun b1 k1 _ hk => bv_20 b1 k1 hk)) (Inv_bl hI (aup_lo (by omega)) (fun b1 hb1 => ?_) ?_ ?_)⟩
          · have hi := hI.bl hb1
            rw [aup_f (a := 13) (by decide), aup_f (a := 14) (by decide), aup_f (a := 15) (by decide), aup_f (a := 16) (by decide), aup_f (a := 17) (by decide), aup_f (a := 18) (by decide), aup_f (a := 19) (by decide), aup_f (a := 21) (by decide)]
            refine ⟨hi.1, hi.2.1, hi.2.2.1, hi.2.2.2.1, hi.2.2.2.2.1, hi.2.2.2.2.2.1, hi.2.2.2.2.2.2.1, hi.2.2.2.2.2.2.2.1, hi.2.2.2.2.2.2.2.2.1, hi.2.2.2.2.2.2.2.2.2.1, ?_, hi.2.2.2.2.2.2.2.2.2.2.2⟩
            by_cases e : b1 = b
            · rw [e, aup_at]; omega
            · rw [aup_j e]; exact hi.2.2.2.2.2.2.2.2.2.2.1
          · rw [aup_f (a := 18) (by decide), aup_f (a := 19) (by decide)]; exact hI.fr0
          · obtain ⟨rk, hrk⟩ := hI.rk
            have hr : ∀ b, b < S 11 3 → 0 < S 20 b → rk (S 20 b - 1) < rk b := fun b hb => (hrk b hb).2
            -- below b, and b itself
            refine rank_norm (rk := fun y => if y = b ∨ frm S b 12 (S 20 y) = true then rk y + 12 else rk y) hn (fun b1 hb1 hz => ?_)
            by_cases e1 : b1 = b
            · rw [e1, aup_at]
              refine ⟨by omega, ?_⟩
              show (if o + 1 - 1 = b ∨ frm S b 12 (S 20 (o + 1 - 1)) = true then _ else rk (o + 1 - 1)) < _
              rw [Nat.add_sub_cancel, if_neg (by intro z; rcases z with z | z; exact hbo z.symm; exact hf z), if_pos (Or.inl rfl)]
              have := (hrk o ho).1
              omega
            · rw [aup_j e1] at hz ⊢
              have hp := hI.fl20 b1 hb1
              have hp1 : S 20 b1 - 1 < S 11 3 := by omega
              refine ⟨hp1, ?_⟩
              have hlt := hr b1 hb1 hz
              -- b1 lies below b just if its own does
              have key : frm S b 12 (S 20 b1) = true ↔ (S 20 b1 - 1 = b ∨ frm S b 12 (S 20 (S 20 b1 - 1)) = true) := by
                rw [show frm S b 12 (S 20 b1) = if S 20 b1 = 0 then false else if S 20 b1 = b + 1 then true else frm S b 11 (S 20 (S 20 b1 - 1)) from rfl, if_neg (by omega)]
                have hfu : frm S b 11 (S 20 (S 20 b1 - 1)) = frm S b 12 (S 20 (S 20 b1 - 1)) := frm_fuel hr hI.fl20 b 11 12 _ (hI.fl20 _ hp1) (fun z => by have h1 := hr _ hp1 z; have h2 := (hrk _ hb1).1; omega)
                by_cases e2 : S 20 b1 = b + 1
                · rw [if_pos e2]; simp; left; omega
                · rw [if_neg e2, hfu]
                  constructor
                  · exact Or.inr
                  · rintro (z | z)
                    · omega
                    · exact z
              show (if S 20 b1 - 1 = b ∨ frm S b 12 (S 20 (S 20 b1 - 1)) = true then rk (S 20 b1 - 1) + 12 else rk (S 20 b1 - 1)) < (if b1 = b ∨ frm S b 12 (S 20 b1) = true then rk b1 + 12 else rk b1)
              by_cases hd : S 20 b1 - 1 = b ∨ frm S b 12 (S 20 (S 20 b1 - 1)) = true
              · rw [if_pos hd, if_pos (Or.inr (key.mpr hd))]; omega
              · rw [if_neg hd]
                split <;> omega
      · rw [if_neg (fun z => e0 ((nI_nm1 (by omega)).mp z)), if_neg (fun z => e0 ((nI_nm1 (by omega)).mp z))]; exact ⟨S, Ag.mk rfl rfl hA hB hI⟩
    · rw [if_neg g, if_neg g]; exact ⟨S, Ag.mk rfl rfl hA hB hI⟩
  · rw [if_neg h, if_neg h]; exact ⟨S, Ag.mk rfl rfl hA hB hI⟩
theorem ag_counts (hA : RA σ S) (hB : RB τ S) (hI : Inv S) (x1 x2 x3 x4 : Int32) : ∃ S1, Ag (f_X9_counts x1 x2 x3 x4 σ) (f_X10_counts x1 x2 x3 x4 τ) S1 := by
  simp only [f_X9_counts, f_X10_counts, f_X6_setCounts, isPlaceA, isPlaceB, isToldA hA hI, isFlowB hB, isWithinA, inB, zbd_s, ifz, t0, t1, t999]
  by_cases h : vd x1 10
  · rw [if_pos h, if_pos h]
    by_cases g : tl S x2
    · rw [if_pos g, if_pos g]
      by_cases c1 : 1 ≤ x4.toInt ∧ x4.toInt ≤ 999
      · rw [if_pos c1, if_pos c1]
        by_cases c2 : 0 ≤ x3.toInt ∧ x3.toInt ≤ x4.toInt
        · rw [if_pos c2, if_pos c2]
          obtain ⟨p, hp, rfl⟩ := vd_of h
          obtain ⟨f, hf, rfl, h4⟩ := tl_of g
          obtain ⟨m, hm⟩ : ∃ m : Nat, m = x3.toInt.toNat := ⟨_, rfl⟩
          obtain ⟨a, ha⟩ : ∃ a : Nat, a = x4.toInt.toNat := ⟨_, rfl⟩
          have e3 : x3 = nI m := by rw [hm]; exact qof c2.1
          have e4 : x4 = nI a := by rw [ha]; exact qof (by omega)
          have hma : m ≤ a ∧ a ≤ 999 := by omega
          rw [e3, e4]
          have ea : nI p * 9 + nI f = nI (9 * p + f) := by rw [q9, pk_mul, nI_add, Nat.mul_comm]
          rw [zwr_i ea (by omega) (by omega), zwr_i ea (by omega) (by omega), zbd_s, zwr_i (x := 10 * nI f + nI p) (j := 10 * f + p) (ix1 10 f p) (by omega) (by omega), zwr_i (x := 10 * nI f + nI p) (j := 10 * f + p) (ix1 10 f p) (by omega) (by omega)]
          refine ⟨aup (aup S 22 (9 * p + f) m) 23 (9 * p + f) a, Ag.mk rfl rfl (RA_up (RA_up hA 39 22 _ m (by decide) (by decide) (by decide)) 40 23 _ a (by decide) (by decide) (by decide)) ?_ ?_⟩
          · obtain ⟨r1, r2, r3, r4, r5, r6, r7⟩ := hB
            have hr : ∀ c, c ≠ 22 → c ≠ 23 → aup (aup S 22 (9 * p + f) m) 23 (9 * p + f) a c = S c := fun c h1 h2 => by rw [aup_f h2, aup_f h1]
            have hz : ∀ k, k ≠ 17 → k ≠ 18 → zup (zup τ 17 (10 * f + p) (nI m)) 18 (10 * f + p) (nI a) k = τ k := fun k h1 h2 => by rw [zup_ne h2, zup_ne h1]
            refine ⟨?_, ?_, ?_, ?_, ?_, ?_, fun p1 f1 hp1 hf1 => ?_⟩
            · rw [hz 1 (by decide) (by decide), hr 1 (by decide) (by decide), hr 2 (by decide) (by decide), hr 3 (by decide) (by decide)]; exact r1
            · rw [hz 3 (by decide) (by decide), hr 5 (by decide) (by decide), hr 6 (by decide) (by decide), hr 7 (by decide) (by decide), hr 8 (by decide) (by decide)]; exact r2
            · rw [hz 2 (by decide) (by decide), hr 9 (by decide) (by decide), hr 10 (by decide) (by decide)]; exact r3
            · rw [hz 0 (by decide) (by decide), hr 4 (by decide) (by decide), hr 11 (by decide) (by decide)]; exact r4
            · rw [hz 4 (by decide) (by decide), hr 11 (by decide) (by decide), hr 12 (by decide) (by decide)]; exact r5
            · rw [hz 6 (by decide) (by decide), hr 11 (by decide) (by decide), hr 13 (by decide) (by decide), hr 14 (by decide) (by decide), hr 15 (by decide) (by decide), hr 16 (by decide) (by decide), hr 17 (by decide) (by decide), hr 18 (by decide) (by decide), hr 19 (by decide) (by decide), hr 20 (by decide) (by decide), hr 21 (by decide) (by decide)]; exact r6
            · rw [zup_ne (k := 18) (a := 17) (by decide), aup_f (c := 23) (a := 22) (by decide)]
              by_cases e : p1 = p ∧ f1 = f
              · rw [e.1, e.2, zup_at, zup_at, aup_at, aup_at]; exact ⟨rfl, rfl⟩
              · rw [zup_no (by omega), zup_no (by omega), aup_j (by omega), aup_j (by omega), zup_ne (k := 17) (a := 18) (by decide), aup_f (c := 22) (a := 23) (by decide)]
                exact r7 p1 f1 hp1 hf1
          · obtain ⟨i1, i2, i3, i4, i5, i6, i7, i8, i9⟩ := hI
            have hr : ∀ c, c ≠ 22 → c ≠ 23 → aup (aup S 22 (9 * p + f) m) 23 (9 * p + f) a c = S c := fun c h1 h2 => by rw [aup_f h2, aup_f h1]
            refine ⟨?_, ?_, ?_, ?_, ?_, ?_, ?_, fun p1 f1 hp1 hf1 => ?_, ?_⟩
            · rw [hr 1 (by decide) (by decide), hr 2 (by decide) (by decide), hr 3 (by decide) (by decide)]; exact i1
            · rw [hr 4 (by decide) (by decide), hr 5 (by decide) (by decide), hr 6 (by decide) (by decide), hr 7 (by decide) (by decide), hr 8 (by decide) (by decide)]; exact i2
            · rw [hr 9 (by decide) (by decide), hr 10 (by decide) (by decide)]; exact i3
            · rw [hr 11 (by decide) (by decide)]; exact i4
            · rw [hr 11 (by decide) (by decide), hr 12 (by decide) (by decide)]; exact i5
            · rw [hr 11 (by decide) (by decide), hr 13 (by decide) (by decide), hr 14 (by decide) (by decide), hr 15 (by decide) (by decide), hr 16 (by decide) (by decide), hr 17 (by decide) (by decide), hr 18 (by decide) (by decide), hr 19 (by decide) (by decide), hr 20 (by decide) (by decide), hr 21 (by decide) (by decide)]; exact i6
            · rw [hr 11 (by decide) (by decide), hr 18 (by decide) (by decide), hr 19 (by decide) (by decide)]; exact i7
            · rw [aup_f (c := 23) (a := 22) (by decide)]
              by_cases e : p1 = p ∧ f1 = f
              · rw [e.1, e.2, aup_at, aup_at]; exact hma
              · rw [aup_j (by omega), aup_j (by omega), aup_f (c := 22) (a := 23) (by decide)]
                exact i8 p1 f1 hp1 hf1
            · rw [hr 11 (by decide) (by decide), hr 20 (by decide) (by decide)]; exact i9
        · rw [if_neg c2, if_neg c2]; exact ⟨S, Ag.mk rfl rfl hA hB hI⟩
      · rw [if_neg c1, if_neg c1]; exact ⟨S, Ag.mk rfl rfl hA hB hI⟩
    · rw [if_neg g, if_neg g]; exact ⟨S, Ag.mk rfl rfl hA hB hI⟩
  · rw [if_neg h, if_neg h]; exact ⟨S, Ag.mk rfl rfl hA hB hI⟩
end STRIKE
