/-! PURE: years in the class -/
theorem lesserA {c v : Nat} (hc : c < 1000000) (hv : v < 1000000) (σ : zS) : f_X9_lesser (nI c - 1) (nI v) σ = some (nI (if c = 0 then v + 1 else min c (v + 1)) - 1, σ) := by
  unfold f_X9_lesser
  by_cases h : c = 0
  · rw [if_pos ((nI_nm1 (by omega)).mpr h), if_pos h, nI_pred]
  · rw [if_neg (fun z => h ((nI_nm1 (by omega)).mp z)), if_neg h, nI_sub1 (by omega), zmin_n (by omega) (by omega), nI_sub1 (by omega)]
    rw [show min (c - 1) v = min c (v + 1) - 1 by omega]
theorem firstOpenL {σ : zS} {S : aS} (h10 : ∀ f, f < 9 → σ 10 f = nI (S 6 f)) (h6 : ∀ f, f < 9 → S 6 f ≤ 9999) (p : Nat → Bool) : ∀ (d n k : Nat), k + d = 9 → d < n → f_X2_firstOpen_L4 (nI (bN p 9)) n (nI (foc p (S 6) k) - 1) (nI k) σ = some (nI (foc p (S 6) 9 - 1), σ)
  | 0, n + 1, k, h, _ => by
    have hk : k = 9 := by omega
    subst hk
    have hl := foc_le (p := p) (g := S 6) (X := 9999) (k := 9) h6
    rw [f_X2_firstOpen_L4, if_pos (by decide)]
    by_cases h0 : foc p (S 6) 9 = 0
    · rw [if_pos ((nI_nm1 (by omega)).mpr h0), h0]; rfl
    · rw [if_neg (fun z => h0 ((nI_nm1 (by omega)).mp z)), nI_sub1 (by omega)]
  | d + 1, n + 1, k, h, hn => by
    have hk : k < 9 := by omega
    have ih := firstOpenL h10 h6 p d n (k + 1) (by omega) (by omega)
    have hl := foc_le (p := p) (g := S 6) (X := 9999) (k := k) (fun f hf => h6 f (by omega))
    have h6k := h6 k hk
    rw [f_X2_firstOpen_L4, if_neg (by rw [q9, qle_n (by omega) (by omega)]; omega), hasBitA p (by omega) hk, zbd_s, ifz, nI_1]
    rw [foc] at ih
    by_cases hp : p k = true
    · rw [if_pos hp] at ih ⊢
      rw [zrd_n hk (by omega), h10 k hk, lesserA (by omega) (by omega), zbd_s]
      exact ih
    · rw [if_neg hp] at ih ⊢
      exact ih
theorem firstOpenA {σ : zS} {S : aS} (h10 : ∀ f, f < 9 → σ 10 f = nI (S 6 f)) (h6 : ∀ f, f < 9 → S 6 f ≤ 9999) (p : Nat → Bool) : f_X2_firstOpen (nI (bN p 9)) σ = some (nI (foc p (S 6) 9 - 1), σ) := by
  have h := firstOpenL h10 h6 p 9 zfu 0 (by omega) (zfu_gt (by omega))
  rw [show nI (foc p (S 6) 0) - 1 = (-1 : Int32) by show nI 0 - 1 = _; decide] at h
  exact h
theorem agoM {q : Nat} (h : q < 1000000000) : zmax 0 (9999 - nI q) = nI (9999 - q) := by
  unfold zmax
  by_cases hc : q < 9999
  · have e : (9999 : Int32) - nI q = nI (9999 - q) := by rw [q9999, pk_sub (by omega)]
    rw [e, if_pos (by rw [q0, qlt_n (by omega) (by omega)]; omega)]
  · have e : ((9999 : Int32) - nI q).toInt = (9999 : Int) - q := pk_sub_toInt (a := 9999) (b := q) (by omega) (by omega)
    rw [if_neg (by rw [qlt, e, t0]; omega), show 9999 - q = 0 by omega]
    rfl
theorem sq_le {r : Nat} (h : r ≤ 1000) : r * r ≤ 1000000 := Nat.le_trans (Nat.mul_le_mul h h) (by omega)
theorem rimFirstA {r w : Nat} (hr : r ≤ 999) (hw : 1 ≤ w ∧ w ≤ 999) (σ : zS) : f_X8_rimFirst (nI r) (nI w) σ = some (nI (rF r w), σ) := by
  have hs := sq_le (r := r + 1) (by omega)
  unfold f_X8_rimFirst rF
  by_cases h : r = 0
  · rw [if_pos (by rw [h]; rfl), if_pos h]; rfl
  · rw [if_neg (by rw [nI_z (by omega)]; exact h), if_neg h, nI_1, pk_mul, cutA (by omega) (by omega) (by omega), zbd_s, agoM (Nat.lt_of_le_of_lt (Nat.div_le_self _ _) (by omega))]
theorem rimLastA {r w : Nat} (hr : r ≤ 999) (hw : 1 ≤ w ∧ w ≤ 999) (σ : zS) : f_X8_rimLast (nI r) (nI w) σ = some (nI (rL r w), σ) := by
  have hs := sq_le (r := r - 1) (by omega)
  unfold f_X8_rimLast rL
  by_cases h : r = 0
  · rw [if_pos (by rw [h]; rfl), if_pos h]; rfl
  · rw [if_neg (by rw [nI_z (by omega)]; exact h), if_neg h, nI_sub1 (by omega), pk_mul, cutA (by omega) (by omega) (by omega), zbd_s, agoM (Nat.lt_of_le_of_lt (Nat.div_le_self _ _) (by omega))]
theorem ix12 {k b : Nat} : nI k * 12 + nI b = nI (12 * k + b) := by rw [q12, pk_mul, nI_add, Nat.mul_comm]
theorem setOwnA {k b : Nat} {x v : Int32} (hx : x = nI k) (hk : k < 6) (hb : b < 12) (σ : zS) : f_X8_setOwn x (nI b) v σ = some (0, zup σ 29 (12 * k + b) v) := by
  unfold f_X8_setOwn
  rw [hx, zwr_i ix12 (by omega) (by omega)]
theorem boundA {k b : Nat} {x : Int32} (hx : x = nI k) (hk : k < 6) (hb : b < 12) (σ : zS) : f_X8_bound x (nI b) σ = some (σ 30 (12 * k + b), σ) := by
  unfold f_X8_bound
  rw [hx, zrd_i ix12 (by omega) (by omega)]
/-- the class's own bounds of one blade -/
def bn1 (S : aS) (σ : zS) (b : Nat) : zS := zup (zup (zup (zup (zup (zup (zup σ 31 b (nI (bN (cb S b) 9))) 29 (12 * 0 + b) (nI (ow S 0 b))) 29 (12 * 1 + b) (nI (ow S 1 b))) 29 (12 * 2 + b) (nI (ow S 2 b))) 29 (12 * 3 + b) (nI (ow S 3 b))) 29 (12 * 4 + b) (nI (ow S 4 b))) 29 (12 * 5 + b) (nI (ow S 5 b))
theorem bn1_ne {S : aS} {σ : zS} {b k : Nat} (h1 : k ≠ 29) (h2 : k ≠ 31) : bn1 S σ b k = σ k := by
  unfold bn1
  rw [zup_ne h1, zup_ne h1, zup_ne h1, zup_ne h1, zup_ne h1, zup_ne h1, zup_ne h2]
theorem bbnStep {σ : zS} {S : aS} (hA : RA σ S) (hI : Inv S) {b : Nat} (hb : b < S 11 3) (n : Nat) : f_X8_boundByNumbers_L2 (n + 1) (nI b) σ = f_X8_boundByNumbers_L2 n (nI (b + 1)) (bn1 S σ b) := by
  have h12 := hI.n12
  have hb12 : b < 12 := by omega
  obtain ⟨c13, -, -, -, -, -, -, c18, c19, -, -, -⟩ := hI.bl hb
  have hp : S 13 b < 10 := by omega
  obtain ⟨p1, p2, p3, p4⟩ := hI.pl hp
  have h6 : ∀ f, f < 9 → S 6 f ≤ 9999 := fun f hf => (hI.fl hf).2.2.1
  have h10 : ∀ f, f < 9 → zup σ 31 b (nI (bN (cb S b) 9)) 10 f = nI (S 6 f) := fun f hf => by rw [zup_ne (by decide)]; exact hA.row 10 6 9 (by decide) hf
  have ho : opn S b ≤ 9999 := by
    have := foc_le (p := cb S b) (g := S 6) (X := 9999) (k := 9) h6
    unfold opn; omega
  have hrf := rF_le (S 18 b) (S 3 (S 13 b))
  have e5 : ∀ (T : zS) (i : Nat) (v : Int32), zup T 29 i v 5 = T 5 := fun T i v => zup_ne (by decide)
  have e6 : ∀ (T : zS) (i : Nat) (v : Int32), zup T 29 i v 6 = T 6 := fun T i v => zup_ne (by decide)
  have e31 : ∀ k, k ≠ 31 → zup σ 31 b (nI (bN (cb S b) 9)) k = σ k := fun k h => zup_ne h
  rw [f_X8_boundByNumbers_L2, hA.many, if_neg (by rw [qle_n (by omega) (by omega)]; omega)]
  rw [zrd_n hb12 (by omega), hA.row 18 13 12 (by decide) hb12, zrd_n hp (by omega), hA.row 7 3 10 (by decide) hp, zrd_n hb12 (by omega), hA.row 23 18 12 (by decide) hb12, zrd_n hb12 (by omega), hA.row 24 19 12 (by decide) hb12]
  rw [canA hA hI hb, zbd_s, zwr_n hb12 (by omega), zrd_n hb12 (by omega), zup_at, firstOpenA h10 h6, zbd_s, rimFirstA c18 ⟨p3, p4⟩, zbd_s]
  rw [show nI (foc (cb S b) (S 6) 9 - 1) = nI (opn S b) from rfl, zmax_n (by omega) (by omega), setOwnA (x := 0) (k := 0) rfl (by omega) hb12, zbd_s, rimLastA c18 ⟨p3, p4⟩, zbd_s, setOwnA (x := 1) (k := 1) rfl (by omega) hb12, zbd_s, rimFirstA c19 ⟨p3, p4⟩, zbd_s, setOwnA (x := 2) (k := 2) rfl (by omega) hb12, zbd_s, rimLastA c19 ⟨p3, p4⟩, zbd_s, setOwnA (x := 3) (k := 3) rfl (by omega) hb12, zbd_s]
  rw [zrd_n hp (by omega), e5, e5, e5, e5, e31 5 (by decide), hA.row 5 1 10 (by decide) hp, setOwnA (x := 4) (k := 4) rfl (by omega) hb12, zbd_s, zrd_n hp (by omega), e6, e6, e6, e6, e6, e31 6 (by decide), hA.row 6 2 10 (by decide) hp, setOwnA (x := 5) (k := 5) rfl (by omega) hb12, zbd_s, nI_1]
  rfl
/-- the own bounds stand for the blades ahead of m -/
def OB (S : aS) (σ : zS) (m : Nat) : Prop := ∀ b, b < m → (∀ k, k < 6 → σ 29 (12 * k + b) = nI (ow S k b)) ∧ σ 31 b = nI (bN (cb S b) 9)
theorem OB_step {σ : zS} {S : aS} {b : Nat} (hb : b < 12) (h : OB S σ b) : OB S (bn1 S σ b) (b + 1) := by
  intro c hc
  by_cases e : c = b
  · subst e
    refine ⟨fun k hk => ?_, ?_⟩
    · match k, hk with
      | 0, _ => unfold bn1; rw [zup_no (by omega), zup_no (by omega), zup_no (by omega), zup_no (by omega), zup_no (by omega), zup_at]
      | 1, _ => unfold bn1; rw [zup_no (by omega), zup_no (by omega), zup_no (by omega), zup_no (by omega), zup_at]
      | 2, _ => unfold bn1; rw [zup_no (by omega), zup_no (by omega), zup_no (by omega), zup_at]
      | 3, _ => unfold bn1; rw [zup_no (by omega), zup_no (by omega), zup_at]
      | 4, _ => unfold bn1; rw [zup_no (by omega), zup_at]
      | 5, _ => unfold bn1; rw [zup_at]
      | k + 6, h => omega
    · unfold bn1
      rw [zup_ne (by decide), zup_ne (by decide), zup_ne (by decide), zup_ne (by decide), zup_ne (by decide), zup_ne (by decide), zup_at]
  · obtain ⟨h1, h2⟩ := h c (by omega)
    refine ⟨fun k hk => ?_, ?_⟩
    · unfold bn1
      rw [zup_no (by omega), zup_no (by omega), zup_no (by omega), zup_no (by omega), zup_no (by omega), zup_no (by omega), zup_ne (by decide)]
      exact h1 k hk
    · unfold bn1
      rw [zup_ne (by decide), zup_ne (by decide), zup_ne (by decide), zup_ne (by decide), zup_ne (by decide), zup_ne (by decide), zup_no e]
      exact h2
theorem RA_29 {σ σ1 : zS} {S : aS} (h : RA σ S) (hk : ∀ k, k ≠ 29 → k ≠ 30 → k ≠ 31 → σ1 k = σ k) : RA σ1 S := by
  refine RA_keep h (fun k hm => hk k ?_ ?_ ?_) (by rw [hk 1 (by decide) (by decide) (by decide)])
  · intro e; subst e; exact absurd hm (by decide)
  · intro e; subst e; exact absurd hm (by decide)
  · intro e; subst e; exact absurd hm (by decide)
theorem bbnL {S : aS} (hI : Inv S) : ∀ (d n b : Nat) (σ : zS), RA σ S → OB S σ b → b + d = S 11 3 → d < n → ∃ σ1, f_X8_boundByNumbers_L2 n (nI b) σ = some (0, σ1) ∧ (∀ k, k ≠ 29 → k ≠ 31 → σ1 k = σ k) ∧ OB S σ1 (S 11 3)
  | 0, n + 1, b, σ, hA, hO, h, _ => by
    have hk : b = S 11 3 := by omega
    refine ⟨σ, ?_, fun _ _ _ => rfl, by rw [← hk]; exact hO⟩
    rw [f_X8_boundByNumbers_L2, hA.many, hk, if_pos (Int32.le_refl _)]
  | d + 1, n + 1, b, σ, hA, hO, h, hn => by
    have h12 := hI.n12
    have hb : b < S 11 3 := by omega
    obtain ⟨σ1, e1, e2, e3⟩ := bbnL hI d n (b + 1) (bn1 S σ b) (RA_29 hA (fun k h1 _ h3 => bn1_ne h1 h3)) (OB_step (by omega) hO) (by omega) (by omega)
    refine ⟨σ1, by rw [bbnStep hA hI hb]; exact e1, fun k h1 h2 => by rw [e2 k h1 h2, bn1_ne h1 h2], e3⟩
theorem bbnA {σ : zS} {S : aS} (hA : RA σ S) (hI : Inv S) : ∃ σ1, f_X8_boundByNumbers σ = some (0, σ1) ∧ (∀ k, k ≠ 29 → k ≠ 31 → σ1 k = σ k) ∧ OB S σ1 (S 11 3) := by
  have h12 := hI.n12
  exact bbnL hI (S 11 3) zfu 0 σ hA (fun b hb => absurd hb (Nat.not_lt_zero b)) (by omega) (zfu_gt (by omega))
/-! the bounds as they are raised and lowered: w -/
def WB (σ : zS) (w : aS) (N : Nat) : Prop := ∀ k b, k < 6 → b < N → σ 30 (12 * k + b) = nI (w k b)
theorem WB_up {σ : zS} {w : aS} {N k b v : Nat} (h : WB σ w N) (hb : b < 12) (hN : N ≤ 12) : WB (zup σ 30 (12 * k + b) (nI v)) (aup w k b v) N := by
  intro k1 b1 hk1 hb1
  by_cases e : k1 = k ∧ b1 = b
  · rw [e.1, e.2, zup_at, aup_at]
  · rw [zup_no (by omega)]
    unfold aup
    rw [if_neg e]
    exact h k1 b1 hk1 hb1
theorem raiseA {σ : zS} {w : aS} {N k b v : Nat} {x : Int32} (h : WB σ w N) (hx : x = nI k) (hk : k < 6) (hb : b < N) (hN : N ≤ 12) (h1 : w k b < 100000) (h2 : v < 100000) : f_X8_raise x (nI b) (nI v) σ = some (0, zup σ 30 (12 * k + b) (nI (max (w k b) v))) := by
  unfold f_X8_raise
  rw [hx, zrd_i ix12 (by omega) (by omega), h k b hk hb, zmax_n (by omega) (by omega), zwr_i ix12 (by omega) (by omega)]
theorem lowerA {σ : zS} {w : aS} {N k b v : Nat} {x : Int32} (h : WB σ w N) (hx : x = nI k) (hk : k < 6) (hb : b < N) (hN : N ≤ 12) (h1 : w k b < 100000) (h2 : v < 100000) : f_X8_lower x (nI b) (nI v) σ = some (0, zup σ 30 (12 * k + b) (nI (min (w k b) v))) := by
  unfold f_X8_lower
  rw [hx, zrd_i ix12 (by omega) (by omega), h k b hk hb, zmin_n (by omega) (by omega), zwr_i ix12 (by omega) (by omega)]
/-- the parents without one blade's (a code) -/
def Pw (S : aS) (fc b : Nat) : Nat := if fc = b + 1 then 0 else S 20 b
theorem Fo_w {S : aS} (h : Inv S) (fc : Nat) : Fo (Pw S fc) (S 11 3) := by
  obtain ⟨rk, hr⟩ := h.rk
  refine ⟨h.n12, fun b hb => ?_, rk, fun b hb => ⟨(hr b hb).1, fun z => ?_⟩⟩
  · unfold Pw; split
    · omega
    · exact h.fl20 b hb
  · unfold Pw at z ⊢
    split at z
    · omega
    · rw [if_neg (by assumption)]
      exact (hr b hb).2 z
theorem aboveA {σ : zS} {S : aS} (hA : RA σ S) (hI : Inv S) {b fc : Nat} (hb : b < S 11 3) (hf : fc ≤ 12) : f_X8_above (nI b) (nI fc - 1) σ = some (nI (Pw S fc b) - 1, σ) := by
  have h12 := hI.n12
  unfold f_X8_above Pw
  by_cases e : fc = b + 1
  · rw [if_pos (by rw [e, nI_pred]), if_pos e]; rfl
  · rw [if_neg (by rw [qeq, nI_m1 (by omega), qti (by omega)]; omega), if_neg e, zrd_n (by omega) (by omega), hA.fr hb]
section RAISE
variable {S : aS}
/-- one blade's row upward -/
theorem raiseL23 (hI : Inv S) {fc b : Nat} (hf : fc ≤ 12) (hb : b < S 11 3) {rk : Nat → Nat} (hr : ∀ b, b < S 11 3 → rk b < 12 ∧ (0 < Pw S fc b → rk (Pw S fc b - 1) < rk b)) (k2 : Int32 → zS → Option (Int32 × zS)) :
    ∀ (m n st c : Nat) (σ : zS) (w : aS), RA σ S → WB σ w (S 11 3) → (∀ k b, b < S 11 3 → w k b ≤ 9999) → c ≤ S 11 3 → (0 < c → rk (c - 1) < m ∧ rk (c - 1) + st < 12) → st < 100 → m < n →
    ∃ (σ1 : zS) (v : Nat), f_X8_raiseStruck_L23 k2 (nI fc - 1) (nI b) n (nI c - 1) (nI st) σ = k2 (nI (b + 1)) σ1 ∧ WB σ1 (aup w 0 b v) (S 11 3) ∧ (∀ k, k ≠ 30 → σ1 k = σ k) ∧ w 0 b ≤ v ∧ v ≤ 9999 ∧ (∀ u, frmP (Pw S fc) u m c = true → u ≠ b → w 0 u ≤ v) ∧ (∀ X, w 0 b ≤ X → (∀ u, frmP (Pw S fc) u m c = true → w 0 u ≤ X) → v ≤ X)
  | 0, n + 1, st, c, σ, w, hA, hW, hw, hc, h, hs, _ => by
    have h12 := hI.n12
    have e : c = 0 := Nat.eq_zero_of_not_pos (fun z => by have := h z; omega)
    refine ⟨σ, w 0 b, ?_, ?_, fun _ _ => rfl, Nat.le_refl _, hw 0 b hb, fun u hu _ => ?_, fun X hX _ => hX⟩
    · rw [f_X8_raiseStruck_L23, if_pos ((nI_nm1 (by omega)).mpr e), nI_1]
    · intro k1 b1 hk1 hb1
      rw [hW k1 b1 hk1 hb1]
      unfold aup
      split
      · rename_i z; rw [z.1, z.2]
      · rfl
    · rw [frmP] at hu; cases hu
  | m + 1, n + 1, st, c, σ, w, hA, hW, hw, hc, h, hs, hn => by
    have h12 := hI.n12
    by_cases e : c = 0
    · refine ⟨σ, w 0 b, ?_, ?_, fun _ _ => rfl, Nat.le_refl _, hw 0 b hb, fun u hu _ => ?_, fun X hX _ => hX⟩
      · rw [f_X8_raiseStruck_L23, if_pos ((nI_nm1 (by omega)).mpr e), nI_1]
      · intro k1 b1 hk1 hb1
        rw [hW k1 b1 hk1 hb1]
        unfold aup
        split
        · rename_i z; rw [z.1, z.2]
        · rfl
      · rw [frmP, if_pos e] at hu; cases hu
    · have hc1 : c - 1 < S 11 3 := by omega
      have hh := h (by omega)
      have hwc := hw 0 (c - 1) hc1
      have hwb := hw 0 b hb
      have ek : f_X8_raiseStruck_L23 k2 (nI fc - 1) (nI b) (n + 1) (nI c - 1) (nI st) σ = f_X8_raiseStruck_L23 k2 (nI fc - 1) (nI b) n (nI (Pw S fc (c - 1)) - 1) (nI (st + 1)) (zup σ 30 (12 * 0 + b) (nI (max (w 0 b) (w 0 (c - 1))))) := by
        have hA1 : RA (zup σ 30 (12 * 0 + b) (nI (max (w 0 b) (w 0 (c - 1))))) S := RA_29 hA (fun k _ h2 _ => zup_ne h2)
        rw [f_X8_raiseStruck_L23, if_neg (fun z => e ((nI_nm1 (by omega)).mp z)), if_neg (by rw [q12, qle_n (by omega) (by omega)]; omega), nI_sub1 (by omega), boundA (x := 0) (k := 0) rfl (by omega) (by omega), zbd_s, hW 0 (c - 1) (by omega) hc1, raiseA (x := 0) (k := 0) hW rfl (by omega) hb h12 (by omega) (by omega), zbd_s, aboveA hA1 hI hc1 hf, zbd_s, nI_1]
      obtain ⟨σ1, v, e1, e2, e3, e4, e4b, e5, e6⟩ := raiseL23 hI hf hb hr k2 m n (st + 1) (Pw S fc (c - 1)) (zup σ 30 (12 * 0 + b) (nI (max (w 0 b) (w 0 (c - 1))))) (aup w 0 b (max (w 0 b) (w 0 (c - 1)))) (RA_29 hA (fun k _ h2 _ => zup_ne h2)) (WB_up hW (by omega) h12)
        (fun k b1 hb1 => by unfold aup; split; omega; exact hw k b1 hb1) ((Fo_w hI fc).2.1 _ hc1) (fun z => by have := (hr _ hc1).2 z; omega) (by omega) (by omega)
      rw [aup_at] at e4 e6
      refine ⟨σ1, v, by rw [ek]; exact e1, ?_, fun k hk => by rw [e3 k hk, zup_ne hk], by omega, e4b, fun u hu hub => ?_, fun X hX hu => ?_⟩
      · intro k1 b1 hk1 hb1
        rw [e2 k1 b1 hk1 hb1]
        unfold aup
        split <;> rfl
      · rw [frmP, if_neg e] at hu
        by_cases e7 : c = u + 1
        · have : c - 1 = u := by omega
          rw [this] at e4
          omega
        · rw [if_neg e7] at hu
          have := e5 u hu hub
          rw [aup_j hub] at this
          exact this
      · have hc0 : w 0 (c - 1) ≤ X := hu (c - 1) (by rw [frmP, if_neg e, if_pos (by omega)])
        refine e6 X (by omega) (fun u hu2 => ?_)
        unfold aup
        split
        · omega
        · refine hu u ?_
          rw [frmP, if_neg e]
          split
          · rfl
          · exact hu2
end RAISE
