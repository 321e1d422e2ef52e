/-! PURE: miss, law -/
theorem ds_bnd {e : Nat → Nat → Bool} {c : Nat → Nat → Nat} {s : Nat} (hc : ∀ a b, a < 10 → b < 10 → c a b ≤ 999) : ∀ k p, p < 10 → dsN e c s k p < INF → dsN e c s k p ≤ 999 * k
  | 0, p, _, h => by
    have e0 : dsN e c s 0 p = if p = s then 0 else INF := rfl
    rw [e0] at h ⊢
    by_cases z : p = s
    · rw [if_pos z]; omega
    · rw [if_neg z] at h; omega
  | k + 1, p, hp, h => by
    have e0 : dsN e c s (k + 1) p = min (dsN e c s k p) (mnI (rel e c (dsN e c s k) p) 10) := rfl
    have ih := ds_bnd (e := e) (s := s) hc k
    by_cases g : dsN e c s k p ≤ mnI (rel e c (dsN e c s k) p) 10
    · have := ih p hp (by omega); omega
    · obtain ⟨a, h1, h2⟩ := mnI_ex (f := rel e c (dsN e c s k) p) (n := 10) (by omega)
      have h3 : rel e c (dsN e c s k) p a < INF := by omega
      have h4 : rel e c (dsN e c s k) p a = dsN e c s (k + 1) p := by omega
      unfold rel at h3 h4
      by_cases z : e a p = true ∧ dsN e c s k a < INF
      · rw [if_pos z] at h3 h4
        have := ih a h1 z.2
        have := hc a p h1 hp
        omega
      · rw [if_neg z] at h3; omega
def shN (law p w : Nat) : Nat := if law = 0 then 1000 / 2 ^ (min (w / (10 * p)) 10) else if law = 1 then 1000 - p * w / 10 else if 10 * p < w then 100 else 900
theorem shN_le (law p w : Nat) : shN law p w ≤ 1000 := by
  unfold shN
  split
  · exact Nat.div_le_self _ _
  · split
    · omega
    · split <;> omega
theorem zmax_sub {c v : Nat} (hc : c < 1000000000) (hv : v < 1000000000) : zmax 0 (nI c - nI v) = nI (c - v) := by
  have e : (nI c - nI v).toInt = (c : Int) - v := pk_sub_toInt (by omega) (by omega)
  unfold zmax
  by_cases h : v < c
  · rw [if_pos (by rw [qlt, e, t0]; omega), pk_sub (by omega)]
  · rw [if_neg (by rw [qlt, e, t0]; omega), show c - v = 0 by omega]; rfl
theorem gr_sub {c v : Nat} (hc : c < 1000000000) (hv : v < 1000000000) (σ : zS) : f_X10_greater 0 (nI c - nI v) σ = some (nI (c - v), σ) := by
  have e : (nI c - nI v).toInt = (c : Int) - v := pk_sub_toInt (by omega) (by omega)
  unfold f_X10_greater
  by_cases h : v ≤ c
  · rw [if_pos (by rw [qle, e, t0]; omega), pk_sub h]
  · rw [if_neg (by rw [qle, e, t0]; omega), show c - v = 0 by omega]; rfl
theorem shLawA {law p w : Nat} (hl : law < 3) (hp : 1 ≤ p ∧ p ≤ 99) (hw : w ≤ 9990) (σ : zS) : f_X6_shareByLaw (nI law) (nI p) (nI w) σ = some (nI (shN law p w), σ) := by
  have hpw : p * w ≤ 99 * 9990 := Nat.mul_le_mul hp.2 hw
  unfold f_X6_shareByLaw shN
  by_cases h0 : law = 0
  · have hd : w / (10 * p) ≤ 9990 := Nat.le_trans (Nat.div_le_self _ _) hw
    rw [if_pos (by rw [h0]; rfl), if_pos h0, q10, pk_mul, cutA (by omega) (by omega) (by omega), zbd_s, zmin_n (by omega) (by omega), q1000, shrN (by omega) (by omega)]
  · rw [if_neg (by rw [q0, qeq_n (by omega) (by omega)]; exact h0), if_neg h0]
    by_cases h1 : law = 1
    · rw [if_pos (by rw [h1]; rfl), if_pos h1, pk_mul, zdv_n (by decide), q10, pk_div (by omega) (by omega) (by omega), q1000, zmax_sub (by omega) (by omega)]
    · rw [if_neg (by rw [q1, qeq_n (by omega) (by omega)]; exact h1), if_neg h1, q10, pk_mul]
      by_cases h2 : 10 * p < w
      · rw [if_pos ((qlt_n (by omega) (by omega)).mpr h2), if_pos h2]; rfl
      · rw [if_neg (fun z => h2 ((qlt_n (by omega) (by omega)).mp z)), if_neg h2]; rfl
theorem halfB (σ : zS) : ∀ (k n v : Nat), v ≤ 1000 → k < n → k ≤ 100000 → f_X10_shareBy_L54 n (nI v) (nI k) σ = some (nI (v / 2 ^ k), σ)
  | 0, n + 1, v, hv, _, _ => by
    rw [f_X10_shareBy_L54, if_pos (by decide), Nat.pow_zero, Nat.div_one]
  | k + 1, n + 1, v, hv, hn, hk => by
    rw [f_X10_shareBy_L54, if_neg (by rw [q0, qle_n (by omega) (by omega)]; omega)]
    by_cases z : v = 0
    · rw [if_pos (by rw [z]; decide), z, Nat.zero_div]
    · rw [if_neg (by rw [q0, qle_n (by omega) (by omega)]; omega), zdv_n (by decide), q2, pk_div (by omega) (by omega) (by omega), ← Int32.sub_eq_add_neg, nI_pred, halfB σ k n (v / 2) (by omega) (by omega) (by omega), Nat.div_div_eq_div_mul, Nat.pow_succ, Nat.mul_comm]
theorem half10 (k : Nat) : 1000 / 2 ^ k = 1000 / 2 ^ (min k 10) := by
  by_cases h : k ≤ 10
  · rw [Nat.min_eq_left h]
  · rw [Nat.min_eq_right (by omega), Nat.div_eq_of_lt (Nat.lt_of_lt_of_le (show 1000 < 2 ^ 10 by decide) (Nat.pow_le_pow_right (by omega) (by omega)))]
theorem shLawB {law p w : Nat} (hl : law < 3) (hp : 1 ≤ p ∧ p ≤ 99) (hw : w ≤ 9990) (σ : zS) : f_X10_shareBy (nI law) (nI p) (nI w) σ = some (nI (shN law p w), σ) := by
  have hpw : p * w ≤ 99 * 9990 := Nat.mul_le_mul hp.2 hw
  unfold f_X10_shareBy shN
  by_cases h1 : law = 1
  · rw [if_pos (by rw [h1]; rfl), if_neg (show ¬ law = 0 by omega), if_pos h1, pk_mul, zdv_n (by decide), q10, pk_div (by omega) (by omega) (by omega), q1000, gr_sub (by omega) (by omega), zbd_s]
  · rw [if_neg (by rw [q1, qeq_n (by omega) (by omega)]; exact h1)]
    by_cases h2 : law = 2
    · rw [if_pos (by rw [h2]; rfl), if_neg (show ¬ law = 0 by omega), if_neg h1, q10, pk_mul]
      by_cases h3 : 10 * p < w
      · rw [if_pos ((qlt_n (by omega) (by omega)).mpr h3), if_pos h3]; rfl
      · rw [if_neg (fun z => h3 ((qlt_n (by omega) (by omega)).mp z)), if_neg h3]; rfl
    · have hd : w / (10 * p) ≤ 999 := by
        have h10 : w / (10 * p) ≤ w / 10 := Nat.div_le_div_left (by omega) (by omega)
        omega
      rw [if_neg (by rw [q2, qeq_n (by omega) (by omega)]; exact h2), if_pos (show law = 0 by omega), q10, pk_mul, zdv_n (by rw [nI_z (by omega)]; omega), pk_div (by omega) (by omega) (by omega), q1000, halfB σ _ zfu 1000 (by omega) (zfu_gt (by omega)) (by omega), half10]
section SHARES
variable {S : aS}
abbrev DmA (S : aS) (f : Nat) : Nat → Nat := Dm S true none (S 5 f)
def okN (S : aS) (f q : Nat) : Bool := decide (0 < S 23 (9 * q + f)) && decide (DmA S f q < INF)
def sqN (S : aS) (f q : Nat) : Nat := 1000 * S 22 (9 * q + f) / S 23 (9 * q + f)
def msN (S : aS) (f law p : Nat) : Nat → Nat
  | 0 => 0
  | n + 1 => msN S f law p n + (if okN S f n = true then dN (sqN S f n) (shN law p (DmA S f n)) else 0)
theorem DmA_le (hI : Inv S) {f q : Nat} (hq : q < 10) (h : DmA S f q < INF) : DmA S f q ≤ 9990 := ds_bnd (fun _ _ ha hb => wN_le hI ha hb) 10 q hq h
theorem sqN_le (hI : Inv S) {f q : Nat} (hf : f < 9) (hq : q < 10) : sqN S f q ≤ 1000 := by
  have h := hI.cnt hq hf
  unfold sqN
  by_cases z : S 23 (9 * q + f) = 0
  · rw [z, Nat.div_zero]; omega
  · exact Nat.div_le_of_le_mul (by rw [Nat.mul_comm]; exact Nat.mul_le_mul_right _ h.1)
theorem dN_le {a b : Nat} (ha : a ≤ 1000) (hb : b ≤ 1000) : dN a b ≤ 1000 := by unfold dN; split <;> omega
theorem msN_le (hI : Inv S) {f law p : Nat} (hf : f < 9) : ∀ n, n ≤ 10 → msN S f law p n ≤ 1000 * n
  | 0, _ => by rw [msN]; omega
  | n + 1, h => by
    have := msN_le hI hf n (by omega) (law := law) (p := p)
    have := dN_le (sqN_le hI hf (q := n) (by omega)) (shN_le law p (DmA S f n))
    rw [msN]
    split <;> omega
theorem cN_mono (p : Nat → Bool) : ∀ {m n : Nat}, m ≤ n → cN p m ≤ cN p n
  | m, 0, h => by rw [show m = 0 by omega]; exact Nat.le_refl _
  | m, n + 1, h => by
    by_cases z : m = n + 1
    · rw [z]; exact Nat.le_refl _
    · have := cN_mono p (m := m) (n := n) (by omega)
      rw [cN]; omega
theorem cN_at {p : Nat → Bool} {m n : Nat} (h : m < n) (hp : p m = true) : cN p m < cN p n := by
  have := cN_mono p (m := m + 1) (n := n) (by omega)
  rw [cN, if_pos hp] at this
  omega
/-- gathered up to the place q -/
def GA (S : aS) (f : Nat) (σ : zS) (q : Nat) : Prop := σ 38 6 = nI (cN (okN S f) q) ∧ ∀ r, r < q → okN S f r = true → σ 41 (cN (okN S f) r) = nI (sqN S f r) ∧ σ 42 (cN (okN S f) r) = nI (DmA S f r)
theorem gatherL (hI : Inv S) {f : Nat} (hf : f < 9) : ∀ (d n q : Nat) (σ : zS), RA σ S → (∀ p, p < 10 → σ 37 p = en (DmA S f p)) → GA S f σ q → q + d = 10 → d < n → ∃ σ1, f_X6_gather_L27 (nI f) n (nI q) σ = some (0, σ1) ∧ RA σ1 S ∧ GA S f σ1 10
  | 0, n + 1, q, σ, hA, _, hG, h, _ => by
    have hq : q = 10 := by omega
    subst hq
    refine ⟨σ, ?_, hA, hG⟩
    rw [f_X6_gather_L27, if_pos (by decide)]
  | d + 1, n + 1, q, σ, hA, hM, hG, h, hn => by
    have hv := INFv
    have hq : q < 10 := by omega
    have hc := hI.cnt hq hf
    have ix : nI q * 9 + nI f = nI (9 * q + f) := by rw [q9, pk_mul, nI_add, Nat.mul_comm]
    have no : okN S f q = false → ∃ σ1, f_X6_gather_L27 (nI f) n (nI (q + 1)) σ = some (0, σ1) ∧ RA σ1 S ∧ GA S f σ1 10 := fun e =>
      gatherL hI hf d n (q + 1) σ hA hM ⟨by rw [hG.1, cN, e]; rfl, fun r hr hk => by
        by_cases z : r = q
        · rw [z, e] at hk; cases hk
        · exact hG.2 r (by omega) hk⟩ (by omega) (by omega)
    rw [f_X6_gather_L27, if_neg (by rw [q10, qle_n (by omega) (by omega)]; omega), zrd_i ix (by omega) (by omega), hA.row 40 23 90 (by decide) (by omega), nI_1]
    by_cases h0 : S 23 (9 * q + f) = 0
    · rw [if_pos (by rw [h0]; decide)]
      exact no (by unfold okN; simp [h0])
    · rw [if_neg (by rw [q0, qle_n (by omega) (by omega)]; omega), zrd_n hq (by omega), hM q hq]
      by_cases h1 : DmA S f q < INF
      · have hD := DmA_le hI hq h1
        have hok : okN S f q = true := by unfold okN; rw [decide_eq_true h1, decide_eq_true (show 0 < S 23 (9 * q + f) by omega)]; rfl
        have hcq : cN (okN S f) q ≤ q := cN_le _ q
        rw [if_neg (fun z => en_m.mp z h1), zrd_i ix (by omega) (by omega), hA.row 39 22 90 (by decide) (by omega), zrd_i ix (by omega) (by omega), hA.row 40 23 90 (by decide) (by omega), q1000, pk_mul, cutA (by omega) (by omega) (by omega), zbd_s, hG.1, zwr_n (by omega) (by omega), zrd_n hq (by omega), zup_ne (show 37 ≠ 41 by decide), hM q hq, en_f h1, zup_ne (show 38 ≠ 41 by decide), hG.1, zwr_n (by omega) (by omega), zst_s, zup_ne (show 38 ≠ 42 by decide), zup_ne (show 38 ≠ 41 by decide), hG.1, nI_1]
        have hA2 : ∀ i, i ≠ 38 → i ≠ 41 → i ≠ 42 → zup (zup (zup σ 41 (cN (okN S f) q) (nI (1000 * S 22 (9 * q + f) / S 23 (9 * q + f)))) 42 (cN (okN S f) q) (nI (DmA S f q))) 38 6 (nI (cN (okN S f) q + 1)) i = σ i := fun i h1 h2 h3 => by
          rw [zup_ne h1, zup_ne h3, zup_ne h2]
        refine gatherL hI hf d n (q + 1) _ (RA_k hA (fun i hi => hA2 i (by omega) (by omega) (by omega))) (fun p hp => ?_) ⟨?_, fun r hr hk => ?_⟩ (by omega) (by omega)
        · rw [hA2 37 (by omega) (by omega) (by omega)]; exact hM p hp
        · rw [zup_at, cN, hok]; rfl
        · rw [zup_ne (show 41 ≠ 38 by decide), zup_ne (show 41 ≠ 42 by decide), zup_ne (show 42 ≠ 38 by decide)]
          by_cases z : r = q
          · rw [z, zup_at, zup_at]; exact ⟨rfl, rfl⟩
          · have hlt := cN_at (p := okN S f) (m := r) (n := q) (by omega) hk
            rw [zup_no (show cN (okN S f) r ≠ cN (okN S f) q by omega), zup_no (show cN (okN S f) r ≠ cN (okN S f) q by omega), zup_ne (show 42 ≠ 41 by decide)]
            exact hG.2 r (by omega) hk
      · rw [if_pos (en_m.mpr h1)]
        exact no (by unfold okN; rw [decide_eq_false h1, Bool.and_false])
theorem all10 : (1023 : Int32) = nI (bN (lvN S none) 10) := by
  have : bN (lvN S none) 10 = 1023 := by simp [bN, lvN]
  rw [this]; rfl
theorem gatherA {σ : zS} (hA : RA σ S) (hI : Inv S) {f : Nat} (hf : f < 9) : ∃ σ1, f_X6_gather (nI f) σ = some (0, σ1) ∧ RA σ1 S ∧ GA S f σ1 10 := by
  have hs9 := (hI.fl hf).2.1
  obtain ⟨σ1, a1, a2, a3, a4⟩ := milA hA hI (bt := true) (y := none) (s := S 5 f) (by omega) h10
  obtain ⟨σ2, b1, b2, b3⟩ := gatherL hI hf 10 zfu 0 (zup σ1 38 6 0) (RA_k a2 (fun i hi => zup_ne (by omega))) (fun p hp => by rw [zup_ne (by decide)]; exact a4 p hp) ⟨zup_at, fun r hr => absurd hr (Nat.not_lt_zero r)⟩ (by omega) (zfu_gt (by omega))
  refine ⟨σ2, ?_, b2, b3⟩
  unfold f_X6_gather
  rw [zrd_n hf (by omega), hA.row 9 5 9 (by decide) hf, all10 (S := S), a1, zbd_s, zst_s]
  exact b1
theorem missL {σ : zS} (hI : Inv S) {f law p : Nat} (hf : f < 9) (hl : law < 3) (hp : 1 ≤ p ∧ p ≤ 99) (hG : GA S f σ 10) : ∀ (d n q : Nat), q + d = 10 → d < n → f_X6_missOf_L5 (nI law) (nI p) n (nI (msN S f law p q)) (nI (cN (okN S f) q)) σ = some (nI (msN S f law p 10), σ)
  | 0, n + 1, q, h, _ => by
    have hq : q = 10 := by omega
    subst hq
    rw [f_X6_missOf_L5, hG.1, if_pos (Int32.le_refl _)]
  | d + 1, n, q, h, hn => by
    have hq : q < 10 := by omega
    by_cases hok : okN S f q = true
    · obtain ⟨m, rfl⟩ : ∃ m, n = m + 1 := ⟨n - 1, by omega⟩
      have ih := missL hI hf hl hp hG d m (q + 1) (by omega) (by omega)
      have h1 : DmA S f q < INF := by unfold okN at hok; simp only [Bool.and_eq_true, decide_eq_true_eq] at hok; exact hok.2
      have hD := DmA_le hI hq h1
      have hlt := cN_at (p := okN S f) (m := q) (n := 10) hq hok
      have hc10 : cN (okN S f) 10 ≤ 10 := cN_le _ 10
      obtain ⟨g1, g2⟩ := hG.2 q hq hok
      have hs := sqN_le hI hf hq
      have hs2 := shN_le law p (DmA S f q)
      rw [msN, if_pos hok, cN, if_pos hok] at ih
      rw [f_X6_missOf_L5, hG.1, if_neg (by rw [qle_n (by omega) (by omega)]; omega), zrd_n (by omega) (by omega), g1, zrd_n (by omega) (by omega), g2, shLawA hl hp hD, zbd_s, zabs_d (by omega) (by omega), nI_add, nI_1]
      exact ih
    · have ih := missL hI hf hl hp hG d n (q + 1) (by omega) (by omega)
      rw [msN, if_neg hok, cN, if_neg hok] at ih
      exact ih
theorem missA {σ : zS} (hI : Inv S) {f law p : Nat} (hf : f < 9) (hl : law < 3) (hp : 1 ≤ p ∧ p ≤ 99) (hG : GA S f σ 10) : f_X6_missOf (nI law) (nI p) σ = some (nI (msN S f law p 10), σ) := missL hI hf hl hp hG 10 zfu 0 (by omega) (zfu_gt (by omega))
theorem absB {a b m : Nat} (ha : a < 1000000000) (hb : b < 1000000000) (X : Int32 → Option (Int32 × zS)) : (if 0 ≤ nI a - nI b then X (nI m + (nI a - nI b)) else X (nI m + -(nI a - nI b))) = X (nI (m + dN a b)) := by
  have e : (nI a - nI b).toInt = (a : Int) - b := pk_sub_toInt (by omega) (by omega)
  unfold dN
  by_cases h : b ≤ a
  · rw [if_pos (by rw [qle, e, t0]; omega), pk_sub h, nI_add]
    by_cases g : a ≤ b
    · rw [if_pos g, show a - b = b - a by omega]
    · rw [if_neg g]
  · rw [if_neg (by rw [qle, e, t0]; omega), if_pos (by omega), Int32.neg_sub, pk_sub (by omega), nI_add]
theorem missBL {τ : zS} (hI : Inv S) (hB : RB τ S) {f law p : Nat} (hf : f < 9) (hl : law < 3) (hp : 1 ≤ p ∧ p ≤ 99) (hM : ∀ q, q < 10 → τ 16 q = en (DmA S f q)) : ∀ (d n q : Nat), q + d = 10 → d < n → f_X10_missBy_L6 (nI f) (nI law) (nI p) n (nI (msN S f law p q)) (nI q) τ = some (nI (msN S f law p 10), τ)
  | 0, n + 1, q, h, _ => by
    have hq : q = 10 := by omega
    subst hq
    rw [f_X10_missBy_L6, if_pos (by decide)]
  | d + 1, n + 1, q, h, hn => by
    have hq : q < 10 := by omega
    have hc := hI.cnt hq hf
    have hb := hB.cnt hq hf
    have ih := missBL hI hB hf hl hp hM d n (q + 1) (by omega) (by omega)
    have ix : 10 * nI f + nI q = nI (10 * f + q) := ix1 10 f q
    rw [msN] at ih
    rw [f_X10_missBy_L6, if_neg (by rw [q10, qle_n (by omega) (by omega)]; omega), zrd_i ix (by omega) (by omega), hb.2, nI_1]
    by_cases h0 : S 23 (9 * q + f) = 0
    · rw [if_neg (show ¬ okN S f q = true by unfold okN; simp [h0])] at ih
      rw [if_pos (by rw [h0]; decide)]
      exact ih
    · rw [if_neg (by rw [q0, qle_n (by omega) (by omega)]; omega), zrd_n hq (by omega), hM q hq]
      by_cases h1 : DmA S f q < INF
      · have hD := DmA_le hI hq h1
        have hok : okN S f q = true := by unfold okN; rw [decide_eq_true h1, decide_eq_true (show 0 < S 23 (9 * q + f) by omega)]; rfl
        have hs := sqN_le hI hf hq
        have hs2 := shN_le law p (DmA S f q)
        rw [if_pos hok] at ih
        rw [if_neg (fun z => en_m.mp z h1), zrd_i ix (by omega) (by omega), hb.1, zrd_i ix (by omega) (by omega), hb.2, zdv_n (by rw [nI_z (by omega)]; exact h0), q1000, pk_mul, pk_div (by omega) (by omega) (by omega), zrd_n hq (by omega), hM q hq, en_f h1, shLawB hl hp hD, zbd_s]
        have := absB (a := sqN S f q) (b := shN law p (DmA S f q)) (m := msN S f law p q) (by omega) (by omega) (fun x => f_X10_missBy_L6 (nI f) (nI law) (nI p) n x (nI (q + 1)) τ)
        exact Eq.trans this ih
      · rw [if_neg (show ¬ okN S f q = true by unfold okN; rw [decide_eq_false h1, Bool.and_false]; decide)] at ih
        rw [if_pos (en_m.mpr h1)]
        exact ih
theorem missB {τ : zS} (hI : Inv S) (hB : RB τ S) {f law p : Nat} (hf : f < 9) (hl : law < 3) (hp : 1 ≤ p ∧ p ≤ 99) (hM : ∀ q, q < 10 → τ 16 q = en (DmA S f q)) : f_X10_missBy (nI f) (nI law) (nI p) τ = some (nI (msN S f law p 10), τ) := missBL hI hB hf hl hp hM 10 zfu 0 (by omega) (zfu_gt (by omega))
theorem layB {τ : zS} (hI : Inv S) (hB : RB τ S) {f : Nat} (hf : f < 9) : ∃ τ1, f_X10_layOut (nI (S 5 f)) (-1) 1 τ = some (0, τ1) ∧ RB τ1 S ∧ ∀ q, q < 10 → τ1 16 q = en (DmA S f q) := by
  have hs9 := (hI.fl hf).2.1
  obtain ⟨τ1, b1, b2, b3, b4⟩ := layOutB hI hB (bt := true) (y := none) (s := S 5 f) (by omega) (fun w hw => by cases hw) h10
  exact ⟨τ1, b1, b2, fun q hq => (b4 q hq).2⟩
theorem ag_miss {σ τ : zS} (hA : RA σ S) (hB : RB τ S) (hI : Inv S) (x1 x2 x3 : Int32) : Ag (f_X9_miss x1 x2 x3 σ) (f_X10_miss x1 x2 x3 τ) S := by
  unfold f_X9_miss f_X10_miss
  rw [isToldA hA hI, isFlowB hB, zbd_s, zbd_s, ifz, ifz, isWithinA, inB, zbd_s, zbd_s, ifz, ifz, isWithinA, inB, zbd_s, zbd_s, ifz, ifz, t0, t1, t2, t99]
  by_cases g : tl S x1
  · rw [if_pos g, if_pos g]
    by_cases k1 : 0 ≤ x2.toInt ∧ x2.toInt ≤ 2
    · rw [if_pos k1, if_pos k1]
      by_cases k2 : 1 ≤ x3.toInt ∧ x3.toInt ≤ 99
      · rw [if_pos k2, if_pos k2]
        obtain ⟨f, hf, rfl, h4⟩ := tl_of g
        obtain ⟨law, hlw⟩ : ∃ z : Nat, z = x2.toInt.toNat := ⟨_, rfl⟩
        have e2 : x2 = nI law := by rw [hlw]; exact qof k1.1
        obtain ⟨p, hpp⟩ : ∃ z : Nat, z = x3.toInt.toNat := ⟨_, rfl⟩
        have e3 : x3 = nI p := by rw [hpp]; exact qof (by omega)
        obtain ⟨σ1, a1, a2, a3⟩ := gatherA hA hI hf
        obtain ⟨τ1, b1, b2, b3⟩ := layB hI hB hf
        have hl : law < 3 := by omega
        have hp : 1 ≤ p ∧ p ≤ 99 := by omega
        rw [e2, e3, a1, zbd_s, missA hI hf hl hp a3, zbd_s, zrd_i (x := 6 * nI f) (j := 6 * f) (by rw [q6, pk_mul]) (by omega) (by omega), (hB.fl hf).1, b1, zbd_s, missB hI b2 hf hl hp b3, zbd_s]
        exact Ag.mk rfl rfl a2 b2 hI
      · rw [if_neg k2, if_neg k2]; exact Ag.mk rfl rfl hA hB hI
    · rw [if_neg k1, if_neg k1]; exact Ag.mk rfl rfl hA hB hI
  · rw [if_neg g, if_neg g]; exact Ag.mk rfl rfl hA hB hI
/-! the best law -/
def bsS (v code : Nat) (o : Option (Nat × Nat)) : Option (Nat × Nat) := match o with
  | none => some (code, v)
  | some x => if x.2 ≤ v then some x else some (code, v)
def bsP (M : Nat → Nat → Nat) (law : Nat) : Nat → Nat → Option (Nat × Nat) → Option (Nat × Nat)
  | 0, _, o => o
  | d + 1, p, o => bsP M law d (p + 1) (bsS (M law p) (100 * law + p) o)
def bsL (M : Nat → Nat → Nat) : Nat → Nat → Option (Nat × Nat) → Option (Nat × Nat)
  | 0, _, o => o
  | d + 1, law, o => bsL M d (law + 1) (bsP M law 99 1 o)
def okO (o : Option (Nat × Nat)) : Prop := ∀ x, o = some x → x.1 ≤ 1000 ∧ x.2 ≤ 100000
theorem okS {v code : Nat} {o : Option (Nat × Nat)} (h : okO o) (hv : v ≤ 100000) (hc : code ≤ 1000) : okO (bsS v code o) := by
  intro x hx
  cases o with
  | none => cases hx; exact ⟨hc, hv⟩
  | some w =>
    have hx' : (if w.2 ≤ v then some w else some (code, v)) = some x := hx
    split at hx'
    · cases hx'; exact h _ rfl
    · cases hx'; exact ⟨hc, hv⟩
theorem bsS_some (v code : Nat) (o : Option (Nat × Nat)) : ∃ x, bsS v code o = some x := by
  cases o with
  | none => exact ⟨_, rfl⟩
  | some w =>
    show ∃ x, (if w.2 ≤ v then some w else some (code, v)) = some x
    split
    · exact ⟨_, rfl⟩
    · exact ⟨_, rfl⟩
theorem bsP_some (M : Nat → Nat → Nat) (law : Nat) : ∀ (d p : Nat) (x : Nat × Nat), ∃ y, bsP M law d p (some x) = some y
  | 0, _, x => ⟨x, rfl⟩
  | d + 1, p, x => by
    obtain ⟨w, hw⟩ := bsS_some (M law p) (100 * law + p) (some x)
    rw [bsP, hw]
    exact bsP_some M law d (p + 1) w
theorem bsL_some (M : Nat → Nat → Nat) : ∀ (d l : Nat) (x : Nat × Nat), ∃ y, bsL M d l (some x) = some y
  | 0, _, x => ⟨x, rfl⟩
  | d + 1, l, x => by
    obtain ⟨w, hw⟩ := bsP_some M l 99 1 x
    rw [bsL, hw]
    exact bsL_some M d (l + 1) w
theorem bs_all (M : Nat → Nat → Nat) : ∃ y, bsL M 3 0 none = some y := by
  show ∃ y, bsL M 2 1 (bsP M 0 98 2 (bsS (M 0 1) 1 none)) = some y
  obtain ⟨w, hw⟩ := bsP_some M 0 98 2 (1, M 0 1)
  rw [show bsS (M 0 1) 1 none = some (1, M 0 1) from rfl, hw]
  exact bsL_some M 2 1 w
def cA1 (o : Option (Nat × Nat)) : Int32 := match o with
  | none => 1
  | some x => nI x.1
def cA2 (o : Option (Nat × Nat)) : Int32 := match o with
  | none => -1
  | some x => nI x.2
def cB1 (o : Option (Nat × Nat)) : Int32 := match o with
  | none => -1
  | some x => nI x.1
def cB2 (o : Option (Nat × Nat)) : Int32 := match o with
  | none => 0
  | some x => nI x.2
theorem bestL16 {σ : zS} (hI : Inv S) {f law : Nat} (hf : f < 9) (hl : law < 3) (hG : GA S f σ 10) (k7 : Int32 → Int32 → Int32 → zS → Option (Int32 × zS)) (x1 : Int32) : ∀ (d n p : Nat) (o : Option (Nat × Nat)), okO o → 1 ≤ p → p + d = 100 → d < n → f_X6_best_L16 k7 x1 (nI law) n (cA1 o) (cA2 o) (nI p) σ = k7 (cA1 (bsP (fun l p => msN S f l p 10) law d p o)) (cA2 (bsP (fun l p => msN S f l p 10) law d p o)) (nI (law + 1)) σ
  | 0, n + 1, p, o, _, _, h, _ => by
    rw [f_X6_best_L16, if_pos (by rw [q99, qlt_n (by omega) (by omega)]; omega), nI_1]
    rfl
  | d + 1, n + 1, p, o, ho, h1, h, hn => by
    have hm := msN_le hI hf (law := law) (p := p) 10 (by omega)
    have ih := bestL16 hI hf hl hG k7 x1 d n (p + 1) (bsS (msN S f law p 10) (100 * law + p) o) (okS ho (by omega) (by omega)) (by omega) (by omega) (by omega)
    rw [f_X6_best_L16, if_neg (by rw [q99, qlt_n (by omega) (by omega)]; omega), missA hI hf hl ⟨h1, by omega⟩ hG, zbd_s, f_X6_best_J44, bsP, nI_1, q100, pk_mul, nI_add]
    cases o with
    | none => rw [if_pos (show cA2 none = -1 from rfl)]; exact ih
    | some x =>
      have hx := ho x rfl
      rw [show cA2 (some x) = nI x.2 from rfl, if_neg (nI_nm (by omega))]
      by_cases g : x.2 ≤ msN S f law p 10
      · rw [if_pos ((qle_n (by omega) (by omega)).mpr g)]
        rw [show bsS (msN S f law p 10) (100 * law + p) (some x) = some x from if_pos g] at ih ⊢
        exact ih
      · rw [if_neg (fun z => g ((qle_n (by omega) (by omega)).mp z))]
        rw [show bsS (msN S f law p 10) (100 * law + p) (some x) = some (100 * law + p, msN S f law p 10) from if_neg g] at ih ⊢
        exact ih
theorem okP (hI : Inv S) {f law : Nat} (hf : f < 9) (hl : law < 3) : ∀ (d p : Nat) (o : Option (Nat × Nat)), okO o → p + d ≤ 100 → okO (bsP (fun l p => msN S f l p 10) law d p o)
  | 0, _, o, h, _ => h
  | d + 1, p, o, h, hd => by
    have hm := msN_le hI hf (law := law) (p := p) 10 (by omega)
    rw [bsP]
    exact okP hI hf hl d (p + 1) _ (okS h (by omega) (by omega)) (by omega)
theorem bestL7 {σ : zS} (hI : Inv S) {f : Nat} (hf : f < 9) (hG : GA S f σ 10) (x1 : Int32) : ∀ (d n law : Nat) (o : Option (Nat × Nat)), okO o → law + d = 3 → d < n → f_X6_best_L7 x1 n (cA1 o) (cA2 o) (nI law) σ = some (if x1 = 0 then cA1 (bsL (fun l p => msN S f l p 10) d law o) else cA2 (bsL (fun l p => msN S f l p 10) d law o), σ)
  | 0, n + 1, law, o, _, h, _ => by
    rw [f_X6_best_L7, if_pos (by rw [q3, qle_n (by omega) (by omega)]; omega)]
    by_cases z : x1 = 0
    · rw [if_pos z, if_pos z]; rfl
    · rw [if_neg z, if_neg z]; rfl
  | d + 1, n + 1, law, o, ho, h, hn => by
    have hl : law < 3 := by omega
    have ih := bestL7 hI hf hG x1 d n (law + 1) (bsP (fun l p => msN S f l p 10) law 99 1 o) (okP hI hf hl 99 1 o ho (by omega)) (by omega) (by omega)
    have h2 := bestL16 hI hf hl hG (fun x2 x3 x4 σ => f_X6_best_L7 x1 n x2 x3 x4 σ) x1 99 zfu 1 o ho (by omega) (by omega) (zfu_gt (by omega))
    rw [f_X6_best_L7, if_neg (by rw [q3, qle_n (by omega) (by omega)]; omega)]
    exact Eq.trans h2 ih
theorem lawL55 {τ : zS} (hI : Inv S) (hB : RB τ S) {f law : Nat} (hf : f < 9) (hl : law < 3) (hM : ∀ q, q < 10 → τ 16 q = en (DmA S f q)) (k46 : Int32 → Int32 → Int32 → zS → Option (Int32 × zS)) (x2 : Int32) : ∀ (d n p : Nat) (o : Option (Nat × Nat)), okO o → 1 ≤ p → p + d = 100 → d < n → f_X10_law_L55 k46 (nI f) x2 (nI law) n (cB1 o) (cB2 o) (nI p) τ = k46 (cB1 (bsP (fun l p => msN S f l p 10) law d p o)) (cB2 (bsP (fun l p => msN S f l p 10) law d p o)) (nI (law + 1)) τ
  | 0, n + 1, p, o, _, _, h, _ => by
    rw [f_X10_law_L55, if_pos (by rw [q100, qle_n (by omega) (by omega)]; omega), nI_1]
    rfl
  | d + 1, n + 1, p, o, ho, h1, h, hn => by
    have hm := msN_le hI hf (law := law) (p := p) 10 (by omega)
    have ih := lawL55 hI hB hf hl hM k46 x2 d n (p + 1) (bsS (msN S f law p 10) (100 * law + p) o) (okS ho (by omega) (by omega)) (by omega) (by omega) (by omega)
    rw [f_X10_law_L55, if_neg (by rw [q100, qle_n (by omega) (by omega)]; omega), missB hI hB hf hl ⟨h1, by omega⟩ hM, zbd_s, f_X10_law_J85, bsP, nI_1, q100, pk_mul, nI_add]
    cases o with
    | none => rw [if_pos (show cB1 none = -1 from rfl)]; exact ih
    | some x =>
      have hx := ho x rfl
      rw [show cB1 (some x) = nI x.1 from rfl, if_neg (nI_nm (by omega)), show cB2 (some x) = nI x.2 from rfl]
      by_cases g : x.2 ≤ msN S f law p 10
      · rw [if_pos ((qle_n (by omega) (by omega)).mpr g)]
        rw [show bsS (msN S f law p 10) (100 * law + p) (some x) = some x from if_pos g] at ih ⊢
        exact ih
      · rw [if_neg (fun z => g ((qle_n (by omega) (by omega)).mp z))]
        rw [show bsS (msN S f law p 10) (100 * law + p) (some x) = some (100 * law + p, msN S f law p 10) from if_neg g] at ih ⊢
        exact ih
theorem lawL46 {τ : zS} (hI : Inv S) (hB : RB τ S) {f : Nat} (hf : f < 9) (hM : ∀ q, q < 10 → τ 16 q = en (DmA S f q)) (x2 : Int32) : ∀ (d n law : Nat) (o : Option (Nat × Nat)), okO o → law + d = 3 → d < n → f_X10_law_L46 (nI f) x2 n (cB1 o) (cB2 o) (nI law) τ = some (if x2 = 0 then cB1 (bsL (fun l p => msN S f l p 10) d law o) else cB2 (bsL (fun l p => msN S f l p 10) d law o), τ)
  | 0, n + 1, law, o, _, h, _ => by
    rw [f_X10_law_L46, if_pos (by rw [q3, qle_n (by omega) (by omega)]; omega)]
    by_cases z : x2 = 0
    · rw [if_pos z, if_pos z]; rfl
    · rw [if_neg z, if_neg z]; rfl
  | d + 1, n + 1, law, o, ho, h, hn => by
    have hl : law < 3 := by omega
    have ih := lawL46 hI hB hf hM x2 d n (law + 1) (bsP (fun l p => msN S f l p 10) law 99 1 o) (okP hI hf hl 99 1 o ho (by omega)) (by omega) (by omega)
    have h2 := lawL55 hI hB hf hl hM (fun x3 x4 x5 σ => f_X10_law_L46 (nI f) x2 n x3 x4 x5 σ) x2 99 zfu 1 o ho (by omega) (by omega) (zfu_gt (by omega))
    rw [f_X10_law_L46, if_neg (by rw [q3, qle_n (by omega) (by omega)]; omega)]
    exact Eq.trans h2 ih
theorem ag_law {σ τ : zS} (hA : RA σ S) (hB : RB τ S) (hI : Inv S) (x1 x2 : Int32) : Ag (f_X9_law x1 x2 σ) (f_X10_law x1 x2 τ) S := by
  unfold f_X9_law f_X10_law
  rw [isToldA hA hI, isFlowB hB, zbd_s, zbd_s, ifz, ifz, isWithinA, inB, zbd_s, zbd_s, ifz, ifz, t0, t1]
  by_cases g : tl S x1
  · rw [if_pos g, if_pos g]
    by_cases k1 : 0 ≤ x2.toInt ∧ x2.toInt ≤ 1
    · rw [if_pos k1, if_pos k1]
      obtain ⟨f, hf, rfl, h4⟩ := tl_of g
      obtain ⟨σ1, a1, a2, a3⟩ := gatherA hA hI hf
      obtain ⟨τ1, b1, b2, b3⟩ := layB hI hB hf
      have o0 : okO none := fun x hx => by cases hx
      have ha : f_X6_best x2 σ1 = some (if x2 = 0 then cA1 (bsL (fun l p => msN S f l p 10) 3 0 none) else cA2 (bsL (fun l p => msN S f l p 10) 3 0 none), σ1) := bestL7 hI hf a3 x2 3 zfu 0 none o0 (by omega) (zfu_gt (by omega))
      have hb : f_X10_law_L46 (nI f) x2 zfu (-1) 0 0 τ1 = some (if x2 = 0 then cB1 (bsL (fun l p => msN S f l p 10) 3 0 none) else cB2 (bsL (fun l p => msN S f l p 10) 3 0 none), τ1) := lawL46 hI b2 hf b3 x2 3 zfu 0 none o0 (by omega) (zfu_gt (by omega))
      obtain ⟨w, hw⟩ := bs_all (fun l p => msN S f l p 10)
      rw [hw] at ha hb
      rw [a1, zbd_s, ha, zbd_s, zrd_i (x := 6 * nI f) (j := 6 * f) (by rw [q6, pk_mul]) (by omega) (by omega), (hB.fl hf).1, b1, zbd_s, hb]
      exact Ag.mk rfl rfl a2 b2 hI
    · rw [if_neg k1, if_neg k1]; exact Ag.mk rfl rfl hA hB hI
  · rw [if_neg g, if_neg g]; exact Ag.mk rfl rfl hA hB hI
end SHARES
