/-! PURE: years in the class, downward and the end -/
section DOWN
variable {S : aS}
theorem lowerL66 (hI : Inv S) {fc b : Nat} (hf : fc ≤ 12) (hb : b < S 11 3) {rk : Nat → Nat} (hr : ∀ b, b < S 11 3 → rk b < 12 ∧ (0 < Pw S fc b → rk (Pw S fc b - 1) < rk b)) (k45 : Int32 → zS → Option (Int32 × zS)) :
    ∀ (m n st c : Nat) (σ : zS) (w : aS), RA σ S → WB σ w (S 11 3) → (∀ k b, b < S 11 3 → w k b ≤ 9999) → c ≤ S 11 3 → (0 < c → rk (c - 1) < m ∧ rk (c - 1) + st < 12) → st < 100 → m < n →
    ∃ (σ1 : zS) (w1 : aS), f_X8_lowerStruck_L66 k45 (nI fc - 1) (nI b) n (nI c - 1) (nI st) σ = k45 (nI (b + 1)) σ1 ∧ WB σ1 w1 (S 11 3) ∧ (∀ k, k ≠ 30 → σ1 k = σ k) ∧ (∀ k, k ≠ 1 → w1 k = w k) ∧ (∀ u, w1 1 u ≤ w 1 u) ∧ (∀ u, frmP (Pw S fc) u m c = true → w1 1 u ≤ w 1 b) ∧ (∀ Y : Nat → Nat, (∀ u, u < S 11 3 → Y u ≤ w 1 u) → (∀ u, frmP (Pw S fc) u m c = true → Y u ≤ Y b) → ∀ u, u < S 11 3 → Y u ≤ w1 1 u)
  | 0, n + 1, st, c, σ, w, hA, hW, hw, hc, h, hs, _ => by
    have h12 := hI.n12
    have e : c = 0 := Nat.eq_zero_of_not_pos (fun z => by have := h z; omega)
    refine ⟨σ, w, ?_, hW, fun _ _ => rfl, fun _ _ => rfl, fun _ => Nat.le_refl _, fun u hu => ?_, fun Y hY _ => hY⟩
    · rw [f_X8_lowerStruck_L66, if_pos ((nI_nm1 (by omega)).mpr e), nI_1]
    · rw [frmP] at hu; cases hu
  | m + 1, n + 1, st, c, σ, w, hA, hW, hw, hc, h, hs, hn => by
    have h12 := hI.n12
    by_cases e : c = 0
    · refine ⟨σ, w, ?_, hW, fun _ _ => rfl, fun _ _ => rfl, fun _ => Nat.le_refl _, fun u hu => ?_, fun Y hY _ => hY⟩
      · rw [f_X8_lowerStruck_L66, if_pos ((nI_nm1 (by omega)).mpr e), nI_1]
      · rw [frmP, if_pos e] at hu; cases hu
    · have hc1 : c - 1 < S 11 3 := by omega
      have hh := h (by omega)
      have hwc := hw 1 (c - 1) hc1
      have hwb := hw 1 b hb
      have hA1 : RA (zup σ 30 (12 * 1 + (c - 1)) (nI (min (w 1 (c - 1)) (w 1 b)))) S := RA_29 hA (fun k _ h2 _ => zup_ne h2)
      have ek : f_X8_lowerStruck_L66 k45 (nI fc - 1) (nI b) (n + 1) (nI c - 1) (nI st) σ = f_X8_lowerStruck_L66 k45 (nI fc - 1) (nI b) n (nI (Pw S fc (c - 1)) - 1) (nI (st + 1)) (zup σ 30 (12 * 1 + (c - 1)) (nI (min (w 1 (c - 1)) (w 1 b)))) := by
        rw [f_X8_lowerStruck_L66, if_neg (fun z => e ((nI_nm1 (by omega)).mp z)), if_neg (by rw [q12, qle_n (by omega) (by omega)]; omega), nI_sub1 (by omega), boundA (x := 1) (k := 1) rfl (by omega) (by omega), zbd_s, hW 1 b (by omega) hb, lowerA (x := 1) (k := 1) hW rfl (by omega) hc1 h12 (by omega) (by omega), zbd_s, aboveA hA1 hI hc1 hf, zbd_s, nI_1]
      obtain ⟨σ1, w1, e1, e2, e3, e4, e5, e6, e7⟩ := lowerL66 hI hf hb hr k45 m n (st + 1) (Pw S fc (c - 1)) (zup σ 30 (12 * 1 + (c - 1)) (nI (min (w 1 (c - 1)) (w 1 b)))) (aup w 1 (c - 1) (min (w 1 (c - 1)) (w 1 b))) hA1 (WB_up hW (by omega) h12)
        (fun k b1 hb1 => by unfold aup; split; omega; exact hw k b1 hb1) ((Fo_w hI fc).2.1 _ hc1) (fun z => by have := (hr _ hc1).2 z; omega) (by omega) (by omega)
      have hle : ∀ u, aup w 1 (c - 1) (min (w 1 (c - 1)) (w 1 b)) 1 u ≤ w 1 u := by
        intro u
        by_cases eu : u = c - 1
        · rw [eu, aup_at]; omega
        · rw [aup_j eu]; omega
      refine ⟨σ1, w1, ek.trans e1, e2, fun k hk => by rw [e3 k hk, zup_ne hk], fun k hk => by rw [e4 k hk, aup_f hk], fun u => Nat.le_trans (e5 u) (hle u), fun u hu => ?_, fun Y hY hYd => ?_⟩
      · rw [frmP, if_neg e] at hu
        by_cases e8 : c = u + 1
        · have h9 := e5 u
          rw [show u = c - 1 by omega, aup_at] at h9
          rw [show u = c - 1 by omega]
          omega
        · rw [if_neg e8] at hu
          exact Nat.le_trans (e6 u hu) (hle b)
      · have hYc : Y (c - 1) ≤ Y b := hYd (c - 1) (by rw [frmP, if_neg e, if_pos (by omega)])
        refine e7 Y (fun u hu => ?_) (fun u hu => ?_)
        · by_cases eu : u = c - 1
          · rw [eu, aup_at]
            have := hY (c - 1) hc1
            have := hY b hb
            omega
          · rw [aup_j eu]; exact hY u hu
        · refine hYd u ?_
          rw [frmP, if_neg e]
          split
          · rfl
          · exact hu
theorem HP_le {o : aS} {n b : Nat} (hb : b < n) (ho : ∀ k b, b < n → o k b ≤ 9999) : HPv o b ≤ 9999 := by
  have := ho 1 b hb
  unfold HPv; omega
theorem lowerL45 (hI : Inv S) {fc : Nat} (hf : fc ≤ 12) : ∀ (d n b : Nat) (σ : zS) (w : aS), RA σ S → WB σ w (S 11 3) → (∀ k b, b < S 11 3 → w k b ≤ 9999) → (∀ u, u < S 11 3 → SHv (Pw S fc) (ow S) (S 11 3) u ≤ w 1 u ∧ w 1 u ≤ HPv (ow S) u) → (∀ c u, c < b → dn (Pw S fc) c u = true → w 1 u ≤ HPv (ow S) c) → b + d = S 11 3 → d < n →
    ∃ σ1, f_X8_lowerStruck_L45 (nI fc - 1) n (nI b) σ = some (0, σ1) ∧ (∀ k, k ≠ 30 → σ1 k = σ k) ∧ WB σ1 (fun k b => if k = 1 then SHv (Pw S fc) (ow S) (S 11 3) b else w k b) (S 11 3)
  | 0, n + 1, b, σ, w, hA, hW, hw, h2, h3, h, _ => by
    have hb : b = S 11 3 := by omega
    refine ⟨σ, ?_, fun _ _ => rfl, WB_cong hW (fun k c hk hc => ?_)⟩
    · rw [f_X8_lowerStruck_L45, hA.many, hb, if_pos (Int32.le_refl _)]
    · split
      · rename_i z; rw [z]
        apply Nat.le_antisymm
        · exact le_mnF (hw 1 c hc) (fun u hu hd => h3 u c (by omega) hd)
        · exact (h2 c hc).1
      · rfl
  | d + 1, n + 1, b, σ, w, hA, hW, hw, h2, h3, h, hn => by
    have h12 := hI.n12
    have hb : b < S 11 3 := by omega
    have hF := Fo_w hI fc
    obtain ⟨rk, hr⟩ := hF.2.2
    have hP := hF.2.1 b hb
    obtain ⟨σ1, w1, e1, e2, e3, e4, e5, e6, e7⟩ := lowerL66 hI hf hb hr (fun x2 σ => f_X8_lowerStruck_L45 (nI fc - 1) n x2 σ) 12 zfu 0 (Pw S fc b) σ w hA hW hw hP (fun z => by have := (hr (Pw S fc b - 1) (by omega)).1; omega) (by omega) (zfu_gt (by omega))
    obtain ⟨σ2, f1, f2, f3⟩ := lowerL45 hI hf d n (b + 1) σ1 w1 (RA_29 hA (fun k _ h2 _ => e3 k h2)) e2
      (fun k c hc => by
        by_cases ek : k = 1
        · rw [ek]; exact Nat.le_trans (e5 c) (hw 1 c hc)
        · rw [e4 k ek]; exact hw k c hc)
      (fun u hu => ⟨e7 (SHv (Pw S fc) (ow S) (S 11 3)) (fun u hu => (h2 u hu).1) (fun u hu => SH_dn hF hb (dn_of hF hb hu)) u hu, Nat.le_trans (e5 u) (h2 u hu).2⟩)
      (fun c u hc hd => by
        by_cases ec : c = b
        · rw [ec] at hd ⊢
          by_cases eu : u = b
          · rw [eu]; exact Nat.le_trans (e5 b) (h2 b hb).2
          · have hd2 : frmP (Pw S fc) u 12 (Pw S fc b) = true := by
              unfold dn at hd
              simp only [Bool.or_eq_true, decide_eq_true_eq] at hd
              rcases hd with hd | hd
              · exact absurd hd.symm eu
              · exact hd
            exact Nat.le_trans (e6 u hd2) (h2 b hb).2
        · exact Nat.le_trans (e5 u) (h3 c u (by omega) hd)) (by omega) (by omega)
    refine ⟨σ2, ?_, fun k hk => by rw [f2 k hk, e3 k hk], WB_cong f3 (fun k c hk hc => ?_)⟩
    · rw [f_X8_lowerStruck_L45, hA.many, if_neg (by rw [qle_n (by omega) (by omega)]; omega), aboveA hA hI hb hf, zbd_s]
      exact e1.trans f1
    · split
      · rfl
      · rename_i z; rw [e4 k z]
theorem lowerL2 (hI : Inv S) {fc : Nat} (hf : fc ≤ 12) : ∀ (d n b : Nat) (σ : zS) (w : aS), RA σ S → WB σ w (S 11 3) → (∀ k b, b < S 11 3 → w k b ≤ 9999) → (∀ c, c < S 11 3 → w 5 c = ow S 5 c) → (∀ c, c < b → w 3 c = AHv (ow S) c ∧ w 1 c = HPv (ow S) c) → (∀ c, b ≤ c → c < S 11 3 → w 3 c = ow S 3 c ∧ w 1 c = ow S 1 c) → b + d = S 11 3 → d < n →
    ∃ σ1, f_X8_lowerStruck_L2 (nI fc - 1) n (nI b) σ = some (0, σ1) ∧ (∀ k, k ≠ 30 → σ1 k = σ k) ∧ WB σ1 (fun k b => if k = 1 then SHv (Pw S fc) (ow S) (S 11 3) b else if k = 3 then AHv (ow S) b else w k b) (S 11 3)
  | 0, n + 1, b, σ, w, hA, hW, hw, h1, h2, h3, h, _ => by
    have h12 := hI.n12
    have hb : b = S 11 3 := by omega
    have hF := Fo_w hI fc
    obtain ⟨σ1, e1, e2, e3⟩ := lowerL45 hI hf (S 11 3) zfu 0 σ w hA hW hw (fun u hu => by rw [(h2 u (by omega)).2]; exact ⟨SH_own hu, Nat.le_refl _⟩) (fun c u hc => absurd hc (Nat.not_lt_zero c)) (by omega) (zfu_gt (by omega))
    refine ⟨σ1, ?_, e2, WB_cong e3 (fun k c hk hc => ?_)⟩
    · rw [f_X8_lowerStruck_L2, hA.many, hb, if_pos (Int32.le_refl _)]
      exact e1
    · split
      · rfl
      · split
        · rename_i z; rw [z]; exact (h2 c (by omega)).1
        · rfl
  | d + 1, n + 1, b, σ, w, hA, hW, hw, h1, h2, h3, h, hn => by
    have h12 := hI.n12
    have hb : b < S 11 3 := by omega
    have ho : ∀ k b, b < S 11 3 → ow S k b ≤ 9999 := fun k b hb => ow_le hI hb
    obtain ⟨a3, a1⟩ := h3 b (Nat.le_refl _) hb
    have a5 := h1 b hb
    have l1 := ho 1 b hb
    have l3 := ho 3 b hb
    have l5 := ho 5 b hb
    have ev3 : min (w 3 b) (w 5 b) = AHv (ow S) b := by rw [a3, a5]; rfl
    have lah : AHv (ow S) b ≤ 9999 := by unfold AHv; omega
    have hW1 : WB (zup σ 30 (12 * 3 + b) (nI (AHv (ow S) b))) (aup w 3 b (AHv (ow S) b)) (S 11 3) := WB_up hW (by omega) h12
    have ev1 : min (w 1 b) (AHv (ow S) b) = HPv (ow S) b := by rw [a1]; rfl
    have hA1 : RA (zup σ 30 (12 * 3 + b) (nI (AHv (ow S) b))) S := RA_29 hA (fun k _ h2 _ => zup_ne h2)
    have lhp := HP_le hb ho
    obtain ⟨σ2, f1, f2, f3⟩ := lowerL2 hI hf d n (b + 1) (zup (zup σ 30 (12 * 3 + b) (nI (AHv (ow S) b))) 30 (12 * 1 + b) (nI (HPv (ow S) b))) (aup (aup w 3 b (AHv (ow S) b)) 1 b (HPv (ow S) b)) (RA_29 hA1 (fun k _ h2 _ => zup_ne h2)) (WB_up hW1 (by omega) h12)
      (fun k c hc => by unfold aup; split; omega; split; omega; exact hw k c hc)
      (fun c hc => by rw [aup_c (by decide), aup_c (by decide)]; exact h1 c hc)
      (fun c hc => by
        rw [aup_c (c := 1) (a := 3) (by decide)]
        by_cases e : c = b
        · rw [e, aup_at, aup_at]; exact ⟨rfl, rfl⟩
        · rw [aup_j e, aup_j e, aup_c (c := 3) (a := 1) (by decide)]; exact h2 c (by omega))
      (fun c hc hc2 => by
        have e : c ≠ b := by omega
        rw [aup_c (c := 1) (a := 3) (by decide), aup_j e, aup_j e, aup_c (c := 3) (a := 1) (by decide)]; exact h3 c (by omega) hc2) (by omega) (by omega)
    refine ⟨σ2, ?_, fun k hk => by rw [f2 k hk, zup_ne hk, zup_ne hk], WB_cong f3 (fun k c hk hc => ?_)⟩
    · rw [f_X8_lowerStruck_L2, hA.many, if_neg (by rw [qle_n (by omega) (by omega)]; omega), boundA (x := 5) (k := 5) rfl (by omega) (by omega), zbd_s, hW 5 b (by omega) hb, lowerA (x := 3) (k := 3) hW rfl (by omega) hb h12 (by omega) (by omega), zbd_s, ev3, boundA (x := 3) (k := 3) rfl (by omega) (by omega), zbd_s, hW1 3 b (by omega) hb, aup_at, lowerA (x := 1) (k := 1) hW1 rfl (by omega) hb h12 (by rw [aup_c (by decide)]; omega) (by omega), zbd_s, aup_c (c := 3) (a := 1) (by decide), ev1, nI_1]
      exact f1
    · split
      · rfl
      · split
        · rfl
        · rename_i z1 z2; rw [aup_c z1, aup_c z2]
def alD (p : Nat → Bool) : Nat → Nat → Bool
  | 0, _ => true
  | d + 1, b => p b && alD p d (b + 1)
theorem alD_iff {p : Nat → Bool} : ∀ {d b : Nat}, alD p d b = true ↔ ∀ c, b ≤ c → c < b + d → p c = true
  | 0, b => ⟨fun _ c h1 h2 => by omega, fun _ => rfl⟩
  | d + 1, b => by
    rw [alD, Bool.and_eq_true, alD_iff]
    constructor
    · rintro ⟨h1, h2⟩ c hc hd
      by_cases e : c = b
      · rw [e]; exact h1
      · exact h2 c (by omega) (by omega)
    · intro h
      exact ⟨h b (Nat.le_refl _) (by omega), fun c h1 h2 => h c (by omega) (by omega)⟩
theorem alD_all (p : Nat → Bool) (n : Nat) : alD p n 0 = allN p n := by
  apply Bool.eq_iff_iff.mpr
  rw [alD_iff, allN_iff]
  exact ⟨fun h b hb => h b (Nat.zero_le _) (by omega), fun h b _ hb => h b (by omega)⟩
theorem hasWay0 (σ : zS) (n : Nat) (x : Int32) : f_X8_hasWay_L4 (n + 1) 0 x σ = some (0, σ) := by
  rw [f_X8_hasWay_L4, if_pos rfl]
  exact if_pos (by decide)
theorem hasWayL (hI : Inv S) (P : Nat → Nat) {σ : zS} (hA : RA σ S) (hW : WB σ (Fin6 P (ow S) (elS S) (S 11 3)) (S 11 3)) : ∀ (d n b : Nat), b + d = S 11 3 → d + 1 < n → f_X8_hasWay_L4 n 1 (nI b) σ = some (if alD (wayb P (ow S) (elS S) (S 11 3)) d b = true then 1 else 0, σ)
  | 0, n + 1, b, h, _ => by
    have hb : b = S 11 3 := by omega
    rw [f_X8_hasWay_L4, if_neg (by decide), hA.many, hb, if_pos (Int32.le_refl _)]
    exact if_pos (by decide)
  | d + 1, n + 2, b, h, hn => by
    have h12 := hI.n12
    have hb : b < S 11 3 := by omega
    have ho : ∀ k b, b < S 11 3 → ow S k b ≤ 9999 := fun k b hb => ow_le hI hb
    have ih := hasWayL hI P hA hW d (n + 1) (b + 1) (by omega) (by omega)
    have l0 := SL_le (P := P) (b := b) ho
    have l1 : SHv P (ow S) (S 11 3) b ≤ 9999 := mnF_top _ _ _
    have l2 := AL_le (P := P) hb ho
    have l3 : AHv (ow S) b ≤ 9999 := by have := ho 3 b hb; unfold AHv; omega
    have l4 := LL_le (P := P) (el := elS S) (b := b) ho
    have l5 := ho 5 b hb
    rw [f_X8_hasWay_L4, if_neg (by decide), hA.many, if_neg (by rw [qle_n (by omega) (by omega)]; omega), boundA (x := 0) (k := 0) rfl (by omega) (by omega), zbd_s, boundA (x := 1) (k := 1) rfl (by omega) (by omega), zbd_s, boundA (x := 2) (k := 2) rfl (by omega) (by omega), zbd_s, boundA (x := 3) (k := 3) rfl (by omega) (by omega), zbd_s, boundA (x := 4) (k := 4) rfl (by omega) (by omega), zbd_s, boundA (x := 5) (k := 5) rfl (by omega) (by omega), zbd_s]
    rw [hW 0 b (by omega) hb, hW 1 b (by omega) hb, hW 2 b (by omega) hb, hW 3 b (by omega) hb, hW 4 b (by omega) hb, hW 5 b (by omega) hb, nI_1, hasWay0, alD]
    show (if nI (SHv P (ow S) (S 11 3) b) < nI (SLv P (ow S) (S 11 3) b) then _ else if nI (AHv (ow S) b) < nI (ALv P (ow S) (S 11 3) b) then _ else if nI (ow S 5 b) < nI (LLv P (ow S) (elS S) (S 11 3) b) then _ else _) = _
    unfold wayb
    by_cases c1 : SHv P (ow S) (S 11 3) b < SLv P (ow S) (S 11 3) b
    · rw [if_pos ((qlt_n (by omega) (by omega)).mpr c1), if_neg (by simp; omega)]
    rw [if_neg (fun z => c1 ((qlt_n (by omega) (by omega)).mp z))]
    by_cases c2 : AHv (ow S) b < ALv P (ow S) (S 11 3) b
    · rw [if_pos ((qlt_n (by omega) (by omega)).mpr c2), if_neg (by simp; omega)]
    rw [if_neg (fun z => c2 ((qlt_n (by omega) (by omega)).mp z))]
    by_cases c3 : ow S 5 b < LLv P (ow S) (elS S) (S 11 3) b
    · rw [if_pos ((qlt_n (by omega) (by omega)).mpr c3), if_neg (by simp; omega)]
    rw [if_neg (fun z => c3 ((qlt_n (by omega) (by omega)).mp z)), ih]
    have e1 : decide (SLv P (ow S) (S 11 3) b ≤ SHv P (ow S) (S 11 3) b) = true := by simp; omega
    have e2 : decide (ALv P (ow S) (S 11 3) b ≤ AHv (ow S) b) = true := by simp; omega
    have e3 : decide (LLv P (ow S) (elS S) (S 11 3) b ≤ ow S 5 b) = true := by simp; omega
    rw [e1, e2, e3]
    rfl
/-- the spans, as the class finds them -/
theorem settleA (hI : Inv S) {σ : zS} (hA : RA σ S) (hO : OB S σ (S 11 3)) {fc : Nat} (hf : fc ≤ 12) :
    ∃ σ1, f_X8_settleWithout (nI fc - 1) σ = some (if wayv (Pw S fc) (ow S) (elS S) (S 11 3) = true then 1 else 0, σ1) ∧ (∀ k, k ≠ 30 → σ1 k = σ k) ∧ WB σ1 (Fin6 (Pw S fc) (ow S) (elS S) (S 11 3)) (S 11 3) := by
  have h12 := hI.n12
  have ho : ∀ k b, b < S 11 3 → ow S k b ≤ 9999 := fun k b hb => ow_le hI hb
  let σ0 : zS := zsa σ 30 (va_cpy (σ 29) (σ 30) 0 0 72)
  have k0 : ∀ k, k ≠ 30 → σ0 k = σ k := fun k hk => zsa_ne hk
  have hA0 : RA σ0 S := RA_29 hA (fun k _ h2 _ => k0 k h2)
  have hW0 : WB σ0 (ow S) (S 11 3) := by
    intro k b hk hb
    show zsa σ 30 (va_cpy (σ 29) (σ 30) 0 0 72) 30 (12 * k + b) = _
    rw [zsa_eq, pk_cpy_in (by omega) (by omega), Nat.sub_zero, Nat.zero_add]
    exact (hO b hb).1 k hk
  obtain ⟨σ1, a1, a2, a3⟩ := raiseS hI hf (S 11 3) zfu 0 σ0 (ow S) hA0 hW0 (fun k b _ _ => rfl) (fun b hb => ⟨Nat.le_refl _, SL_own hb⟩) (fun c hc => absurd hc (Nat.not_lt_zero c)) (by omega) (zfu_gt (by omega))
  have hA1 : RA σ1 S := RA_29 hA0 (fun k _ h2 _ => a2 k h2)
  obtain ⟨σ2, b1, b2, b3⟩ := raiseLaidL2 hI (Pw S fc) (S 11 3) zfu 0 σ1 _ hA1 a3 (fun c hc => ⟨rfl, rfl, rfl, rfl⟩) (fun c hc => absurd hc (Nat.not_lt_zero c)) (fun c _ hc => ⟨rfl, rfl⟩) (by omega) (zfu_gt (by omega))
  have hA2 : RA σ2 S := RA_29 hA1 (fun k _ h2 _ => b2 k h2)
  obtain ⟨σ3, c1, c2, c3⟩ := lowerL2 hI hf (S 11 3) zfu 0 σ2 _ hA2 b3 (fun k c hc => by
      show (match k with | 0 => SLv (Pw S fc) (ow S) (S 11 3) c | 2 => ALv (Pw S fc) (ow S) (S 11 3) c | 4 => LLv (Pw S fc) (ow S) (elS S) (S 11 3) c | k => ow S k c) ≤ 9999
      split
      · exact SL_le ho
      · exact AL_le hc ho
      · exact LL_le ho
      · exact ho _ c hc) (fun c hc => rfl) (fun c hc => absurd hc (Nat.not_lt_zero c)) (fun c _ hc => ⟨rfl, rfl⟩) (by omega) (zfu_gt (by omega))
  have hA3 : RA σ3 S := RA_29 hA2 (fun k _ h2 _ => c2 k h2)
  have hW3 : WB σ3 (Fin6 (Pw S fc) (ow S) (elS S) (S 11 3)) (S 11 3) := WB_cong c3 (fun k c hk hc => by
    match k, hk with
    | 0, _ | 1, _ | 2, _ | 3, _ | 4, _ | 5, _ => rfl
    | k + 6, h => omega)
  refine ⟨σ3, ?_, fun k hk => by rw [c2 k hk, b2 k hk, a2 k hk, k0 k hk], hW3⟩
  have hw := hasWayL hI (Pw S fc) hA3 hW3 (S 11 3) zfu 0 (by omega) (zfu_gt (by omega))
  have ea : f_X8_raiseStruck (nI fc - 1) σ0 = some (0, σ1) := a1
  have eb : f_X8_raiseLaid σ1 = some (0, σ2) := b1
  have ec : f_X8_lowerStruck (nI fc - 1) σ2 = some (0, σ3) := c1
  have ed : f_X8_hasWay σ3 = some (if wayv (Pw S fc) (ow S) (elS S) (S 11 3) = true then 1 else 0, σ3) := by
    unfold wayv
    rw [← alD_all]
    exact hw
  unfold f_X8_settleWithout zcp
  show zbd (f_X8_raiseStruck (nI fc - 1) σ0) _ = _
  rw [ea, zbd_s, eb, zbd_s, ec, zbd_s, ed, zbd_s, zrb_if]
theorem settle0 (hI : Inv S) {σ : zS} (hA : RA σ S) : ∃ σ1, f_X8_settle σ = some (if wayv (Pw S 0) (ow S) (elS S) (S 11 3) = true then 1 else 0, σ1) ∧ (∀ k, k ≠ 29 → k ≠ 30 → k ≠ 31 → σ1 k = σ k) ∧ WB σ1 (Fin6 (Pw S 0) (ow S) (elS S) (S 11 3)) (S 11 3) ∧ OB S σ1 (S 11 3) := by
  obtain ⟨σ1, a1, a2, a3⟩ := bbnA hA hI
  have hA1 : RA σ1 S := RA_29 hA (fun k h1 _ h3 => a2 k h1 h3)
  obtain ⟨σ2, b1, b2, b3⟩ := settleA hI hA1 a3 (fc := 0) (by omega)
  have em : nI 0 - 1 = (-1 : Int32) := by decide
  rw [em] at b1
  refine ⟨σ2, ?_, fun k h1 h2 h3 => by rw [b2 k h2, a2 k h1 h3], b3, fun b hb => ?_⟩
  · unfold f_X8_settle
    rw [a1, zbd_s, b1, zbd_s, zrb_if]
  · rw [b2 29 (by decide), b2 31 (by decide)]; exact a3 b hb
end DOWN
