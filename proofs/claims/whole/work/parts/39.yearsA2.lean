/-! PURE: years in the class, the passes -/
theorem WB_cong {σ : zS} {w w1 : aS} {N : Nat} (h : WB σ w N) (e : ∀ k b, k < 6 → b < N → w k b = w1 k b) : WB σ w1 N := fun k b hk hb => by rw [h k b hk hb, e k b hk hb]
/-- the ends -/
def Fin6 (P : Nat → Nat) (o : aS) (el : Nat → Nat → Bool) (n : Nat) : aS := fun k b => match k with
  | 0 => SLv P o n b
  | 1 => SHv P o n b
  | 2 => ALv P o n b
  | 3 => AHv o b
  | 4 => LLv P o el n b
  | _ => o 5 b
theorem SL_le {P : Nat → Nat} {o : aS} {n b : Nat} (ho : ∀ k b, b < n → o k b ≤ 9999) : SLv P o n b ≤ 9999 := mxF_le (fun u hu _ => ho 0 u hu)
theorem AL_le {P : Nat → Nat} {o : aS} {n b : Nat} (hb : b < n) (ho : ∀ k b, b < n → o k b ≤ 9999) : ALv P o n b ≤ 9999 := by
  have := SL_le (P := P) (b := b) ho
  have := ho 2 b hb
  unfold ALv; omega
theorem LP_le {P : Nat → Nat} {o : aS} {n b : Nat} (hb : b < n) (ho : ∀ k b, b < n → o k b ≤ 9999) : LPv P o n b ≤ 9999 := by
  have := AL_le (P := P) hb ho
  have := ho 4 b hb
  unfold LPv; omega
theorem LL_le {P : Nat → Nat} {o : aS} {el : Nat → Nat → Bool} {n b : Nat} (ho : ∀ k b, b < n → o k b ≤ 9999) : LLv P o el n b ≤ 9999 := mxF_le (fun u hu _ => LP_le hu ho)
section PASS
variable {S : aS}
theorem raiseS (hI : Inv S) {fc : Nat} (hf : fc ≤ 12) : ∀ (d n b : Nat) (σ : zS) (w : aS), RA σ S → WB σ w (S 11 3) → (∀ k b, b < S 11 3 → 1 ≤ k → w k b = ow S k b) → (∀ b, b < S 11 3 → ow S 0 b ≤ w 0 b ∧ w 0 b ≤ SLv (Pw S fc) (ow S) (S 11 3) b) → (∀ c, c < b → w 0 c = SLv (Pw S fc) (ow S) (S 11 3) c) → b + d = S 11 3 → d < n →
    ∃ σ1, f_X8_raiseStruck_L2 (nI fc - 1) n (nI b) σ = some (0, σ1) ∧ (∀ k, k ≠ 30 → σ1 k = σ k) ∧ WB σ1 (fun k b => if k = 0 then SLv (Pw S fc) (ow S) (S 11 3) b else ow S k b) (S 11 3)
  | 0, n + 1, b, σ, w, hA, hW, h1, h2, h3, h, _ => by
    have hb : b = S 11 3 := by omega
    refine ⟨σ, ?_, fun _ _ => rfl, WB_cong hW (fun k c hk hc => ?_)⟩
    · rw [f_X8_raiseStruck_L2, hA.many, hb, if_pos (Int32.le_refl _)]
    · split
      · rename_i z; rw [z]; exact h3 c (by omega)
      · exact h1 k c hc (by omega)
  | d + 1, n + 1, b, σ, w, hA, hW, h1, h2, h3, h, hn => by
    have h12 := hI.n12
    have hb : b < S 11 3 := by omega
    have hF := Fo_w hI fc
    obtain ⟨rk, hr⟩ := hF.2.2
    have hP := hF.2.1 b hb
    have ho : ∀ k b, b < S 11 3 → ow S k b ≤ 9999 := fun k b hb => ow_le hI hb
    have hw : ∀ k b, b < S 11 3 → w k b ≤ 9999 := by
      intro k c hc
      by_cases hk : k = 0
      · rw [hk]; exact Nat.le_trans (h2 c hc).2 (SL_le ho)
      · rw [h1 k c hc (by omega)]; exact ho k c hc
    obtain ⟨σ1, v, e1, e2, e3, e4, -, e5, e6⟩ := raiseL23 hI hf hb hr (fun x2 σ => f_X8_raiseStruck_L2 (nI fc - 1) n x2 σ) 12 zfu 0 (Pw S fc b) σ w hA hW hw hP (fun z => by have := (hr (Pw S fc b - 1) (by omega)).1; omega) (by omega) (zfu_gt (by omega))
    have hv : v = SLv (Pw S fc) (ow S) (S 11 3) b := by
      apply Nat.le_antisymm
      · refine e6 _ (h2 b hb).2 (fun u hu => ?_)
        have hd := dn_of hF hb hu
        exact Nat.le_trans (h2 u (dn_lt hF hb hd)).2 (SL_dn hF hb hd)
      · refine mxF_le (fun u hu hd => ?_)
        by_cases e : u = b
        · rw [e]; exact Nat.le_trans (h2 b hb).1 e4
        · have hd2 : frmP (Pw S fc) u 12 (Pw S fc b) = true := by
            unfold dn at hd
            simp only [Bool.or_eq_true, decide_eq_true_eq] at hd
            rcases hd with hd | hd
            · exact absurd hd.symm e
            · exact hd
          exact Nat.le_trans (h2 u hu).1 (e5 u hd2 e)
    obtain ⟨σ2, f1, f2, f3⟩ := raiseS hI hf d n (b + 1) σ1 (aup w 0 b v) (RA_29 hA (fun k _ h2 _ => e3 k h2)) e2 (fun k c hc hk => by rw [aup_c (by omega)]; exact h1 k c hc hk)
      (fun c hc => by
        by_cases e : c = b
        · rw [e, aup_at, hv]; exact ⟨SL_own hb, Nat.le_refl _⟩
        · rw [aup_j e]; exact h2 c hc)
      (fun c hc => by
        by_cases e : c = b
        · rw [e, aup_at, hv]
        · rw [aup_j e]; exact h3 c (by omega)) (by omega) (by omega)
    refine ⟨σ2, ?_, fun k hk => by rw [f2 k hk, e3 k hk], f3⟩
    rw [f_X8_raiseStruck_L2, hA.many, if_neg (by rw [qle_n (by omega) (by omega)]; omega), aboveA hA hI hb hf, zbd_s]
    exact e1.trans f1
/-- LAID by itself, then the layers -/
theorem raiseJ (hI : Inv S) {b c : Nat} (hb : b < S 11 3) (hc : c < S 11 3) (k58 : Int32 → zS → Option (Int32 × zS)) {σ : zS} {w : aS} (hA : RA σ S) (hW : WB σ w (S 11 3)) (hw : ∀ k b, b < S 11 3 → w k b ≤ 9999) :
    f_X8_raiseLaid_J95 k58 (nI b) (nI c) (if S 13 c = S 13 b then 1 else 0) σ = k58 (nI (c + 1)) (if elS S c b = true then zup σ 30 (12 * 4 + b) (nI (max (w 4 b) (w 4 c))) else σ) := by
  have h12 := hI.n12
  have l1 := (hI.bl hb).2.2.2.2.2.2.1
  have l2 := (hI.bl hc).2.2.2.2.2.2.1
  have w1 := hw 4 b hb
  have w2 := hw 4 c hc
  unfold f_X8_raiseLaid_J95 elS
  rw [ifz, nI_1]
  by_cases e : S 13 c = S 13 b
  · rw [if_pos e, zrd_n (by omega) (by omega), hA.row 22 17 12 (by decide) (by omega), zrd_n (by omega) (by omega), hA.row 22 17 12 (by decide) (by omega)]
    by_cases g : S 17 c ≤ S 17 b
    · rw [if_pos ((qle_n (by omega) (by omega)).mpr g), if_neg (by simp; omega)]
    · rw [if_neg (fun z => g ((qle_n (by omega) (by omega)).mp z)), if_pos (by simp; omega), boundA (x := 4) (k := 4) rfl (by omega) (by omega), zbd_s, hW 4 c (by omega) hc, raiseA (x := 4) (k := 4) hW rfl (by omega) hb h12 (by omega) (by omega), zbd_s]
  · rw [if_neg e, if_neg (by simp [e])]
theorem raiseL58 (hI : Inv S) {b : Nat} (hb : b < S 11 3) (k45 : Int32 → zS → Option (Int32 × zS)) : ∀ (d n c : Nat) (σ : zS) (w : aS), RA σ S → WB σ w (S 11 3) → (∀ k b, b < S 11 3 → w k b ≤ 9999) → c + d = S 11 3 → d < n →
    ∃ (σ1 : zS) (v : Nat), f_X8_raiseLaid_L58 k45 (nI b) n (nI c) σ = k45 (nI (b + 1)) σ1 ∧ WB σ1 (aup w 4 b v) (S 11 3) ∧ (∀ k, k ≠ 30 → σ1 k = σ k) ∧ w 4 b ≤ v ∧ v ≤ 9999 ∧ (∀ u, c ≤ u → u < S 11 3 → elS S u b = true → u ≠ b → w 4 u ≤ v) ∧ (∀ X, w 4 b ≤ X → (∀ u, u < S 11 3 → elS S u b = true → w 4 u ≤ X) → v ≤ X)
  | 0, n + 1, c, σ, w, hA, hW, hw, h, _ => by
    have hc : c = S 11 3 := by omega
    refine ⟨σ, w 4 b, ?_, ?_, fun _ _ => rfl, Nat.le_refl _, hw 4 b hb, fun u h1 h2 => by omega, fun X hX _ => hX⟩
    · rw [f_X8_raiseLaid_L58, hA.many, hc, if_pos (Int32.le_refl _), nI_1]
    · refine WB_cong hW (fun k1 b1 _ _ => ?_)
      unfold aup
      split
      · rename_i z; rw [z.1, z.2]
      · rfl
  | d + 1, n + 1, c, σ, w, hA, hW, hw, h, hn => by
    have h12 := hI.n12
    have hc : c < S 11 3 := by omega
    have p1 := (hI.bl hb).1
    have p2 := (hI.bl hc).1
    have w1 := hw 4 b hb
    have w2 := hw 4 c hc
    have ek : f_X8_raiseLaid_L58 k45 (nI b) (n + 1) (nI c) σ = f_X8_raiseLaid_L58 k45 (nI b) n (nI (c + 1)) (if elS S c b = true then zup σ 30 (12 * 4 + b) (nI (max (w 4 b) (w 4 c))) else σ) := by
      rw [f_X8_raiseLaid_L58, hA.many, if_neg (by rw [qle_n (by omega) (by omega)]; omega), zrd_n (by omega) (by omega), hA.row 18 13 12 (by decide) (by omega), zrd_n (by omega) (by omega), hA.row 18 13 12 (by decide) (by omega), ← raiseJ hI hb hc (fun x2 σ => f_X8_raiseLaid_L58 k45 (nI b) n x2 σ) hA hW hw]
      by_cases e : S 13 c = S 13 b
      · rw [if_pos (by rw [e]), if_pos e]
      · rw [if_neg (by rw [qeq_n (by omega) (by omega)]; exact e), if_neg e]
    by_cases g : elS S c b = true
    · rw [if_pos g] at ek
      obtain ⟨σ1, v, e1, e2, e3, e4, e4b, e5, e6⟩ := raiseL58 hI hb k45 d n (c + 1) (zup σ 30 (12 * 4 + b) (nI (max (w 4 b) (w 4 c)))) (aup w 4 b (max (w 4 b) (w 4 c))) (RA_29 hA (fun k _ h2 _ => zup_ne h2)) (WB_up hW (by omega) h12) (fun k b1 hb1 => by unfold aup; split; omega; exact hw k b1 hb1) (by omega) (by omega)
      rw [aup_at] at e4 e6
      refine ⟨σ1, v, ek.trans e1, ?_, fun k hk => by rw [e3 k hk, zup_ne hk], by omega, e4b, fun u h1 h2 h3 h4 => ?_, fun X hX hu => ?_⟩
      · refine WB_cong e2 (fun k1 b1 _ _ => ?_)
        unfold aup
        split <;> rfl
      · by_cases e7 : u = c
        · rw [e7]; omega
        · have := e5 u (by omega) h2 h3 h4
          rw [aup_j h4] at this
          exact this
      · have := hu c hc g
        refine e6 X (by omega) (fun u h2 h3 => ?_)
        unfold aup
        split
        · omega
        · exact hu u h2 h3
    · rw [if_neg g] at ek
      obtain ⟨σ1, v, e1, e2, e3, e4, e4b, e5, e6⟩ := raiseL58 hI hb k45 d n (c + 1) σ w hA hW hw (by omega) (by omega)
      refine ⟨σ1, v, ek.trans e1, e2, e3, e4, e4b, fun u h1 h2 h3 h4 => ?_, e6⟩
      by_cases e7 : u = c
      · rw [e7] at h3; exact absurd h3 g
      · exact e5 u (by omega) h2 h3 h4
theorem elS_trans {c d b : Nat} (h1 : elS S d c = true) (h2 : elS S c b = true) : elS S d b = true := by
  unfold elS at *
  simp only [Bool.and_eq_true, decide_eq_true_eq] at *
  omega
theorem LL_el {P : Nat → Nat} {o : aS} {n c b : Nat} (h : elS S c b = true) : LLv P o (elS S) n c ≤ LLv P o (elS S) n b := by
  refine mxF_le (fun d hd hp => ?_)
  refine le_mxF (p := fun c => decide (c = b) || elS S c b) hd ?_
  simp only [Bool.or_eq_true, decide_eq_true_eq] at hp ⊢
  rcases hp with rfl | hp
  · exact Or.inr h
  · exact Or.inr (elS_trans hp h)
theorem LL_own {P : Nat → Nat} {o : aS} {n b : Nat} (hb : b < n) : LPv P o n b ≤ LLv P o (elS S) n b := le_mxF (p := fun c => decide (c = b) || elS S c b) hb (by simp)
theorem raiseL45 (hI : Inv S) (P : Nat → Nat) : ∀ (d n b : Nat) (σ : zS) (w : aS), RA σ S → WB σ w (S 11 3) → (∀ k b, b < S 11 3 → w k b ≤ 9999) → (∀ b, b < S 11 3 → LPv P (ow S) (S 11 3) b ≤ w 4 b ∧ w 4 b ≤ LLv P (ow S) (elS S) (S 11 3) b) → (∀ c, c < b → w 4 c = LLv P (ow S) (elS S) (S 11 3) c) → b + d = S 11 3 → d < n →
    ∃ σ1, f_X8_raiseLaid_L45 n (nI b) σ = some (0, σ1) ∧ (∀ k, k ≠ 30 → σ1 k = σ k) ∧ WB σ1 (fun k b => if k = 4 then LLv P (ow S) (elS S) (S 11 3) b else w k b) (S 11 3)
  | 0, n + 1, b, σ, w, hA, hW, hw, h2, h3, h, _ => by
    have hb : b = S 11 3 := by omega
    refine ⟨σ, ?_, fun _ _ => rfl, WB_cong hW (fun k c hk hc => ?_)⟩
    · rw [f_X8_raiseLaid_L45, hA.many, hb, if_pos (Int32.le_refl _)]
    · split
      · rename_i z; rw [z]; exact h3 c (by omega)
      · rfl
  | d + 1, n + 1, b, σ, w, hA, hW, hw, h2, h3, h, hn => by
    have h12 := hI.n12
    have hb : b < S 11 3 := by omega
    obtain ⟨σ1, v, e1, e2, e3, e4, e4b, e5, e6⟩ := raiseL58 hI hb (fun x1 σ => f_X8_raiseLaid_L45 n x1 σ) (S 11 3) zfu 0 σ w hA hW hw (by omega) (zfu_gt (by omega))
    have hv : v = LLv P (ow S) (elS S) (S 11 3) b := by
      apply Nat.le_antisymm
      · exact e6 _ (h2 b hb).2 (fun u hu he => Nat.le_trans (h2 u hu).2 (LL_el he))
      · refine mxF_le (fun u hu hp => ?_)
        by_cases e : u = b
        · rw [e]; exact Nat.le_trans (h2 b hb).1 e4
        · have hel : elS S u b = true := by
            simp only [Bool.or_eq_true, decide_eq_true_eq] at hp
            rcases hp with hp | hp
            · exact absurd hp e
            · exact hp
          exact Nat.le_trans (h2 u hu).1 (e5 u (Nat.zero_le _) hu hel e)
    obtain ⟨σ2, f1, f2, f3⟩ := raiseL45 hI P d n (b + 1) σ1 (aup w 4 b v) (RA_29 hA (fun k _ h2 _ => e3 k h2)) e2 (fun k b1 hb1 => by unfold aup; split; omega; exact hw k b1 hb1)
      (fun c hc => by
        by_cases e : c = b
        · rw [e, aup_at, hv]; exact ⟨LL_own hb, Nat.le_refl _⟩
        · rw [aup_j e]; exact h2 c hc)
      (fun c hc => by
        by_cases e : c = b
        · rw [e, aup_at, hv]
        · rw [aup_j e]; exact h3 c (by omega)) (by omega) (by omega)
    refine ⟨σ2, ?_, fun k hk => by rw [f2 k hk, e3 k hk], WB_cong f3 (fun k c hk hc => ?_)⟩
    · rw [f_X8_raiseLaid_L45, hA.many, if_neg (by rw [qle_n (by omega) (by omega)]; omega)]
      exact e1.trans f1
    · split
      · rfl
      · rename_i z; exact aup_c z
theorem raiseLaidL2 (hI : Inv S) (P : Nat → Nat) : ∀ (d n b : Nat) (σ : zS) (w : aS), RA σ S → WB σ w (S 11 3) → (∀ c, c < S 11 3 → w 0 c = SLv P (ow S) (S 11 3) c ∧ w 1 c = ow S 1 c ∧ w 3 c = ow S 3 c ∧ w 5 c = ow S 5 c) → (∀ c, c < b → w 2 c = ALv P (ow S) (S 11 3) c ∧ w 4 c = LPv P (ow S) (S 11 3) c) → (∀ c, b ≤ c → c < S 11 3 → w 2 c = ow S 2 c ∧ w 4 c = ow S 4 c) → b + d = S 11 3 → d < n →
    ∃ σ1, f_X8_raiseLaid_L2 n (nI b) σ = some (0, σ1) ∧ (∀ k, k ≠ 30 → σ1 k = σ k) ∧ WB σ1 (fun k b => match k with | 0 => SLv P (ow S) (S 11 3) b | 2 => ALv P (ow S) (S 11 3) b | 4 => LLv P (ow S) (elS S) (S 11 3) b | k => ow S k b) (S 11 3)
  | 0, n + 1, b, σ, w, hA, hW, h1, h2, h3, h, _ => by
    have h12 := hI.n12
    have hb : b = S 11 3 := by omega
    have ho : ∀ k b, b < S 11 3 → ow S k b ≤ 9999 := fun k b hb => ow_le hI hb
    let w2 : aS := fun k c => match k with | 0 => SLv P (ow S) (S 11 3) c | 2 => ALv P (ow S) (S 11 3) c | 4 => LPv P (ow S) (S 11 3) c | k => ow S k c
    have hW2 : WB σ w2 (S 11 3) := WB_cong hW (fun k c hk hc => by
      match k, hk with
      | 0, _ => exact (h1 c hc).1
      | 1, _ => exact (h1 c hc).2.1
      | 2, _ => exact (h2 c (by omega)).1
      | 3, _ => exact (h1 c hc).2.2.1
      | 4, _ => exact (h2 c (by omega)).2
      | 5, _ => exact (h1 c hc).2.2.2
      | k + 6, h => omega)
    have hw2 : ∀ k b, b < S 11 3 → w2 k b ≤ 9999 := by
      intro k c hc
      show (match k with | 0 => SLv P (ow S) (S 11 3) c | 2 => ALv P (ow S) (S 11 3) c | 4 => LPv P (ow S) (S 11 3) c | k => ow S k c) ≤ 9999
      split
      · exact SL_le ho
      · exact AL_le hc ho
      · exact LP_le hc ho
      · exact ho _ c hc
    obtain ⟨σ1, e1, e2, e3⟩ := raiseL45 hI P (S 11 3) zfu 0 σ w2 hA hW2 hw2 (fun c hc => ⟨Nat.le_refl _, LL_own hc⟩) (fun c hc => absurd hc (Nat.not_lt_zero c)) (by omega) (zfu_gt (by omega))
    refine ⟨σ1, ?_, e2, WB_cong e3 (fun k c hk hc => ?_)⟩
    · rw [f_X8_raiseLaid_L2, hA.many, hb, if_pos (Int32.le_refl _)]
      exact e1
    · match k, hk with
      | 0, _ | 1, _ | 2, _ | 3, _ | 4, _ | 5, _ => rfl
      | k + 6, h => omega
  | d + 1, n + 1, b, σ, w, hA, hW, h1, h2, h3, h, hn => by
    have h12 := hI.n12
    have hb : b < S 11 3 := by omega
    have ho : ∀ k b, b < S 11 3 → ow S k b ≤ 9999 := fun k b hb => ow_le hI hb
    obtain ⟨a0, a1, a3, a5⟩ := h1 b hb
    obtain ⟨a2, a4⟩ := h3 b (Nat.le_refl _) hb
    have l0 := SL_le (P := P) (b := b) ho
    have l2 := ho 2 b hb
    have l4 := ho 4 b hb
    have ev2 : max (w 2 b) (w 0 b) = ALv P (ow S) (S 11 3) b := by rw [a2, a0]; rfl
    have lal := AL_le (P := P) hb ho
    have hW1 : WB (zup σ 30 (12 * 2 + b) (nI (ALv P (ow S) (S 11 3) b))) (aup w 2 b (ALv P (ow S) (S 11 3) b)) (S 11 3) := WB_up hW (by omega) h12
    have ev4 : max (w 4 b) (ALv P (ow S) (S 11 3) b) = LPv P (ow S) (S 11 3) b := by rw [a4]; rfl
    have hA1 : RA (zup σ 30 (12 * 2 + b) (nI (ALv P (ow S) (S 11 3) b))) S := RA_29 hA (fun k _ h2 _ => zup_ne h2)
    obtain ⟨σ2, f1, f2, f3⟩ := raiseLaidL2 hI P d n (b + 1) (zup (zup σ 30 (12 * 2 + b) (nI (ALv P (ow S) (S 11 3) b))) 30 (12 * 4 + b) (nI (LPv P (ow S) (S 11 3) b))) (aup (aup w 2 b (ALv P (ow S) (S 11 3) b)) 4 b (LPv P (ow S) (S 11 3) b)) (RA_29 hA1 (fun k _ h2 _ => zup_ne h2)) (WB_up hW1 (by omega) h12)
      (fun c hc => by rw [aup_c (by decide), aup_c (by decide), aup_c (by decide), aup_c (by decide), aup_c (by decide), aup_c (by decide), aup_c (by decide), aup_c (by decide)]; exact h1 c hc)
      (fun c hc => by
        rw [aup_c (c := 4) (a := 2) (by decide)]
        by_cases e : c = b
        · rw [e, aup_at, aup_at]; exact ⟨rfl, rfl⟩
        · rw [aup_j e, aup_j e, aup_c (c := 2) (a := 4) (by decide)]; exact h2 c (by omega))
      (fun c hc hc2 => by
        have e : c ≠ b := by omega
        rw [aup_c (c := 4) (a := 2) (by decide), aup_j e, aup_j e, aup_c (c := 2) (a := 4) (by decide)]; exact h3 c (by omega) hc2) (by omega) (by omega)
    refine ⟨σ2, ?_, fun k hk => by rw [f2 k hk, zup_ne hk, zup_ne hk], f3⟩
    rw [f_X8_raiseLaid_L2, hA.many, if_neg (by rw [qle_n (by omega) (by omega)]; omega), boundA (x := 0) (k := 0) rfl (by omega) (by omega), zbd_s, hW 0 b (by omega) hb, raiseA (x := 2) (k := 2) hW rfl (by omega) hb h12 (by omega) (by omega), zbd_s, ev2, boundA (x := 2) (k := 2) rfl (by omega) (by omega), zbd_s, hW1 2 b (by omega) hb, aup_at, raiseA (x := 4) (k := 4) hW1 rfl (by omega) hb h12 (by rw [aup_c (by decide)]; omega) (by omega), zbd_s, aup_c (c := 2) (a := 4) (by decide), ev4, nI_1]
    exact f1
end PASS
