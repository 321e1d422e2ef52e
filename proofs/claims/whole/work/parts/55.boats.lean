/-! PURE: boats, sea -/
theorem exN_up {p : Nat → Bool} {k n : Nat} (h : exN p k = true) (hk : k ≤ n) : exN p n = true := by
  rw [exN_iff] at h ⊢
  obtain ⟨a, h1, h2⟩ := h
  exact ⟨a, by omega, h2⟩
section BOATS
variable {S : aS}
def lfN (S : aS) (b f : Nat) : Bool := cb S b f && decide (fyN S b f false < INF)
def wfN (S : aS) (b f : Nat) : Bool := cb S b f && decide (fyN S b f true < INF)
def mhs (S : aS) (b : Nat) : Bool := exN (wfN S b) 9 && !exN (lfN S b) 9
theorem h00 : ((0 : Int32) = 0) ↔ false = false := ⟨fun _ => rfl, fun _ => rfl⟩
theorem h10 : ((1 : Int32) = 0) ↔ true = false := ⟨fun h => absurd h (by decide), fun h => by cases h⟩
theorem mhL15 {σ : zS} (hA : RA σ S) (hI : Inv S) (hW : WB σ (Fi S) (S 11 3)) {b : Nat} (hb : b < S 11 3) : ∀ (d n k : Nat), k + d = 9 → d < n → exN (lfN S b) k = false → f_X4_mustHaveSailed_L15 (nI b) (nI (bN (cb S b) 9)) n (if exN (wfN S b) k = true then 1 else 0) (nI k) σ = some (if mhs S b = true then 1 else 0, σ)
  | 0, n + 1, k, h, _, hl => by
    have hk : k = 9 := by omega
    subst hk
    rw [f_X4_mustHaveSailed_L15, if_pos (by decide), zrb_if]
    unfold mhs
    rw [hl]
    simp
  | d + 1, n + 1, k, h, hn, hl => by
    have hk : k < 9 := by omega
    have ih := mhL15 hA hI hW hb d n (k + 1) (by omega) (by omega)
    rw [exN, hl, Bool.false_or, exN] at ih
    rw [f_X4_mustHaveSailed_L15, if_neg (by rw [q9, qle_n (by omega) (by omega)]; omega), hasBitA _ (by omega) hk, zbd_s, ifz, nI_1]
    by_cases c : cb S b k = true
    · rw [if_pos c, fyA hA hI hW hb hk h00, zbd_s]
      by_cases l : fyN S b k false < INF
      · rw [if_neg (fun z => en_m.mp z l)]
        have : mhs S b = false := by
          unfold mhs
          rw [exN_up (p := lfN S b) (k := k + 1) (n := 9) (by rw [exN, hl, Bool.false_or]; unfold lfN; rw [c, decide_eq_true l]; rfl) (by omega)]
          simp
        rw [this]
        rfl
      · rw [if_pos (en_m.mpr l), ifz]
        have el : lfN S b k = false := by unfold lfN; rw [decide_eq_false l, Bool.and_false]
        have ih := ih el
        by_cases w : exN (wfN S b) k = true
        · rw [if_pos w]
          rw [w, Bool.true_or, if_pos rfl] at ih
          exact ih
        · rw [if_neg w, fyA hA hI hW hb hk h10, zbd_s]
          rw [Bool.eq_false_iff.mpr w, Bool.false_or] at ih
          by_cases v : fyN S b k true < INF
          · rw [if_neg (fun z => en_m.mp z v)]
            rw [show wfN S b k = true by unfold wfN; rw [c, decide_eq_true v]; rfl, if_pos rfl] at ih
            exact ih
          · rw [if_pos (en_m.mpr v)]
            rw [show wfN S b k = false by unfold wfN; rw [decide_eq_false v, Bool.and_false], if_neg (by decide)] at ih
            exact ih
    · rw [if_neg c]
      have c' := Bool.eq_false_iff.mpr c
      have ih := ih (by unfold lfN; rw [c', Bool.false_and])
      rw [show wfN S b k = false by unfold wfN; rw [c', Bool.false_and], Bool.or_false] at ih
      exact ih
theorem mhA {σ : zS} (hA : RA σ S) (hI : Inv S) (hW : WB σ (Fi S) (S 11 3)) (hO : OB S σ (S 11 3)) {b : Nat} (hb : b < S 11 3) : f_X4_mustHaveSailed (nI b) σ = some (if mhs S b = true then 1 else 0, σ) := by
  have h12 := hI.n12
  unfold f_X4_mustHaveSailed
  rw [zrd_n (by omega) (by omega), (hO b hb).2]
  exact mhL15 hA hI hW hb 9 zfu 0 (by omega) (zfu_gt (by omega)) rfl
theorem cbbL {σ : zS} (hA : RA σ S) (hI : Inv S) (hW : WB σ (Fi S) (S 11 3)) (hO : OB S σ (S 11 3)) : ∀ (d n k : Nat), k + d = S 11 3 → d < n → f_X4_comeByBoat_L16 n (nI (bN (mhs S) k)) (nI k) σ = some (nI (bN (mhs S) (S 11 3)), σ)
  | 0, n + 1, k, h, _ => by
    have hk : k = S 11 3 := by omega
    rw [f_X4_comeByBoat_L16, hA.many, hk, if_pos (Int32.le_refl _)]
  | d + 1, n + 1, k, h, hn => by
    have h12 := hI.n12
    have hk : k < S 11 3 := by omega
    have ih := cbbL hA hI hW hO d n (k + 1) (by omega) (by omega)
    rw [f_X4_comeByBoat_L16, hA.many, if_neg (by rw [qle_n (by omega) (by omega)]; omega), mhA hA hI hW hO hk, zbd_s, ifz, nI_1]
    by_cases c : mhs S k = true
    · rw [if_pos c, shl1N (by omega), bN_or c]; exact ih
    · rw [if_neg c]
      rw [bN_no c] at ih
      exact ih
def byN (S : aS) (b : Nat) : Bool := wayv (S 20) (ow S) (elS S) (S 11 3) && mhs S b
theorem boatsA {σ : zS} (hA : RA σ S) (hI : Inv S) : ∃ σ1, f_X4_comeByBoat σ = some (nI (bN (byN S) (S 11 3)), σ1) ∧ RA σ1 S ∧ WB σ1 (Fi S) (S 11 3) := by
  have h12 := hI.n12
  obtain ⟨σ1, a1, a2, a3, a4⟩ := settleF hI hA
  refine ⟨σ1, ?_, a2, a3⟩
  unfold f_X4_comeByBoat
  rw [a1, zbd_s, ifz]
  by_cases hw : wayv (S 20) (ow S) (elS S) (S 11 3) = true
  · rw [if_pos hw]
    have e : byN S = mhs S := funext fun b => by unfold byN; rw [hw, Bool.true_and]
    rw [e]
    exact cbbL a2 hI a3 a4 (S 11 3) zfu 0 (by omega) (zfu_gt (by omega))
  · rw [if_neg hw]
    have e : bN (byN S) (S 11 3) = 0 := bN_zero (fun k _ => by unfold byN; rw [Bool.eq_false_iff.mpr hw, Bool.false_and])
    rw [e]
    rfl
/-! the model -/
theorem bbL36 (hI : Inv S) {b : Nat} (hb : b < S 11 3) (k13 : Int32 → Int32 → zS → Option (Int32 × zS)) (x1 : Int32) : ∀ (d n k : Nat) (τ : zS), RB τ S → FB S τ → k + d = 9 → d < n →
    ∃ τ1, f_X10_byBoat_L36 k13 x1 (nI b) (nI (bN (cb S b) 9)) n (if exN (lfN S b) k = true then 1 else 0) (if exN (wfN S b) k = true then 1 else 0) (nI k) τ = k13 (if mhs S b = true then x1 ||| ((1 : Int32) <<< (nI b &&& 31)) else x1) (nI (b + 1)) τ1 ∧ RB τ1 S ∧ FB S τ1
  | 0, n + 1, k, τ, hB, hF, h, _ => by
    have hk : k = 9 := by omega
    subst hk
    refine ⟨τ, ?_, hB, hF⟩
    rw [f_X10_byBoat_L36, if_pos (by decide), ifz, ifz, or0, nI_1]
    unfold mhs
    by_cases w : exN (wfN S b) 9 = true
    · rw [if_pos w, w]
      by_cases l : exN (lfN S b) 9 = true
      · rw [if_pos l, l]; rfl
      · rw [if_neg l, Bool.eq_false_iff.mpr l]; rfl
    · rw [if_neg w, Bool.eq_false_iff.mpr w]; rfl
  | d + 1, n + 1, k, τ, hB, hF, h, hn => by
    have hk : k < 9 := by omega
    have ih := bbL36 hI hb k13 x1 d n (k + 1)
    rw [exN, exN] at ih
    rw [f_X10_byBoat_L36, if_neg (by rw [q9, qle_n (by omega) (by omega)]; omega), bN_test _ (by omega) hk, nI_1]
    by_cases c : cb S b k = true
    · rw [if_pos c, if_pos rfl, ifz]
      -- by water
      have hJ : ∀ (s0 : Int32) (τ : zS), RB τ S → FB S τ → s0 = (if (exN (lfN S b) k || lfN S b k) = true then 1 else 0) → ∃ τ1, f_X10_byBoat_J76 (fun x4 x5 x6 σ => f_X10_byBoat_L36 k13 x1 (nI b) (nI (bN (cb S b) 9)) n x4 x5 x6 σ) x1 (nI b) (nI (bN (cb S b) 9)) (if exN (wfN S b) k = true then 1 else 0) (nI k) s0 τ = k13 (if mhs S b = true then x1 ||| ((1 : Int32) <<< (nI b &&& 31)) else x1) (nI (b + 1)) τ1 ∧ RB τ1 S ∧ FB S τ1 := by
        intro s0 τ hB hF es
        unfold f_X10_byBoat_J76
        rw [ifz, nI_1, es]
        by_cases w : exN (wfN S b) k = true
        · rw [if_pos w]
          have ih := ih τ hB hF (by omega) (by omega)
          rw [w, Bool.true_or, if_pos (show true = true from rfl)] at ih
          exact ih
        · rw [if_neg w]
          obtain ⟨τ1, c1, c2, c3⟩ := comesB hI hb hk h10 0 hB hF
          rw [c1, zbd_s, if_pos rfl]
          have ih := ih τ1 c2 c3 (by omega) (by omega)
          rw [Bool.eq_false_iff.mpr w, Bool.false_or] at ih
          by_cases v : fyN S b k true < INF
          · rw [if_neg (fun z => en_m.mp z v)]
            rw [show wfN S b k = true by unfold wfN; rw [c, decide_eq_true v]; rfl, if_pos (show true = true from rfl)] at ih
            exact ih
          · rw [if_pos (en_m.mpr v)]
            rw [show wfN S b k = false by unfold wfN; rw [decide_eq_false v, Bool.and_false], if_neg (show ¬ false = true by decide)] at ih
            exact ih
      by_cases l : exN (lfN S b) k = true
      · rw [if_pos l]
        exact hJ 1 τ hB hF (by rw [l, Bool.true_or, if_pos rfl])
      · rw [if_neg l]
        obtain ⟨τ1, c1, c2, c3⟩ := comesB hI hb hk h00 0 hB hF
        rw [c1, zbd_s, if_pos rfl]
        by_cases v : fyN S b k false < INF
        · rw [if_neg (fun z => en_m.mp z v)]
          exact hJ 1 τ1 c2 c3 (by rw [show lfN S b k = true by unfold lfN; rw [c, decide_eq_true v]; rfl, Bool.or_true, if_pos rfl])
        · rw [if_pos (en_m.mpr v)]
          exact hJ 0 τ1 c2 c3 (by rw [show lfN S b k = false by unfold lfN; rw [decide_eq_false v, Bool.and_false], Bool.eq_false_iff.mpr l]; rfl)
    · rw [if_neg c, if_neg (by decide)]
      have c' := Bool.eq_false_iff.mpr c
      have ih := ih τ hB hF (by omega) (by omega)
      rw [show lfN S b k = false by unfold lfN; rw [c', Bool.false_and], show wfN S b k = false by unfold wfN; rw [c', Bool.false_and], Bool.or_false, Bool.or_false] at ih
      exact ih
theorem bbL13 (hI : Inv S) : ∀ (d n k : Nat) (τ : zS), RB τ S → FB S τ → k + d = S 11 3 → d < n → ∃ τ1, f_X10_byBoat_L13 n (nI (bN (mhs S) k)) (nI k) τ = some (nI (bN (mhs S) (S 11 3)), τ1) ∧ RB τ1 S ∧ FB S τ1
  | 0, n + 1, k, τ, hB, hF, h, _ => by
    have hk : k = S 11 3 := by omega
    refine ⟨τ, ?_, hB, hF⟩
    rw [f_X10_byBoat_L13, hB.many, hk, if_pos (Int32.le_refl _)]
  | d + 1, n + 1, k, τ, hB, hF, h, hn => by
    have h12 := hI.n12
    have hk : k < S 11 3 := by omega
    obtain ⟨τ1, a1, a2, a3⟩ := bbL36 hI hk (fun x1 x2 σ => f_X10_byBoat_L13 n x1 x2 σ) (nI (bN (mhs S) k)) 9 zfu 0 τ hB hF (by omega) (zfu_gt (by omega))
    obtain ⟨τ2, c1, c2, c3⟩ := bbL13 hI d n (k + 1) τ1 a2 a3 (by omega) (by omega)
    refine ⟨τ2, ?_, c2, c3⟩
    rw [f_X10_byBoat_L13, hB.many, if_neg (by rw [qle_n (by omega) (by omega)]; omega), canB hB hI hk, zbd_s]
    refine Eq.trans a1 ?_
    by_cases c : mhs S k = true
    · rw [if_pos c, shl1N (by omega), bN_or c]; exact c1
    · rw [if_neg c]
      rw [bN_no c] at c1
      exact c1
theorem boatsB (hI : Inv S) {τ : zS} (hB : RB τ S) : ∃ τ1, f_X10_byBoat τ = some (nI (bN (byN S) (S 11 3)), τ1) ∧ RB τ1 S ∧ FB S τ1 := by
  have h12 := hI.n12
  obtain ⟨τ1, b1, b2, b3, b4⟩ := yearsB hI hB
  unfold f_X10_byBoat
  rw [b1, zbd_s, ifz]
  by_cases hw : wayv (S 20) (ow S) (elS S) (S 11 3) = true
  · have e : byN S = mhs S := funext fun b => by unfold byN; rw [hw, Bool.true_and]
    rw [if_pos hw, e]
    exact bbL13 hI (S 11 3) zfu 0 τ1 b2 b4 (by omega) (zfu_gt (by omega))
  · have e : bN (byN S) (S 11 3) = 0 := bN_zero (fun k _ => by unfold byN; rw [Bool.eq_false_iff.mpr hw, Bool.false_and])
    rw [if_neg hw, e]
    exact ⟨τ1, rfl, b2, b4⟩
theorem ag_boats {σ τ : zS} (hA : RA σ S) (hB : RB τ S) (hI : Inv S) : Ag (f_X9_boats σ) (f_X10_boats τ) S := by
  obtain ⟨σ1, a1, a2, a3⟩ := boatsA hA hI
  obtain ⟨τ1, b1, b2, b3⟩ := boatsB hI hB
  unfold f_X9_boats f_X10_boats
  rw [a1, b1, zbd_s, zbd_s]
  exact Ag.mk rfl rfl a2 b2 hI
def svN (S : aS) (b : Nat) : Nat := if byN S b = true then ow S 5 b else INF
theorem seaAL {σ : zS} (hA : RA σ S) (hI : Inv S) (hW : WB σ (Fi S) (S 11 3)) : ∀ (d n k : Nat), k + d = S 11 3 → d < n → f_X9_sea_L12 (nI (bN (byN S) (S 11 3))) n (en (mnI (svN S) k)) (nI k) σ = some (en (mnI (svN S) (S 11 3)), σ)
  | 0, n + 1, k, h, _ => by
    have hk : k = S 11 3 := by omega
    rw [f_X9_sea_L12, hA.many, hk, if_pos (Int32.le_refl _)]
  | d + 1, n + 1, k, h, hn => by
    have hv := INFv
    have h12 := hI.n12
    have hk : k < S 11 3 := by omega
    have h5 := ow_le hI hk (k := 5)
    have w5 : σ 30 (12 * 5 + k) = nI (ow S 5 k) := hW 5 k (by omega) hk
    have ih := seaAL hA hI hW d n (k + 1) (by omega) (by omega)
    rw [mnI] at ih
    unfold svN at ih
    rw [f_X9_sea_L12, hA.many, if_neg (by rw [qle_n (by omega) (by omega)]; omega), hasBitA _ h12 hk, zbd_s, ifz, nI_1]
    by_cases c : byN S k = true
    · rw [if_pos c, boundA (x := 5) (k := 5) rfl (by omega) (by omega), zbd_s, w5, lesE mnI_inf (by omega), zbd_s]
      rw [if_pos c] at ih
      exact ih
    · rw [if_neg c]
      rw [if_neg c, Nat.min_eq_left mnI_inf] at ih
      exact ih
theorem seaBL (hI : Inv S) {τ : zS} (hB : RB τ S) (hF : FB S τ) : ∀ (d n k : Nat), k + d = S 11 3 → d < n → f_X10_sea_L9 (nI (bN (byN S) (S 11 3))) n (en (mnI (svN S) k)) (nI k) τ = some (en (mnI (svN S) (S 11 3)), τ)
  | 0, n + 1, k, h, _ => by
    have hk : k = S 11 3 := by omega
    rw [f_X10_sea_L9, hB.many, hk, if_pos (Int32.le_refl _)]
  | d + 1, n + 1, k, h, hn => by
    have hv := INFv
    have h12 := hI.n12
    have hk : k < S 11 3 := by omega
    have h5 := ow_le hI hk (k := 5)
    have f12 := (hF k hk).2.2.2.1
    have hm : mnI (svN S) k ≤ INF := mnI_inf
    have ih := seaBL hI hB hF d n (k + 1) (by omega) (by omega)
    rw [mnI] at ih
    have es : svN S k = if byN S k = true then ow S 5 k else INF := rfl
    rw [f_X10_sea_L9, hB.many, if_neg (by rw [qle_n (by omega) (by omega)]; omega), bN_test _ h12 hk, f_X10_sea_J41, nI_1, zrd_n (by omega) (by omega), f12]
    by_cases c : byN S k = true
    · rw [if_pos c] at es
      rw [es] at ih
      rw [if_pos c, if_pos rfl]
      by_cases a : mnI (svN S) k < INF
      · rw [if_neg (fun z => en_m.mp z a), en_f a, zrd_n (by omega) (by omega), f12]
        by_cases g : mnI (svN S) k ≤ ow S 5 k
        · rw [if_pos ((qle_n (by omega) (by omega)).mpr g)]
          rw [Nat.min_eq_left g, en_f a] at ih
          exact ih
        · rw [if_neg (fun z => g ((qle_n (by omega) (by omega)).mp z))]
          rw [Nat.min_eq_right (by omega), en_f (by omega)] at ih
          exact ih
      · rw [if_pos (en_m.mpr a)]
        rw [Nat.min_eq_right (by omega), en_f (by omega)] at ih
        exact ih
    · rw [if_neg c] at es
      rw [es, Nat.min_eq_left hm] at ih
      rw [if_neg c, if_neg (by decide)]
      exact ih
theorem ag_sea {σ τ : zS} (hA : RA σ S) (hB : RB τ S) (hI : Inv S) : Ag (f_X9_sea σ) (f_X10_sea τ) S := by
  have h12 := hI.n12
  obtain ⟨σ1, a1, a2, a3⟩ := boatsA hA hI
  obtain ⟨τ1, b1, b2, b3⟩ := boatsB hI hB
  unfold f_X9_sea f_X10_sea
  rw [a1, b1, zbd_s, zbd_s]
  exact Ag.mk (seaAL a2 hI a3 (S 11 3) zfu 0 (by omega) (zfu_gt (by omega))) (seaBL hI b2 b3 (S 11 3) zfu 0 (by omega) (zfu_gt (by omega))) a2 b2 hI
end BOATS
