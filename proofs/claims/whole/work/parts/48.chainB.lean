/-! PURE: chain, the model -/
section CHB
variable {S : aS}
def MBm (S : aS) (τ : zS) (m : Nat) : Prop := ∀ c, c < m → τ 13 c = nI (bN (mfr S c) (S 11 3))
def LBm (τ : zS) (L : Nat → Nat) (m : Nat) : Prop := ∀ c, c < m → τ 14 c = nI (L c)
theorem RB_13 {τ τ1 : zS} (h : RB τ S) (hk : ∀ k, k < 13 ∨ 16 < k → τ1 k = τ k) : RB τ1 S := by
  refine RB_keep h (fun k hm => hk k ?_) ?_
  · have hall : keepB.all (fun k => decide (k < 13 ∨ 16 < k)) = true := by decide
    have := List.all_eq_true.mp hall k hm
    simpa using this
  · intro j _
    rw [hk 0 (by omega)]
theorem LBm_up {τ : zS} {L : Nat → Nat} {m b v : Nat} (h : LBm τ L m) : LBm (zup τ 14 b (nI v)) (pnu L b v) m := by
  intro c hc
  unfold pnu
  by_cases e : c = b
  · rw [if_pos e, e, zup_at]
  · rw [if_neg e, zup_no e]; exact h c hc
theorem pnu_pnu {L : Nat → Nat} {b v w : Nat} : pnu (pnu L b v) b w = pnu L b w := by
  funext c
  unfold pnu
  by_cases e : c = b
  · rw [if_pos e, if_pos e]
  · rw [if_neg e, if_neg e, if_neg e]
theorem bitB {τ : zS} {c b : Nat} (h12 : S 11 3 ≤ 12) (hb : b < S 11 3) : ((nI (bN (mfr S c) (S 11 3)) >>> (nI b &&& 31)) &&& 1 = 1) ↔ mfr S c b = true := by
  rw [bN_test (mfr S c) h12 hb]
  by_cases g : mfr S c b = true
  · rw [if_pos g]; simp [g]
  · rw [if_neg g]; simp [g]
theorem L66B (hI : Inv S) (k55 : Int32 → zS → Option (Int32 × zS)) (x1 x2 : Int32) {L : Nat → Nat} (hl : ∀ c, c < S 11 3 → L c ≤ 12) {b : Nat} (hb : b < S 11 3) (hs : 1 ≤ L b ∧ L b ≤ stp (mfr S) (S 11 3) L b) : ∀ (d n k : Nat) (τ : zS), RB τ S → MBm S τ (S 11 3) → LBm τ (pnu L b (max (L b) (1 + mxF (fun c => mfr S c b) L k))) (S 11 3) → k + d = S 11 3 → d < n →
    ∃ τ1, f_X10_chain_L66 k55 x1 x2 (nI b) n (nI k) τ = k55 (nI (b + 1)) τ1 ∧ (∀ i, i ≠ 14 → τ1 i = τ i) ∧ LBm τ1 (pnu L b (stp (mfr S) (S 11 3) L b)) (S 11 3)
  | 0, n + 1, k, τ, hB, hM, hL, hd, _ => by
    have h12 := hI.n12
    refine ⟨τ, ?_, fun _ _ => rfl, ?_⟩
    · rw [f_X10_chain_L66, hB.many, if_pos ((qle_n (by omega) (by omega)).mpr (by omega)), nI_1]
    · rw [show k = S 11 3 by omega] at hL
      have : max (L b) (1 + mxF (fun c => mfr S c b) L (S 11 3)) = stp (mfr S) (S 11 3) L b := by unfold stp at hs ⊢; omega
      rw [this] at hL
      exact hL
  | d + 1, n + 1, k, τ, hB, hM, hL, hd, hn => by
    have h12 := hI.n12
    have hk : k < S 11 3 := by omega
    have hx : mxF (fun c => mfr S c b) L k ≤ 12 := mxF_le (fun u hu _ => hl u (by omega))
    have hlk := hl k hk
    have hlb := hl b hb
    have vb : τ 14 b = nI (max (L b) (1 + mxF (fun c => mfr S c b) L k)) := by rw [hL b hb]; unfold pnu; rw [if_pos rfl]
    have ku : ∀ v i, i ≠ 14 → zup τ 14 b v i = τ i := fun v i hi => zup_ne hi
    rw [f_X10_chain_L66, hB.many, if_neg (fun z => by have := (qle_n (by omega) (by omega)).mp z; omega), zrd_n (by omega) (by omega), hM k hk]
    by_cases g : mfr S k b = true
    · have hne : k ≠ b := fun z => by have := mfr_sz g; rw [z] at this; omega
      have vk : τ 14 k = nI (L k) := by rw [hL k hk]; unfold pnu; rw [if_neg hne]
      rw [if_pos ((bitB (τ := τ) h12 hb).mpr g), zrd_n (by omega) (by omega), zrd_n (by omega) (by omega), vb, vk, nI_1, greaterB (by omega) (by omega), zbd_s, zwr_n (by omega) (by omega), nI_1]
      obtain ⟨τ1, a1, a2, a3⟩ := L66B hI k55 x1 x2 hl hb hs d n (k + 1) (zup τ 14 b (nI (max (max (L b) (1 + mxF (fun c => mfr S c b) L k)) (L k + 1)))) (RB_13 hB (fun i hi => ku _ i (by omega))) (fun c hc => by rw [ku _ 13 (by decide)]; exact hM c hc) (by
        have := LBm_up (b := b) (v := max (max (L b) (1 + mxF (fun c => mfr S c b) L k)) (L k + 1)) hL
        rw [pnu_pnu] at this
        rw [mxF, if_pos g, show max (L b) (1 + max (mxF (fun c => mfr S c b) L k) (L k)) = max (max (L b) (1 + mxF (fun c => mfr S c b) L k)) (L k + 1) by omega]
        exact this) (by omega) (by omega)
      exact ⟨τ1, a1, fun i hi => by rw [a2 i hi, ku _ i hi], a3⟩
    · rw [if_neg (fun z => g ((bitB (τ := τ) h12 hb).mp z)), zrd_n (by omega) (by omega), vb, zwr_n (by omega) (by omega), nI_1]
      obtain ⟨τ1, a1, a2, a3⟩ := L66B hI k55 x1 x2 hl hb hs d n (k + 1) (zup τ 14 b (nI (max (L b) (1 + mxF (fun c => mfr S c b) L k)))) (RB_13 hB (fun i hi => ku _ i (by omega))) (fun c hc => by rw [ku _ 13 (by decide)]; exact hM c hc) (by
        have := LBm_up (b := b) (v := max (L b) (1 + mxF (fun c => mfr S c b) L k)) hL
        rw [pnu_pnu] at this
        rw [mxF, if_neg g]
        exact this) (by omega) (by omega)
      exact ⟨τ1, a1, fun i hi => by rw [a2 i hi, ku _ i hi], a3⟩
theorem GL_12 (hI : Inv S) {L : Nat → Nat} (hG : GL (mfr S) (S 11 3) L) : ∀ c, c < S 11 3 → L c ≤ 12 := fun c hc => by
  have : L c ≤ Ln S c := (hG c hc).2.1
  have := Ln_12 hI hc
  have := hI.n12
  omega
theorem L55B (hI : Inv S) (k45 : Int32 → zS → Option (Int32 × zS)) (x1 : Int32) (t : Nat) : ∀ (d n m : Nat) (τ : zS) (L : Nat → Nat), RB τ S → MBm S τ (S 11 3) → LBm τ L (S 11 3) → GL (mfr S) (S 11 3) L → Xa (mfr S) (S 11 3) (rkS S) t L → (∀ c, c < m → rkS S c < t + 1 → L c = Ln S c) → m + d = S 11 3 → d < n →
    ∃ (τ1 : zS) (L1 : Nat → Nat), f_X10_chain_L55 k45 x1 (nI t) n (nI m) τ = k45 (nI (t + 1)) τ1 ∧ (∀ i, i ≠ 14 → τ1 i = τ i) ∧ LBm τ1 L1 (S 11 3) ∧ GL (mfr S) (S 11 3) L1 ∧ Xa (mfr S) (S 11 3) (rkS S) (t + 1) L1
  | 0, n + 1, m, τ, L, hB, hM, hL, hG, hX, hm, hd, _ => by
    have h12 := hI.n12
    refine ⟨τ, L, ?_, fun _ _ => rfl, hL, hG, fun c hc ht => hm c (by omega) ht⟩
    rw [f_X10_chain_L55, hB.many, if_pos ((qle_n (by omega) (by omega)).mpr (by omega)), nI_1]
  | d + 1, n + 1, m, τ, L, hB, hM, hL, hG, hX, hm, hd, hn => by
    have h12 := hI.n12
    have hmn : m < S 11 3 := by omega
    have hr := rkS_rk (S := S)
    have hr12 := rkS_12 hI
    have hgm := hG m hmn
    obtain ⟨τ1, a1, a2, a3⟩ := L66B hI (fun x3 σ => f_X10_chain_L55 k45 x1 (nI t) n x3 σ) x1 (nI t) (GL_12 hI hG) hmn ⟨hgm.1, hgm.2.2⟩ (S 11 3) zfu 0 τ hB hM (by
      have e : pnu L m (max (L m) (1 + mxF (fun c => mfr S c m) L 0)) = L := by
        funext c
        unfold pnu
        by_cases e : c = m
        · rw [if_pos e, e, mxF]; have := hgm.1; omega
        · rw [if_neg e]
      rw [e]; exact hL) (by omega) (zfu_gt (by omega))
    obtain ⟨τ2, L2, b1, b2, b3, b4, b5⟩ := L55B hI k45 x1 t d n (m + 1) τ1 _ (RB_13 hB (fun i hi => a2 i (by omega))) (fun c hc => by rw [a2 13 (by decide)]; exact hM c hc) a3 (GL_up hr hr12 hG hmn).1 (Xa_up hr hr12 hG hmn hX) (by
      intro c hc ht
      by_cases e : c = m
      · rw [e]; unfold pnu; rw [if_pos rfl]; exact stp_xa hr hr12 hX hmn (by rw [← e]; exact ht)
      · unfold pnu; rw [if_neg e]; exact hm c (by omega) ht) (by omega) (by omega)
    refine ⟨τ2, L2, ?_, fun i hi => by rw [b2 i hi, a2 i hi], b3, b4, b5⟩
    rw [f_X10_chain_L55, hB.many, if_neg (fun z => by have := (qle_n (by omega) (by omega)).mp z; omega)]
    exact Eq.trans a1 b1
theorem L45B (hI : Inv S) (x1 : Int32) : ∀ (d n t : Nat) (τ : zS) (L : Nat → Nat), RB τ S → MBm S τ (S 11 3) → LBm τ L (S 11 3) → GL (mfr S) (S 11 3) L → Xa (mfr S) (S 11 3) (rkS S) t L → t + d = S 11 3 → d < n →
    ∃ τ1, f_X10_chain_L45 x1 n (nI t) τ = f_X10_chain_L145 x1 zfu (-1) 0 τ1 ∧ RB τ1 S ∧ MBm S τ1 (S 11 3) ∧ LBm τ1 (Ln S) (S 11 3)
  | 0, n + 1, t, τ, L, hB, hM, hL, hG, hX, hd, _ => by
    have h12 := hI.n12
    refine ⟨τ, ?_, hB, hM, fun c hc => by rw [hL c hc, hX c hc (by have := rkS_lt hc; omega)]⟩
    rw [f_X10_chain_L45, hB.many, if_pos ((qle_n (by omega) (by omega)).mpr (by omega))]
  | d + 1, n + 1, t, τ, L, hB, hM, hL, hG, hX, hd, hn => by
    have h12 := hI.n12
    obtain ⟨τ1, L1, a1, a2, a3, a4, a5⟩ := L55B hI (fun x2 σ => f_X10_chain_L45 x1 n x2 σ) x1 t (S 11 3) zfu 0 τ L hB hM hL hG hX (fun c hc => absurd hc (Nat.not_lt_zero c)) (by omega) (zfu_gt (by omega))
    obtain ⟨τ2, b1, b2⟩ := L45B hI x1 d n (t + 1) τ1 L1 (RB_13 hB (fun i hi => a2 i (by omega))) (fun c hc => by rw [a2 13 (by decide)]; exact hM c hc) a3 a4 a5 (by omega) (by omega)
    refine ⟨τ2, ?_, b2⟩
    rw [f_X10_chain_L45, hB.many, if_neg (fun z => by have := (qle_n (by omega) (by omega)).mp z; omega)]
    exact Eq.trans a1 b1
/-- the first of the longest -/
def Bst (S : aS) (k c : Nat) : Prop := (k = 0 ∧ c = 0) ∨ (0 < c ∧ c ≤ k ∧ (∀ u, u < k → Ln S u ≤ Ln S (c - 1)) ∧ ∀ u, u < c - 1 → Ln S u < Ln S (c - 1))
theorem L145B (hI : Inv S) {τ : zS} (hB : RB τ S) (hL : LBm τ (Ln S) (S 11 3)) (x1 : Int32) : ∀ (d n k c : Nat), Bst S k c → k + d = S 11 3 → d < n → ∃ c1, Bst S (S 11 3) c1 ∧ f_X10_chain_L145 x1 n (nI c - 1) (nI k) τ = if c1 = 0 then (if x1 < 0 then some (0, τ) else some (-1, τ)) else f_X10_chain_L213 x1 (nI (Ln S (c1 - 1))) (nI (c1 - 1)) zfu (nI (c1 - 1)) 0 τ
  | 0, n + 1, k, c, hc, hd, _ => by
    have h12 := hI.n12
    rw [show k = S 11 3 by omega] at hc ⊢
    have hcn : c ≤ S 11 3 := by rcases hc with h | h <;> omega
    refine ⟨c, hc, ?_⟩
    rw [f_X10_chain_L145, hB.many, if_pos ((qle_n (by omega) (by omega)).mpr (by omega))]
    by_cases e : c = 0
    · rw [if_pos ((nI_nm1 (by omega)).mpr e), if_pos e]
    · rw [if_neg (fun z => e ((nI_nm1 (by omega)).mp z)), if_neg e, nI_sub1 (by omega), zrd_n (by omega) (by omega), hL (c - 1) (by omega)]
  | d + 1, n + 1, k, c, hc, hd, hn => by
    have h12 := hI.n12
    have hk : k < S 11 3 := by omega
    have hlk := Ln_12 hI hk
    rw [f_X10_chain_L145, hB.many, if_neg (fun z => by have := (qle_n (by omega) (by omega)).mp z; omega), nI_1]
    by_cases e : c = 0
    · rw [if_pos ((nI_nm1 (by rcases hc with h | h <;> omega)).mpr e), ← nI_pred k]
      refine L145B hI hB hL x1 d n (k + 1) (k + 1) (Or.inr ⟨by omega, by omega, fun u hu => ?_, fun u hu => ?_⟩) (by omega) (by omega)
      · rcases hc with h | h
        · rw [show u = k by omega, Nat.add_sub_cancel]; exact Nat.le_refl _
        · omega
      · rcases hc with h | h <;> omega
    · rcases hc with h | h
      · omega
      · have hlc := Ln_12 hI (c := c - 1) (by omega)
        rw [if_neg (fun z => e ((nI_nm1 (by omega)).mp z)), nI_sub1 (by omega), zrd_n (by omega) (by omega), hL k hk, zrd_n (by omega) (by omega), hL (c - 1) (by omega)]
        by_cases g : Ln S k ≤ Ln S (c - 1)
        · rw [if_pos ((qle_n (by omega) (by omega)).mpr g), ← nI_sub1 (by omega)]
          refine L145B hI hB hL x1 d n (k + 1) c (Or.inr ⟨h.1, by omega, fun u hu => ?_, h.2.2.2⟩) (by omega) (by omega)
          by_cases e2 : u = k
          · rw [e2]; exact g
          · exact h.2.2.1 u (by omega)
        · rw [if_neg (fun z => g ((qle_n (by omega) (by omega)).mp z)), ← nI_pred k]
          refine L145B hI hB hL x1 d n (k + 1) (k + 1) (Or.inr ⟨by omega, by omega, fun u hu => ?_, fun u hu => ?_⟩) (by omega) (by omega)
          · rw [Nat.add_sub_cancel]
            by_cases e2 : u = k
            · rw [e2]; exact Nat.le_refl _
            · have := h.2.2.1 u (by omega); omega
          · rw [Nat.add_sub_cancel] at hu ⊢
            have := h.2.2.1 u (by omega); omega
/-- the best is the row's first -/
theorem Bst_row (hI : Inv S) {c : Nat} (h : Bst S (S 11 3) c) : (c = 0 → mL S = 0) ∧ (0 < c → Ln S (c - 1) = mL S ∧ rowC S 1 = c ∧ c ≤ S 11 3) := by
  rcases h with ⟨h1, h2⟩ | ⟨h1, h2, h3, h4⟩
  · refine ⟨fun _ => ?_, fun z => by omega⟩
    unfold mL; rw [h1]; rfl
  · refine ⟨fun z => by omega, fun _ => ?_⟩
    have e : Ln S (c - 1) = mL S := Nat.le_antisymm (le_mxF (p := fun _ => true) (f := Ln S) (show c - 1 < S 11 3 by omega) rfl) (mxF_le (fun u hu _ => h3 u hu))
    refine ⟨e, ?_, h2⟩
    have := fsC_eq (p := bhd S 0 (mL S - 0)) (b := c - 1) (d := S 11 3) (k := 0) (by unfold bhd; simp; exact e) (by omega) (by omega) (fun u _ hu => by unfold bhd; simp; have := h4 u hu; omega)
    show fsC (bhd S 0 (mL S - 0)) (S 11 3) 0 = c
    rw [this]; omega
/-- the one behind, as the model seeks it -/
def bhB (S : aS) (b : Nat) : Nat → Bool := fun c => mfr S c b && decide (Ln S c + 1 = Ln S b)
theorem L238B (hI : Inv S) {τ : zS} (hM : MBm S τ (S 11 3)) (hL : LBm τ (Ln S) (S 11 3)) (k213 : Int32 → Int32 → zS → Option (Int32 × zS)) (x1 x3 x4 : Int32) {b m : Nat} (hb : b < S 11 3) : ∀ (j n : Nat), j ≤ S 11 3 → j < n → f_X10_chain_L238 k213 x1 (nI b) x3 x4 (nI m) n (nI (fsC (bhB S b) (S 11 3 - j) j) - 1) (nI j - 1) τ = if fsC (bhB S b) (S 11 3) 0 = 0 then k213 (nI b) (nI (m + 1)) τ else k213 (nI (fsC (bhB S b) (S 11 3) 0 - 1)) (nI (m + 1)) τ
  | 0, n + 1, hj, _ => by
    have h12 := hI.n12
    have hc : fsC (bhB S b) (S 11 3) 0 ≤ S 11 3 := by
      by_cases z : 0 < fsC (bhB S b) (S 11 3) 0
      · have := (fsC_at z).2; omega
      · omega
    rw [f_X10_chain_L238, Nat.sub_zero, if_pos (by decide), nI_1]
    by_cases e : fsC (bhB S b) (S 11 3) 0 = 0
    · rw [if_pos ((nI_nm1 (by omega)).mpr e), if_pos e]
    · rw [if_neg (fun z => e ((nI_nm1 (by omega)).mp z)), if_neg e, nI_sub1 (by omega)]
  | j + 1, n + 1, hj, hn => by
    have h12 := hI.n12
    have hjn : j < S 11 3 := by omega
    have hlj := Ln_12 hI hjn
    have hlb := Ln_12 hI hb
    have ih := L238B hI hM hL k213 x1 x3 x4 (m := m) hb j n (by omega) (by omega)
    rw [show S 11 3 - j = (S 11 3 - (j + 1)) + 1 by omega, fsC] at ih
    have em : nI j + -1 = nI j - 1 := by rw [Int32.sub_eq_add_neg]
    rw [f_X10_chain_L238, nI_pred, if_neg (by rw [q0, qlt_n (by omega) (by omega)]; omega), zrd_n (by omega) (by omega), hM j hjn, em]
    by_cases g : mfr S j b = true
    · rw [if_pos ((bitB (τ := τ) h12 hb).mpr g), zrd_n (by omega) (by omega), zrd_n (by omega) (by omega), hL j hjn, hL b hb, nI_1]
      by_cases f : Ln S j + 1 = Ln S b
      · rw [if_pos (by rw [f]), ← nI_pred j]
        rw [if_pos (by unfold bhB; simp [g, f])] at ih
        rw [nI_pred j] at ih ⊢
        exact ih
      · rw [if_neg (by rw [qeq_n (by omega) (by omega)]; exact f)]
        rw [if_neg (by unfold bhB; simp [f])] at ih
        exact ih
    · rw [if_neg (fun z => g ((bitB (τ := τ) h12 hb).mp z))]
      rw [if_neg (by unfold bhB; simp [g])] at ih
      exact ih
theorem L213B (hI : Inv S) {τ : zS} (hB : RB τ S) (hM : MBm S τ (S 11 3)) (hL : LBm τ (Ln S) (S 11 3)) {x : Int32} (hx : -2 ≤ x.toInt) (h0 : 0 < mL S) : ∀ (d n k : Nat), k + d = mL S → d < n → (0 ≤ x.toInt → (k : Int) ≤ x.toInt) → f_X10_chain_L213 x (nI (mL S)) (nI (rowC S 1 - 1)) n (nI (rowC S (min k (mL S - 1) + 1) - 1)) (nI k) τ = some (chN S x, τ)
  | 0, n + 1, k, hd, _, hkx => by
    have h12 := hI.n12
    have hm := mL_12 hI
    obtain ⟨g1, g2, _, _⟩ := rowC_ok hI 0 h0
    obtain ⟨g3, g4, _, _⟩ := rowC_ok hI (mL S - 1) (by omega)
    have ez : mL S - 1 + 1 = mL S := by omega
    rw [ez] at g3 g4
    rw [Nat.zero_add] at g1 g2
    rw [f_X10_chain_L213, if_pos ((qle_n (by omega) (by omega)).mpr (by omega))]
    unfold chN
    by_cases e1 : x = -1
    · rw [if_pos e1, if_pos e1]
    · rw [if_neg e1, if_neg e1]
      by_cases e2 : x = -2
      · rw [if_pos e2, if_pos e2, if_neg (show ¬ mL S = 0 by omega), show min k (mL S - 1) + 1 = mL S by omega, atB (x := nI (rowC S 1 - 1)) (y := 5) (b := rowC S 1 - 1) (k := 5) (by omega) (by omega) rfl rfl, zbd_s, atB (x := nI (rowC S (mL S) - 1)) (y := 5) (b := rowC S (mL S) - 1) (k := 5) (by omega) (by omega) rfl rfl, zbd_s, (hB.bl (b := rowC S 1 - 1) (by omega)).2.2.2.1, (hB.bl (b := rowC S (mL S) - 1) (by omega)).2.2.2.1]
      · have h1 : x.toInt ≠ -1 := fun z => e1 (by rw [qeq]; exact z)
        have h2 : x.toInt ≠ -2 := fun z => e2 (by rw [qeq]; exact z)
        have := hkx (by omega)
        rw [if_neg e2, if_neg e2, if_neg (by omega)]
  | d + 1, n + 1, k, hd, hn, hkx => by
    have h12 := hI.n12
    have hm := mL_12 hI
    have hk : k < mL S := by omega
    obtain ⟨g1, g2, g3, _⟩ := rowC_ok hI k hk
    rw [f_X10_chain_L213, if_neg (fun z => by have := (qle_n (by omega) (by omega)).mp z; omega), show min k (mL S - 1) = k by omega]
    by_cases e : nI k = x
    · rw [if_pos e]
      have ex : x.toInt = k := by rw [← e, qti (by omega)]
      unfold chN
      rw [if_neg (fun z => by rw [z, tm1] at ex; omega), if_neg (fun z => by rw [z] at ex; exact absurd ex (by show ¬ (-2 : Int) = k; omega)), if_pos (by omega), ex]
      rfl
    · rw [if_neg e]
      have hx2 : 0 ≤ x.toInt → ((k + 1 : Nat) : Int) ≤ x.toInt := fun z => by
        have h1 := hkx z
        have h2 : x.toInt ≠ k := fun y => e (by rw [qeq, qti (by omega)]; exact y.symm)
        omega
      have ih := L213B hI hB hM hL hx h0 d n (k + 1) (by omega) (by omega) hx2
      have hs := L238B hI hM hL (fun x2 x5 σ => f_X10_chain_L213 x (nI (mL S)) (nI (rowC S 1 - 1)) n x2 x5 σ) x (nI (mL S)) (nI (rowC S 1 - 1)) (b := rowC S (k + 1) - 1) (m := k) (by omega) (S 11 3) zfu (Nat.le_refl _) (zfu_gt (by omega))
      rw [Nat.sub_self, fsC] at hs
      have em : nI 0 - 1 = (-1 : Int32) := by decide
      rw [em] at hs
      rw [hB.many, hs]
      by_cases el : k + 1 = mL S
      · -- nothing lies behind the last
        have hn0 : fsC (bhB S (rowC S (k + 1) - 1)) (S 11 3) 0 = 0 := fsC_none (fun c _ hc => by
          unfold bhB
          simp only [Bool.and_eq_true, decide_eq_true_eq]
          rintro ⟨_, h⟩
          have : 1 ≤ Ln S c := Len_pos c
          omega)
        rw [if_pos hn0]
        rw [show min (k + 1) (mL S - 1) + 1 = k + 1 by omega] at ih
        exact ih
      · have hn1 : fsC (bhB S (rowC S (k + 1) - 1)) (S 11 3) 0 = rowC S (k + 2) := by
          show _ = fsC (bhd S (rowC S (k + 1)) (mL S - (k + 1))) (S 11 3) 0
          refine fsC_cg (fun c _ hc => ?_)
          unfold bhB bhd
          rw [g3, show decide (rowC S (k + 1) = 0) = false by simp; omega, Bool.false_or, show decide (Ln S c + 1 = mL S - k) = decide (Ln S c = mL S - (k + 1)) by rw [decide_eq_decide]; omega]
        obtain ⟨f1, _, _, _⟩ := rowC_ok hI (k + 1) (by omega)
        rw [hn1, if_neg (show ¬ rowC S (k + 2) = 0 from fun z => by have : 0 < rowC S (k + 2) := f1; omega)]
        rw [show min (k + 1) (mL S - 1) + 1 = k + 2 by omega] at ih
        exact ih
theorem L11B (hI : Inv S) (x1 : Int32) : ∀ (d n m : Nat) (τ : zS), RB τ S → MBm S τ m → LBm τ (fun _ => 1) m → m + d = S 11 3 → d < n → ∃ τ1, f_X10_chain_L11 x1 n (nI m) τ = f_X10_chain_L45 x1 zfu 0 τ1 ∧ RB τ1 S ∧ MBm S τ1 (S 11 3) ∧ LBm τ1 (fun _ => 1) (S 11 3)
  | 0, n + 1, m, τ, hB, hM, hL, hd, _ => by
    have h12 := hI.n12
    refine ⟨τ, ?_, hB, fun c hc => hM c (by omega), fun c hc => hL c (by omega)⟩
    rw [f_X10_chain_L11, hB.many, if_pos ((qle_n (by omega) (by omega)).mpr (by omega))]
  | d + 1, n + 1, m, τ, hB, hM, hL, hd, hn => by
    have h12 := hI.n12
    obtain ⟨τ1, a1, a2, a3⟩ := fromB hB hI (b := m) (by omega)
    obtain ⟨τ2, b1, b2⟩ := L11B hI x1 d n (m + 1) (zup (zup τ1 13 m (nI (bN (mfr S m) (S 11 3)))) 14 m 1) (RB_13 a2 (fun k hk => by rw [zup_ne (by omega), zup_ne (by omega)])) (fun c hc => by
      rw [zup_ne (by decide)]
      by_cases e : c = m
      · rw [e, zup_at]
      · rw [zup_no e, a3 13 (by decide)]; exact hM c (by omega)) (fun c hc => by
      by_cases e : c = m
      · rw [e, zup_at]; rfl
      · rw [zup_no e, zup_ne (by decide), a3 14 (by decide)]; exact hL c (by omega)) (by omega) (by omega)
    refine ⟨τ2, ?_, b2⟩
    rw [f_X10_chain_L11, hB.many, if_neg (fun z => by have := (qle_n (by omega) (by omega)).mp z; omega), a1, zbd_s, zwr_n (by omega) (by omega), zwr_n (by omega) (by omega), nI_1]
    exact b1
theorem chainB (hI : Inv S) {τ : zS} (hB : RB τ S) {x : Int32} (hx : -2 ≤ x.toInt) : ∃ τ1, f_X10_chain_L11 x zfu 0 τ = some (chN S x, τ1) ∧ RB τ1 S := by
  have h12 := hI.n12
  obtain ⟨τ1, a1, a2, a3, a4⟩ := L11B hI x (S 11 3) zfu 0 τ hB (fun c hc => absurd hc (Nat.not_lt_zero c)) (fun c hc => absurd hc (Nat.not_lt_zero c)) (by omega) (zfu_gt (by omega))
  obtain ⟨τ2, b1, b2, b3, b4⟩ := L45B hI x (S 11 3) zfu 0 τ1 _ a2 a3 a4 GL_one (fun b _ h => absurd h (Nat.not_lt_zero _)) (by omega) (zfu_gt (by omega))
  obtain ⟨c, hc, e⟩ := L145B hI b2 b4 x (S 11 3) zfu 0 0 (Or.inl ⟨rfl, rfl⟩) (by omega) (zfu_gt (by omega))
  have em : nI 0 - 1 = (-1 : Int32) := by decide
  rw [em] at e
  have hr := Bst_row hI hc
  refine ⟨τ2, (a1.trans b1).trans (Eq.trans e ?_), b2⟩
  by_cases e0 : c = 0
  · have hz := hr.1 e0
    rw [if_pos e0]
    unfold chN
    rw [hz]
    by_cases e1 : x = -1
    · rw [if_pos e1, if_pos (by rw [e1]; decide)]; rfl
    · rw [if_neg e1]
      by_cases e2 : x = -2
      · rw [if_pos e2, if_pos (by rw [e2]; decide), if_pos rfl]
      · have h1 : x.toInt ≠ -1 := fun z => e1 (by rw [qeq]; exact z)
        have h2 : x.toInt ≠ -2 := fun z => e2 (by rw [qeq]; exact z)
        rw [if_neg e2, if_neg (by rw [qlt, t0]; omega), if_neg (by omega)]
  · obtain ⟨h1, h2, h3⟩ := hr.2 (by omega)
    have hm : 0 < mL S := by rw [← h1]; exact Len_pos _
    have hf := L213B hI b2 b3 b4 hx hm (mL S) zfu 0 (by omega) (zfu_gt (by have := mL_12 hI; omega)) (fun z => z)
    rw [show min 0 (mL S - 1) + 1 = 1 by omega, h2] at hf
    rw [if_neg e0, h1]
    exact hf
theorem ag_chain {σ τ : zS} (hA : RA σ S) (hB : RB τ S) (hI : Inv S) (x1 : Int32) : Ag (f_X9_chain x1 σ) (f_X10_chain x1 τ) S := by
  unfold f_X9_chain f_X10_chain
  by_cases h : (-2 : Int32) ≤ x1
  · have hx : -2 ≤ x1.toInt := by rw [qle] at h; exact h
    obtain ⟨σ1, a1, a2⟩ := chainA hI hA hx
    obtain ⟨τ1, b1, b2⟩ := chainB hI hB hx
    rw [if_pos h, if_pos h, a1, zbd_s, b1]
    exact Ag.mk rfl rfl a2 b2 hI
  · rw [if_neg h, if_neg h]; exact Ag.mk rfl rfl hA hB hI
end CHB
