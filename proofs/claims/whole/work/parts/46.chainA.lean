/-! PURE: chain, the class measures the rows -/
section CHA
variable {S : aS}
def rkS (S : aS) (b : Nat) : Nat := cN (fun c => decide (S 16 c < S 16 b)) (S 11 3)
theorem rkS_lt {b : Nat} (hb : b < S 11 3) : rkS S b < S 11 3 := cN_lt hb (by simp)
theorem mfr_sz {c b : Nat} (h : mfr S c b = true) : S 16 c < S 16 b := by
  unfold mfr lik at h
  simp only [Bool.and_eq_true, decide_eq_true_eq] at h
  exact h.1.2.1
theorem rkS_rk : Rk (mfr S) (S 11 3) (rkS S) := by
  intro c b hc hb h
  have := mfr_sz h
  exact cN_strict (fun k hk => by simp only [decide_eq_true_eq] at hk ⊢; omega) hc (by simp) (by simp; exact this)
theorem rkS_12 (hI : Inv S) : ∀ b, b < S 11 3 → rkS S b < 12 := fun b hb => by have := hI.n12; have := rkS_lt hb; omega
/-- the class's rows of bits, and lengths -/
def MA (S : aS) (σ : zS) (m : Nat) : Prop := ∀ c, c < m → σ 33 c = nI (bN (mfr S c) (S 11 3))
def LA (σ : zS) (L : Nat → Nat) (m : Nat) : Prop := ∀ c, c < m → σ 34 c = nI (L c)
theorem RA_32 {σ σ1 : zS} (h : RA σ S) (hk : ∀ k, k < 27 ∨ 36 < k → σ1 k = σ k) : RA σ1 S := by
  refine RA_keep h (fun k hm => hk k ?_) (by rw [hk 1 (by omega)])
  have hall : keepA.all (fun k => decide (k < 27 ∨ 36 < k)) = true := by decide
  have := List.all_eq_true.mp hall k hm
  simpa using this
theorem lenFromL {σ : zS} {L : Nat → Nat} (hA : RA σ S) (hI : Inv S) (hM : MA S σ (S 11 3)) (hL : LA σ L (S 11 3)) (hl : ∀ c, c < S 11 3 → L c ≤ 12) {b : Nat} (hb : b < S 11 3) : ∀ (d n k : Nat), k + d = S 11 3 → d < n → f_X5_lengthFrom_L4 (nI b) n (nI (1 + mxF (fun c => mfr S c b) L k)) (nI k) σ = some (nI (stp (mfr S) (S 11 3) L b), σ)
  | 0, n + 1, k, hd, _ => by
    have h12 := hI.n12
    rw [f_X5_lengthFrom_L4, hA.many, if_pos ((qle_n (by omega) (by omega)).mpr (by omega)), show k = S 11 3 by omega]
    rfl
  | d + 1, n + 1, k, hd, hn => by
    have h12 := hI.n12
    have hk : k < S 11 3 := by omega
    have ih := lenFromL hA hI hM hL hl hb d n (k + 1) (by omega) (by omega)
    have hx : mxF (fun c => mfr S c b) L k ≤ 12 := mxF_le (fun u hu _ => hl u (by omega))
    have hlk := hl k hk
    rw [f_X5_lengthFrom_L4, hA.many, if_neg (fun z => by have := (qle_n (by omega) (by omega)).mp z; omega), zrd_n (by omega) (by omega), hM k hk, hasBitA (mfr S k) h12 hb, zbd_s, nI_1]
    rw [mxF] at ih
    by_cases g : mfr S k b = true
    · rw [if_pos g] at ih
      rw [if_pos g, if_neg (by decide), zrd_n (by omega) (by omega), hL k hk, nI_1, zmax_n (by omega) (by omega), show max (1 + mxF (fun c => mfr S c b) L k) (L k + 1) = 1 + max (mxF (fun c => mfr S c b) L k) (L k) by omega]
      exact ih
    · rw [if_neg g] at ih
      rw [if_neg g, if_pos rfl]
      exact ih
theorem LA_up {σ : zS} {L : Nat → Nat} {m b v : Nat} (h : LA σ L m) : LA (zup σ 34 b (nI v)) (pnu L b v) m := by
  intro c hc
  unfold pnu
  by_cases e : c = b
  · rw [if_pos e, e, zup_at]
  · rw [if_neg e, zup_no e]; exact h c hc
theorem measL44 (hI : Inv S) (k30 : Int32 → Int32 → zS → Option (Int32 × zS)) (x2 : Int32) (t : Nat) : ∀ (d n m : Nat) (σ : zS) (L : Nat → Nat) (fl : Nat), RA σ S → MA S σ (S 11 3) → LA σ L (S 11 3) → GL (mfr S) (S 11 3) L → Xa (mfr S) (S 11 3) (rkS S) t L → (∀ c, c < m → rkS S c < t + 1 → L c = Len (mfr S) (S 11 3) c) → fl ≤ 1 → m + d = S 11 3 → d < n →
    ∃ (σ1 : zS) (L1 : Nat → Nat) (f1 : Nat), f_X5_measureRows_L44 k30 x2 n (nI fl) (nI m) σ = k30 (nI f1) (x2 + 1) σ1 ∧ (∀ k, k ≠ 34 → σ1 k = σ k) ∧ LA σ1 L1 (S 11 3) ∧ GL (mfr S) (S 11 3) L1 ∧ Xa (mfr S) (S 11 3) (rkS S) (t + 1) L1 ∧ f1 ≤ 1 ∧ (f1 = 0 → fl = 0 ∧ (∀ c, c < S 11 3 → L1 c = L c) ∧ ∀ c, m ≤ c → c < S 11 3 → stp (mfr S) (S 11 3) L c = L c)
  | 0, n + 1, m, σ, L, fl, hA, hM, hL, hG, hX, hm, hf, hd, _ => by
    have h12 := hI.n12
    refine ⟨σ, L, fl, ?_, fun _ _ => rfl, hL, hG, fun c hc ht => hm c (by omega) ht, hf, fun e => ⟨e, fun _ _ => rfl, fun c h1 h2 => by omega⟩⟩
    rw [f_X5_measureRows_L44, hA.many, if_pos ((qle_n (by omega) (by omega)).mpr (by omega))]
  | d + 1, n + 1, m, σ, L, fl, hA, hM, hL, hG, hX, hm, hf, hd, hn => by
    have h12 := hI.n12
    have hmn : m < S 11 3 := by omega
    have hr := rkS_rk (S := S)
    have hr12 := rkS_12 hI
    have hle : ∀ c, c < S 11 3 → L c ≤ 12 := fun c hc => by
      have := (hG c hc).2.1
      have := lenN_rk hr 12 c hc
      have := hr12 c hc
      unfold Len at *
      omega
    have hv := stp_le hr hr12 hG hmn
    have hv12 : stp (mfr S) (S 11 3) L m ≤ 12 := by
      have := lenN_rk hr 12 m hmn
      have := hr12 m hmn
      unfold Len at *
      omega
    have hv0 := (hG m hmn).2.2
    have el : f_X5_lengthFrom (nI m) σ = some (nI (stp (mfr S) (S 11 3) L m), σ) := lenFromL hA hI hM hL hle hmn (S 11 3) zfu 0 (by omega) (zfu_gt (by omega))
    have hgu := GL_up hr hr12 hG hmn
    have hxu := Xa_up hr hr12 hG hmn hX
    have hmu : ∀ c, c < m + 1 → rkS S c < t + 1 → pnu L m (stp (mfr S) (S 11 3) L m) c = Len (mfr S) (S 11 3) c := by
      intro c hc ht
      by_cases e : c = m
      · rw [e]; unfold pnu; rw [if_pos rfl]; exact stp_xa hr hr12 hX hmn (by rw [← e]; exact ht)
      · unfold pnu; rw [if_neg e]; exact hm c (by omega) ht
    -- one step with the flag f2
    have step : ∀ f2 : Nat, f2 ≤ 1 → (f2 = 0 → fl = 0 ∧ stp (mfr S) (S 11 3) L m = L m) → ∃ (σ1 : zS) (L1 : Nat → Nat) (f1 : Nat), f_X5_measureRows_J82 (fun x1 x3 σ => f_X5_measureRows_L44 k30 x2 n x1 x3 σ) x2 (nI m) (nI (stp (mfr S) (S 11 3) L m)) (nI f2) σ = k30 (nI f1) (x2 + 1) σ1 ∧ (∀ k, k ≠ 34 → σ1 k = σ k) ∧ LA σ1 L1 (S 11 3) ∧ GL (mfr S) (S 11 3) L1 ∧ Xa (mfr S) (S 11 3) (rkS S) (t + 1) L1 ∧ f1 ≤ 1 ∧ (f1 = 0 → fl = 0 ∧ (∀ c, c < S 11 3 → L1 c = L c) ∧ ∀ c, m ≤ c → c < S 11 3 → stp (mfr S) (S 11 3) L c = L c) := by
      intro f2 h2 hz
      obtain ⟨σ1, L1, f1, a1, a2, a3, a4, a5, a6, a7⟩ := measL44 hI k30 x2 t d n (m + 1) (zup σ 34 m (nI (stp (mfr S) (S 11 3) L m))) (pnu L m (stp (mfr S) (S 11 3) L m)) f2 (RA_32 hA (fun k hk => zup_ne (by omega))) (fun c hc => by rw [zup_ne (by decide)]; exact hM c hc) (LA_up hL) hgu.1 hxu hmu h2 (by omega) (by omega)
      refine ⟨σ1, L1, f1, ?_, fun k hk => by rw [a2 k hk, zup_ne hk], a3, a4, a5, a6, fun e => ?_⟩
      · unfold f_X5_measureRows_J82
        rw [zwr_n (by omega) (by omega), nI_1]
        exact a1
      · obtain ⟨c1, c2, c3⟩ := a7 e
        obtain ⟨c4, c5⟩ := hz c1
        have eq : ∀ c, pnu L m (stp (mfr S) (S 11 3) L m) c = L c := fun c => by
          unfold pnu
          by_cases e : c = m
          · rw [if_pos e, e]; exact c5
          · rw [if_neg e]
        have eqf : pnu L m (stp (mfr S) (S 11 3) L m) = L := funext eq
        rw [eqf] at c2 c3
        refine ⟨c4, c2, fun c h1 h2 => ?_⟩
        by_cases e : c = m
        · rw [e]; exact c5
        · exact c3 c (by omega) h2
    rw [f_X5_measureRows_L44, hA.many, if_neg (fun z => by have := (qle_n (by omega) (by omega)).mp z; omega), el, zbd_s]
    by_cases e0 : fl = 0
    · rw [if_pos (by rw [e0]; rfl), zrd_n (by omega) (by omega), hL m hmn]
      have := hle m hmn
      by_cases g : stp (mfr S) (S 11 3) L m ≤ L m
      · rw [if_pos ((qle_n (by omega) (by omega)).mpr g)]
        exact step 0 (by omega) (fun _ => ⟨e0, by omega⟩)
      · rw [if_neg (fun z => g ((qle_n (by omega) (by omega)).mp z))]
        exact step 1 (by omega) (fun z => by omega)
    · rw [if_neg (by rw [q0, qeq_n (by omega) (by omega)]; exact e0)]
      exact step 1 (by omega) (fun z => by omega)
theorem measL30 (hI : Inv S) : ∀ (d n t : Nat) (σ : zS) (L : Nat → Nat), RA σ S → MA S σ (S 11 3) → LA σ L (S 11 3) → GL (mfr S) (S 11 3) L → Xa (mfr S) (S 11 3) (rkS S) t L → t + d = 12 → d + 1 < n → ∃ σ1, f_X5_measureRows_L30 n 1 (nI t) σ = some (0, σ1) ∧ (∀ k, k ≠ 34 → σ1 k = σ k) ∧ LA σ1 (Len (mfr S) (S 11 3)) (S 11 3)
  | 0, n + 1, t, σ, L, hA, hM, hL, hG, hX, hd, _ => by
    refine ⟨σ, ?_, fun _ _ => rfl, fun c hc => by rw [hL c hc, hX c hc (by have := rkS_12 hI c hc; omega)]⟩
    rw [f_X5_measureRows_L30, if_neg (by decide), if_pos (by rw [q12, qle_n (by omega) (by omega)]; omega)]
  | d + 1, n + 1, t, σ, L, hA, hM, hL, hG, hX, hd, hn => by
    have h12 := hI.n12
    rw [f_X5_measureRows_L30, if_neg (by decide), if_neg (by rw [q12, qle_n (by omega) (by omega)]; omega)]
    obtain ⟨σ1, L1, f1, a1, a2, a3, a4, a5, a6, a7⟩ := measL44 hI (fun x1 x2 σ => f_X5_measureRows_L30 n x1 x2 σ) (nI t) t (S 11 3) zfu 0 σ L 0 hA hM hL hG hX (fun c hc => absurd hc (Nat.not_lt_zero c)) (by omega) (by omega) (zfu_gt (by omega))
    have a1' : f_X5_measureRows_L44 (fun x1 x2 σ => f_X5_measureRows_L30 n x1 x2 σ) (nI t) zfu 0 0 σ = f_X5_measureRows_L30 n (nI f1) (nI t + 1) σ1 := a1
    rw [a1', nI_1]
    by_cases e : f1 = 0
    · obtain ⟨_, c2, c3⟩ := a7 e
      have hx := fix_Len rkS_rk (rkS_12 hI) (fun b hb => c3 b (Nat.zero_le b) hb) 12
      refine ⟨σ1, ?_, a2, fun c hc => by rw [a3 c hc, c2 c hc, hx c hc (rkS_12 hI c hc)]⟩
      obtain ⟨n1, rfl⟩ : ∃ n1, n = n1 + 1 := ⟨n - 1, by omega⟩
      rw [e, f_X5_measureRows_L30, if_pos (show nI 0 = 0 from rfl)]
    · have e1 : f1 = 1 := by omega
      obtain ⟨σ2, b1, b2, b3⟩ := measL30 hI d n (t + 1) σ1 L1 (RA_32 hA (fun k hk => a2 k (by omega))) (fun c hc => by rw [a2 33 (by decide)]; exact hM c hc) a3 a4 a5 (by omega) (by omega)
      refine ⟨σ2, ?_, fun k hk => by rw [b2 k hk, a2 k hk], b3⟩
      rw [e1]; exact b1
theorem measL2 (hI : Inv S) : ∀ (d n m : Nat) (σ : zS), RA σ S → LA σ (fun _ => 1) m → m + d = S 11 3 → d < n → ∃ σ1, f_X5_measureRows_L2 n (nI m) σ = f_X5_measureRows_L30 zfu 1 0 σ1 ∧ (∀ k, k ≠ 34 → σ1 k = σ k) ∧ LA σ1 (fun _ => 1) (S 11 3)
  | 0, n + 1, m, σ, hA, hL, hd, _ => by
    have h12 := hI.n12
    refine ⟨σ, ?_, fun _ _ => rfl, fun c hc => hL c (by omega)⟩
    rw [f_X5_measureRows_L2, hA.many, if_pos ((qle_n (by omega) (by omega)).mpr (by omega))]
  | d + 1, n + 1, m, σ, hA, hL, hd, hn => by
    have h12 := hI.n12
    obtain ⟨σ1, a1, a2, a3⟩ := measL2 hI d n (m + 1) (zup σ 34 m 1) (RA_32 hA (fun k hk => zup_ne (by omega))) (fun c hc => by
      by_cases e : c = m
      · rw [e, zup_at]; rfl
      · rw [zup_no e]; exact hL c (by omega)) (by omega) (by omega)
    refine ⟨σ1, ?_, fun k hk => by rw [a2 k hk, zup_ne hk], a3⟩
    rw [f_X5_measureRows_L2, hA.many, if_neg (fun z => by have := (qle_n (by omega) (by omega)).mp z; omega), zwr_n (by omega) (by omega), nI_1]
    exact a1
theorem measA (hI : Inv S) {σ : zS} (hA : RA σ S) (hM : MA S σ (S 11 3)) : ∃ σ1, f_X5_measureRows σ = some (0, σ1) ∧ (∀ k, k ≠ 34 → σ1 k = σ k) ∧ LA σ1 (Len (mfr S) (S 11 3)) (S 11 3) := by
  have h12 := hI.n12
  obtain ⟨σ1, a1, a2, a3⟩ := measL2 hI (S 11 3) zfu 0 σ hA (fun c hc => absurd hc (Nat.not_lt_zero c)) (by omega) (zfu_gt (by omega))
  obtain ⟨σ2, b1, b2, b3⟩ := measL30 hI 12 zfu 0 σ1 _ (RA_32 hA (fun k hk => a2 k (by omega))) (fun c hc => by rw [a2 33 (by decide)]; exact hM c hc) a3 GL_one (fun b _ h => absurd h (Nat.not_lt_zero _)) (by omega) (zfu_gt (by omega))
  exact ⟨σ2, a1.trans b1, fun k hk => by rw [b2 k hk, a2 k hk], b3⟩
end CHA
