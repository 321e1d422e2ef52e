/-! PURE: the text: the model's tokens -/
theorem zsl_s {σ : zS} {k j : Nat} {v : Int64} {X : zS → Option (Int32 × zS)} : zsl σ k j v X = X (zup (zup σ k j (zlo v)) k (j + 1000) (zhi v)) := rfl
/-- the token in the state -/
def tok (τ : zS) : Int64 := zlg (τ 0 10) (τ 0 1010)
def tks (τ : zS) (v : Int64) : zS := zup (zup τ 0 10 (zlo v)) 0 1010 (zhi v)
theorem tok_s (τ : zS) (v : Int64) : tok (tks τ v) = v := by
  unfold tok tks
  rw [zup_no (show 10 ≠ 1010 by decide), zup_at, zup_at, zlg_eq]
theorem tks_j {τ : zS} {v : Int64} {j : Nat} (h1 : j ≠ 10) (h2 : j ≠ 1010) : tks τ v 0 j = τ 0 j := by
  unfold tks
  rw [zup_no h2, zup_no h1]
theorem tks_k {τ : zS} {v : Int64} {k : Nat} (h : k ≠ 0) : tks τ v k = τ k := by
  unfold tks
  rw [zup_ne h, zup_ne h]
theorem tok_u {τ : zS} {j : Nat} {v : Int32} (h1 : j ≠ 10) (h2 : j ≠ 1010) : tok (zup τ 0 j v) = tok τ := by
  unfold tok
  rw [zup_no (Ne.symm h1), zup_no (Ne.symm h2)]
section RTB
variable {T : Nat → Nat} {N : Nat}
def TB (T : Nat → Nat) (N : Nat) (τ : zS) : Prop := (N ≤ 200 ∧ ∀ j, j < N → T j ≤ 255) ∧ τ 0 6 = nI N ∧ ∀ j, j < N → τ 4 j = nI (T j)
def KB (τ τ1 : zS) : Prop := (∀ k, k ≠ 0 → τ1 k = τ k) ∧ ∀ j, j < 8 ∨ (12 < j ∧ j ≠ 1010) → τ1 0 j = τ 0 j
theorem KB.rf (τ : zS) : KB τ τ := ⟨fun _ _ => rfl, fun _ _ => rfl⟩
theorem KB.tr {a b c : zS} (h1 : KB a b) (h2 : KB b c) : KB a c := ⟨fun k hk => by rw [h2.1 k hk, h1.1 k hk], fun j hj => by rw [h2.2 j hj, h1.2 j hj]⟩
theorem KB_u {τ : zS} {j : Nat} {v : Int32} (h : 8 ≤ j ∧ j ≤ 12) : KB τ (zup τ 0 j v) := ⟨fun k hk => zup_ne hk, fun i hi => zup_no (by omega)⟩
theorem KB_t {τ : zS} {v : Int64} : KB τ (tks τ v) := ⟨fun k hk => tks_k hk, fun j hj => tks_j (by omega) (by omega)⟩
theorem TB_k {τ τ1 : zS} (h : TB T N τ) (hk : KB τ τ1) : TB T N τ1 := ⟨h.1, by rw [hk.2 6 (by omega)]; exact h.2.1, fun j hj => by rw [hk.1 4 (by decide)]; exact h.2.2 j hj⟩
theorem inL {c : Nat} (hc : c ≤ 255) (σ : zS) : f_X10_in (nI c) 97 122 σ = some (if isL c = true then 1 else 0, σ) := by
  rw [inB, ifc (show ((97 : Int32).toInt ≤ (nI c).toInt ∧ (nI c).toInt ≤ (122 : Int32).toInt) ↔ isL c = true by
    have e1 : (97 : Int32).toInt = 97 := rfl
    have e2 : (122 : Int32).toInt = 122 := rfl
    rw [isL_i, e1, e2, qti (by omega)]; omega)]
theorem inD {c : Nat} (hc : c ≤ 255) (σ : zS) : f_X10_in (nI c) 48 57 σ = some (if isD c = true then 1 else 0, σ) := by
  rw [inB, ifc (show ((48 : Int32).toInt ≤ (nI c).toInt ∧ (nI c).toInt ≤ (57 : Int32).toInt) ↔ isD c = true by
    have e1 : (48 : Int32).toInt = 48 := rfl
    have e2 : (57 : Int32).toInt = 57 := rfl
    rw [isD_i, e1, e2, qti (by omega)]; omega)]
def wv9 (f : Nat → Nat) (k : Nat) : Int64 := if k ≤ 9 then lN (wdN f k) else -4
theorem ntL101 {a : Nat} (d : Nat) : ∀ (n k : Nat) (τ : zS), TB T N τ → (∀ i, i < k → isL (T (a + i)) = true) → τ 0 8 = nI (a + k) → τ 0 9 = nI a → (True → tok τ = wv9 (fun i => T (a + i)) k) → a + k + d = N → d < n →
    ∃ τ1, f_X10_nextToken_L101 n τ = f_X10_nextToken_J191 τ1 ∧ KB τ τ1 ∧ τ1 0 8 = nI (runN isL T N d (a + k)) ∧ τ1 0 9 = nI a ∧ tok τ1 = wv9 (fun i => T (a + i)) (runN isL T N d (a + k) - a) := by
  induction d with
  | zero =>
    intro n k τ hT _ h8 h9 ht h hn
    obtain ⟨n, rfl⟩ : ∃ m, n = m + 1 := ⟨n - 1, by omega⟩
    have h2 := hT.1.1
    refine ⟨τ, ?_, KB.rf τ, h8, h9, ?_⟩
    · rw [f_X10_nextToken_L101, hT.2.1, h8, if_pos ((qle_n (by omega) (by omega)).mpr (by omega))]
    · rw [runN, show a + k - a = k by omega]; exact ht trivial
  | succ d ih =>
    intro n k τ hT hl h8 h9 ht h hn
    obtain ⟨n, rfl⟩ : ∃ m, n = m + 1 := ⟨n - 1, by omega⟩
    have h2 := hT.1.1
    have cx := hT.1.2 (a + k) (by omega)
    rw [f_X10_nextToken_L101, hT.2.1, h8, if_neg (by rw [qle_n (by omega) (by omega)]; omega), zrd_n (by omega) (by omega), hT.2.2 _ (by omega), inL cx, zbd_s, ifz, runN]
    by_cases c : isL (T (a + k)) = true
    · have cl := isL_i.mp c
      rw [if_pos c, if_pos (show a + k < N ∧ isL (T (a + k)) = true from ⟨by omega, c⟩), h8, h9, pk_sub (by omega), Nat.add_sub_cancel_left]
      have go : ∀ v : Int64, v = wv9 (fun i => T (a + i)) (k + 1) → ∃ τ1, f_X10_nextToken_J175 (fun σ => f_X10_nextToken_L101 n σ) v τ = f_X10_nextToken_J191 τ1 ∧ KB τ τ1 ∧ τ1 0 8 = nI (runN isL T N d (a + k + 1)) ∧ τ1 0 9 = nI a ∧ tok τ1 = wv9 (fun i => T (a + i)) (runN isL T N d (a + k + 1) - a) := by
        intro v hv
        have hk : KB τ (zup (tks τ v) 0 8 (nI (a + (k + 1)))) := KB_t.tr (KB_u (by omega))
        obtain ⟨τ1, a1, a2, a3, a4, a5⟩ := ih n (k + 1) (zup (tks τ v) 0 8 (nI (a + (k + 1)))) (TB_k hT hk) (fun i hi => by
          by_cases z : i = k
          · rw [z]; exact c
          · exact hl i (by omega)) zup_at (by rw [zup_no (by decide), tks_j (by decide) (by decide)]; exact h9) (fun _ => by rw [tok_u (by decide) (by decide), tok_s]; exact hv) (by omega) (by omega)
        refine ⟨τ1, ?_, hk.tr a2, a3, a4, a5⟩
        unfold f_X10_nextToken_J175
        rw [zsl_s, zst_s]
        show f_X10_nextToken_L101 n (zup (tks τ v) 0 8 (tks τ v 0 8 + 1)) = _
        rw [tks_j (by decide) (by decide), h8, nI_1]
        exact a1
      by_cases g : k < 9
      · rw [if_neg (by rw [q9, qle_n (by omega) (by omega)]; omega), zrd_n (by omega) (by omega), hT.2.2 _ (by omega)]
        refine go _ ?_
        have et : zlg (τ 0 10) (τ 0 1010) = lN (wdN (fun i => T (a + i)) k) := by
          have ht' : zlg (τ 0 10) (τ 0 1010) = wv9 (fun i => T (a + i)) k := ht trivial
          rw [ht']; unfold wv9; rw [if_pos (by omega)]
        rw [et, nI_l (by omega), show (27 : Int64) = lN 27 from rfl, show (96 : Int64) = lN 96 from rfl, lN_mul, lN_add, lN_sub (by omega)]
        unfold wv9
        rw [if_pos (by omega), wdN]
        congr 1
        omega
      · rw [if_pos (by rw [q9, qle_n (by omega) (by omega)]; omega)]
        refine go _ ?_
        unfold wv9
        rw [if_neg (by omega)]
    · rw [if_neg c, if_neg (show ¬ (a + k < N ∧ isL (T (a + k)) = true) from fun z => c z.2)]
      exact ⟨τ, rfl, KB.rf τ, h8, h9, by rw [show a + k - a = k by omega]; exact ht trivial⟩
theorem ntL241 {a : Nat} : ∀ (d n k : Nat) (τ : zS), TB T N τ → (∀ i, i < k → isD (T (a + i)) = true) → τ 0 8 = nI (a + k) → τ 0 9 = nI a → τ 0 11 = nI k → τ 0 12 = nI (nmN (fun i => T (a + i)) (min k 4)) → a + k + d = N → d < n →
    ∃ τ1, f_X10_nextToken_L241 n τ = f_X10_nextToken_J333 τ1 ∧ KB τ τ1 ∧ τ1 0 8 = nI (runN isD T N d (a + k)) ∧ τ1 0 9 = nI a ∧ τ1 0 11 = nI (runN isD T N d (a + k) - a) ∧ τ1 0 12 = nI (nmN (fun i => T (a + i)) (min (runN isD T N d (a + k) - a) 4))
  | 0, n + 1, k, τ, hT, _, h8, h9, h11, h12, h, _ => by
    have h2 := hT.1.1
    refine ⟨τ, ?_, KB.rf τ, h8, h9, ?_, ?_⟩
    · rw [f_X10_nextToken_L241, hT.2.1, h8, if_pos ((qle_n (by omega) (by omega)).mpr (by omega))]
    · rw [runN, show a + k - a = k by omega]; exact h11
    · rw [runN, show a + k - a = k by omega]; exact h12
  | d + 1, n + 1, k, τ, hT, hl, h8, h9, h11, h12, h, hn => by
    have h2 := hT.1.1
    have cx := hT.1.2 (a + k) (by omega)
    rw [f_X10_nextToken_L241, hT.2.1, h8, if_neg (by rw [qle_n (by omega) (by omega)]; omega), zrd_n (by omega) (by omega), hT.2.2 _ (by omega), inD cx, zbd_s, ifz, runN]
    by_cases c : isD (T (a + k)) = true
    · have cl := isD_i.mp c
      rw [if_pos c, if_pos (show a + k < N ∧ isD (T (a + k)) = true from ⟨by omega, c⟩), h11]
      have go : ∀ v : Int32, v = nI (nmN (fun i => T (a + i)) (min (k + 1) 4)) → ∃ τ1, f_X10_nextToken_J307 (fun σ => f_X10_nextToken_L241 n σ) v τ = f_X10_nextToken_J333 τ1 ∧ KB τ τ1 ∧ τ1 0 8 = nI (runN isD T N d (a + k + 1)) ∧ τ1 0 9 = nI a ∧ τ1 0 11 = nI (runN isD T N d (a + k + 1) - a) ∧ τ1 0 12 = nI (nmN (fun i => T (a + i)) (min (runN isD T N d (a + k + 1) - a) 4)) := by
        intro v hv
        have hk : KB τ (zup (zup (zup τ 0 12 v) 0 11 (nI (k + 1))) 0 8 (nI (a + (k + 1)))) := (KB_u (by omega)).tr ((KB_u (by omega)).tr (KB_u (by omega)))
        obtain ⟨τ1, a1, a2, a3, a4, a5, a6⟩ := ntL241 d n (k + 1) (zup (zup (zup τ 0 12 v) 0 11 (nI (k + 1))) 0 8 (nI (a + (k + 1)))) (TB_k hT hk) (fun i hi => by
          by_cases z : i = k
          · rw [z]; exact c
          · exact hl i (by omega)) zup_at (by rw [zup_no (by decide), zup_no (by decide), zup_no (by decide)]; exact h9) (by rw [zup_no (by decide), zup_at]) (by rw [zup_no (by decide), zup_no (by decide), zup_at]; exact hv) (by omega) (by omega)
        refine ⟨τ1, ?_, hk.tr a2, a3, a4, a5, a6⟩
        unfold f_X10_nextToken_J307
        rw [zst_s, zst_s, zst_s, zup_no (show 11 ≠ 12 by decide), h11, nI_1, zup_no (show 8 ≠ 11 by decide), zup_no (show 8 ≠ 12 by decide), h8, nI_1]
        exact a1
      by_cases g : k < 4
      · have l := nmN_lt (f := fun i => T (a + i)) (k := k) hl
        have p4 : 10 ^ k ≤ 10 ^ 4 := Nat.pow_le_pow_right (by omega) (by omega)
        have e4 : (10 : Nat) ^ 4 = 10000 := by decide
        rw [if_neg (by rw [q4, qle_n (by omega) (by omega)]; omega), h8, zrd_n (by omega) (by omega), hT.2.2 _ (by omega), h12, Nat.min_eq_left (show k ≤ 4 by omega), q10, pk_mul, nI_add, q48, pk_sub (by omega)]
        refine go _ ?_
        rw [Nat.min_eq_left (show k + 1 ≤ 4 by omega), nmN]
        congr 1
        omega
      · rw [if_pos (by rw [q4, qle_n (by omega) (by omega)]; omega), h12]
        refine go _ ?_
        rw [Nat.min_eq_right (show 4 ≤ k by omega), Nat.min_eq_right (show 4 ≤ k + 1 by omega)]
    · rw [if_neg c, if_neg (show ¬ (a + k < N ∧ isD (T (a + k)) = true) from fun z => c z.2)]
      exact ⟨τ, rfl, KB.rf τ, h8, h9, by rw [show a + k - a = k by omega]; exact h11, by rw [show a + k - a = k by omega]; exact h12⟩
theorem ntL0 : ∀ (d n x : Nat) (τ : zS), TB T N τ → τ 0 8 = nI x → x + d = N → d < n → ∃ τ1, f_X10_nextToken_L0 n τ = f_X10_nextToken_J38 τ1 ∧ KB τ τ1 ∧ τ1 0 8 = nI (runN (fun c => decide (c = 32)) T N d x)
  | 0, n + 1, x, τ, hT, h8, h, _ => by
    have := hT.1.1
    refine ⟨τ, ?_, KB.rf τ, h8⟩
    rw [f_X10_nextToken_L0, hT.2.1, h8, if_pos ((qle_n (by omega) (by omega)).mpr (by omega))]
  | d + 1, n + 1, x, τ, hT, h8, h, hn => by
    have h2 := hT.1.1
    have cx := hT.1.2 x (by omega)
    rw [f_X10_nextToken_L0, hT.2.1, h8, if_neg (by rw [qle_n (by omega) (by omega)]; omega), zrd_n (by omega) (by omega), hT.2.2 x (by omega), runN]
    by_cases c : T x = 32
    · rw [if_pos (show nI (T x) = 32 by rw [c]; rfl), if_pos (show x < N ∧ decide (T x = 32) = true from ⟨by omega, by simp [c]⟩), zst_s, nI_1]
      have hk : KB τ (zup τ 0 8 (nI (x + 1))) := KB_u (by omega)
      obtain ⟨τ1, a1, a2, a3⟩ := ntL0 d n (x + 1) (zup τ 0 8 (nI (x + 1))) (TB_k hT hk) zup_at (by omega) (by omega)
      exact ⟨τ1, a1, hk.tr a2, a3⟩
    · rw [if_neg (show ¬ nI (T x) = 32 by rw [show (32 : Int32) = nI 32 from rfl, qeq_n (by omega) (by omega)]; exact c), if_neg (show ¬ (x < N ∧ decide (T x = 32) = true) from fun z => c (by simpa using z.2))]
      exact ⟨τ, rfl, KB.rf τ, h8⟩
/-- a token taken from a -/
def NT (T : Nat → Nat) (N a : Nat) (τ τ1 : zS) : Prop := KB τ τ1 ∧ τ1 0 8 = nI (teN T N a) ∧ τ1 0 9 = nI a ∧ tok τ1 = tkV T N a ∧ ∀ v, numO T N a = some v → τ1 0 12 = nI v
theorem ntJ38 {τ : zS} (hT : TB T N τ) {a : Nat} (ha : a ≤ N) (h8 : τ 0 8 = nI a) : ∃ τ1, f_X10_nextToken_J38 τ = some (0, τ1) ∧ NT T N a τ τ1 := by
  have h2 := hT.1.1
  obtain ⟨τ0, e0⟩ : ∃ τ0, τ0 = zup (zup (zup τ 0 9 (nI a)) 0 11 0) 0 12 0 := ⟨_, rfl⟩
  have k0 : KB τ τ0 := by rw [e0]; exact (KB_u (by omega)).tr ((KB_u (by omega)).tr (KB_u (by omega)))
  have z8 : τ0 0 8 = nI a := by rw [e0, zup_no (by decide), zup_no (by decide), zup_no (by decide)]; exact h8
  have z9 : τ0 0 9 = nI a := by rw [e0, zup_no (by decide), zup_no (by decide), zup_at]
  have z11 : τ0 0 11 = 0 := by rw [e0, zup_no (by decide), zup_at]
  have z12 : τ0 0 12 = 0 := by rw [e0, zup_at]
  have hT0 := TB_k hT k0
  unfold f_X10_nextToken_J38
  rw [zst_s, zst_s, zst_s, h8, ← e0, z8, hT0.2.1]
  by_cases c : a < N
  · have ca := hT.1.2 a c
    rw [if_neg (by rw [qeq_n (by omega) (by omega)]; omega), zrd_n (by omega) (by omega), hT0.2.2 a c, inL ca, zbd_s, ifz]
    by_cases hl : isL (T a) = true
    · rw [if_pos hl, zsl_s]
      show ∃ τ1, f_X10_nextToken_L101 zfu (tks τ0 0) = some (0, τ1) ∧ _
      have k1 : KB τ0 (tks τ0 0) := KB_t
      have hte : runN isL T N (N - a) a = teN T N a := by
        unfold teN
        rw [if_pos c, cls_L hl, show N - a = (N - (a + 1)) + 1 by omega, runN, if_pos ⟨c, hl⟩]
      obtain ⟨τ1, a1, a2, a3, a4, a5⟩ := ntL101 (T := T) (N := N) (a := a) (N - a) zfu 0 (tks τ0 0) (TB_k hT0 k1) (fun i hi => absurd hi (Nat.not_lt_zero i)) (by rw [tks_j (by decide) (by decide)]; exact z8) (by rw [tks_j (by decide) (by decide)]; exact z9) (fun _ => by rw [tok_s]; rfl) (by omega) (zfu_gt (by omega))
      rw [Nat.add_zero, hte] at a3 a5
      have te := teN_le (T := T) (N := N) (a := a)
      have gt := teN_gt (T := T) c
      rw [a1]
      unfold f_X10_nextToken_J191
      rw [a3, a4, pk_sub (by omega)]
      have fin : ∀ v : Int64, v = tkV T N a → ∃ τ2, zsl τ1 0 10 v (fun σ1 => some (0, σ1)) = some (0, τ2) ∧ NT T N a τ τ2 := by
        intro v hv
        refine ⟨tks τ1 v, rfl, k0.tr (k1.tr (a2.tr KB_t)), by rw [tks_j (by decide) (by decide)]; exact a3, by rw [tks_j (by decide) (by decide)]; exact a4, by rw [tok_s]; exact hv, fun w hw => ?_⟩
        exfalso
        unfold numO at hw
        rw [if_neg (fun z => by rw [isL_i] at hl; have := isD_i.mp z.1.2; omega)] at hw
        cases hw
      have ev : tkV T N a = wv9 (fun i => T (a + i)) (teN T N a - a) := by
        unfold tkV wv9
        rw [if_pos c, if_pos hl]
      by_cases g : teN T N a - a ≤ 9
      · rw [if_pos (by rw [q9, qle_n (by omega) (by omega)]; exact g)]
        exact fin _ (by rw [ev]; exact a5)
      · rw [if_neg (by rw [q9, qle_n (by omega) (by omega)]; exact g)]
        exact fin _ (by rw [ev]; unfold wv9; rw [if_neg g])
    · rw [if_neg hl, z8, zrd_n (by omega) (by omega), hT0.2.2 a c, inD ca, zbd_s, ifz]
      by_cases hd : isD (T a) = true
      · rw [if_pos hd]
        have hte : runN isD T N (N - a) a = teN T N a := by
          unfold teN
          rw [if_pos c, cls_D hd, show N - a = (N - (a + 1)) + 1 by omega, runN, if_pos ⟨c, hd⟩]
        obtain ⟨τ1, a1, a2, a3, a4, a5, a6⟩ := ntL241 (T := T) (N := N) (a := a) (N - a) zfu 0 τ0 hT0 (fun i hi => absurd hi (Nat.not_lt_zero i)) z8 z9 z11 z12 (by omega) (zfu_gt (by omega))
        rw [Nat.add_zero, hte] at a3 a5 a6
        have te := teN_le (T := T) (N := N) (a := a)
        have gt := teN_gt (T := T) c
        rw [a1]
        unfold f_X10_nextToken_J333
        rw [a5]
        have ev : tkV T N a = if teN T N a - a ≤ 4 then -1 else -4 := by
          unfold tkV
          rw [if_pos c, if_neg hl, if_pos hd]
        have fin : ∀ v : Int64, v = tkV T N a → ∃ τ2, zsl τ1 0 10 v (fun σ1 => some (0, σ1)) = some (0, τ2) ∧ NT T N a τ τ2 := by
          intro v hv
          refine ⟨tks τ1 v, rfl, k0.tr (a2.tr KB_t), by rw [tks_j (by decide) (by decide)]; exact a3, by rw [tks_j (by decide) (by decide)]; exact a4, by rw [tok_s]; exact hv, fun w hw => ?_⟩
          unfold numO at hw
          by_cases z : (a < N ∧ isD (T a) = true) ∧ teN T N a - a ≤ 4
          · rw [if_pos z] at hw
            cases hw
            rw [tks_j (by decide) (by decide), a6, Nat.min_eq_left z.2]
          · rw [if_neg z] at hw; cases hw
        by_cases g : teN T N a - a ≤ 4
        · rw [if_pos (by rw [q4, qle_n (by omega) (by omega)]; exact g)]
          exact fin _ (by rw [ev, if_pos g])
        · rw [if_neg (by rw [q4, qle_n (by omega) (by omega)]; exact g)]
          exact fin _ (by rw [ev, if_neg g])
      · rw [if_neg hd, z8, zrd_n (by omega) (by omega), hT0.2.2 a c]
        have ev : tkV T N a = if T a = 59 then -3 else -4 := by
          unfold tkV
          rw [if_pos c, if_neg hl, if_neg hd]
        have fin : ∀ v : Int64, v = tkV T N a → ∃ τ2, f_X10_nextToken_J381 v τ0 = some (0, τ2) ∧ NT T N a τ τ2 := by
          intro v hv
          refine ⟨zup (tks τ0 v) 0 8 (nI (a + 1)), ?_, k0.tr (KB_t.tr (KB_u (by omega))), by rw [zup_at, te_O c hl hd], by rw [zup_no (by decide), tks_j (by decide) (by decide)]; exact z9, by rw [tok_u (by decide) (by decide), tok_s]; exact hv, fun w hw => ?_⟩
          · unfold f_X10_nextToken_J381
            rw [zsl_s, zst_s]
            show some (0, zup (tks τ0 v) 0 8 (tks τ0 v 0 8 + 1)) = _
            rw [tks_j (by decide) (by decide), z8, nI_1]
          · exfalso
            unfold numO at hw
            rw [if_neg (fun z => hd z.1.2)] at hw
            cases hw
        by_cases g : T a = 59
        · rw [if_pos (show nI (T a) = 59 by rw [g]; rfl)]
          exact fin _ (by rw [ev, if_pos g])
        · rw [if_neg (show ¬ nI (T a) = 59 by rw [show (59 : Int32) = nI 59 from rfl, qeq_n (by omega) (by omega)]; exact g)]
          exact fin _ (by rw [ev, if_neg g])
  · have ea : a = N := by omega
    rw [if_pos (by rw [ea])]
    refine ⟨tks τ0 (-2), rfl, k0.tr KB_t, by rw [tks_j (by decide) (by decide), z8, teN_end c, ea], by rw [tks_j (by decide) (by decide)]; exact z9, by rw [tok_s, tkV_end.mpr c], fun w hw => ?_⟩
    exfalso
    unfold numO at hw
    rw [if_neg (fun z => c z.1.1)] at hw
    cases hw
theorem nextB {τ : zS} (hT : TB T N τ) {x : Nat} (hx : x ≤ N) (h8 : τ 0 8 = nI x) : ∃ τ1, f_X10_nextToken τ = some (0, τ1) ∧ NT T N (skN T N x) τ τ1 := by
  have h2 := hT.1.1
  obtain ⟨τ1, a1, a2, a3⟩ := ntL0 (N - x) zfu x τ hT h8 (by omega) (zfu_gt (by omega))
  obtain ⟨τ2, b1, b2, b3⟩ := ntJ38 (TB_k hT a2) (skN_le hx) a3
  exact ⟨τ2, a1.trans b1, a2.tr b2, b3⟩
end RTB
