/-! PURE: the text: the class's tokens -/
section RTA
variable {T : Nat → Nat} {N : Nat}
def TA (T : Nat → Nat) (N : Nat) (σ : zS) : Prop := (N ≤ 200 ∧ ∀ j, j < N → T j ≤ 255) ∧ σ 1 1 = nI N ∧ ∀ j, j < N → σ 2 j = nI (T j)
def KT (σ σ1 : zS) : Prop := (∀ k, k ≠ 1 → σ1 k = σ k) ∧ ∀ j, j ≠ 4 → j ≠ 5 → σ1 1 j = σ 1 j
theorem KT.rf (σ : zS) : KT σ σ := ⟨fun _ _ => rfl, fun _ _ _ => rfl⟩
theorem KT.tr {a b c : zS} (h1 : KT a b) (h2 : KT b c) : KT a c := ⟨fun k hk => by rw [h2.1 k hk, h1.1 k hk], fun j h4 h5 => by rw [h2.2 j h4 h5, h1.2 j h4 h5]⟩
theorem KT_u {σ : zS} {j : Nat} {v : Int32} (h : j = 4 ∨ j = 5) : KT σ (zup σ 1 j v) := ⟨fun k hk => zup_ne hk, fun i h4 h5 => zup_no (by omega)⟩
theorem TA_k {σ σ1 : zS} (h : TA T N σ) (hk : KT σ σ1) : TA T N σ1 := ⟨h.1, by rw [hk.2 1 (by decide) (by decide)]; exact h.2.1, fun j hj => by rw [hk.1 2 (by decide)]; exact h.2.2 j hj⟩
theorem isLetA {c : Nat} (hc : c ≤ 255) (σ : zS) : f_X7_isLetter (nI c) σ = some (if isL c = true then 1 else 0, σ) := by
  unfold f_X7_isLetter
  rw [isWithinA, zbd_s, zrb_if, ifc (show ((97 : Int32).toInt ≤ (nI c).toInt ∧ (nI c).toInt ≤ (122 : Int32).toInt) ↔ isL c = true by
    have e1 : (97 : Int32).toInt = 97 := rfl
    have e2 : (122 : Int32).toInt = 122 := rfl
    rw [isL_i, e1, e2, qti (by omega)]; omega)]
theorem isDigA {c : Nat} (hc : c ≤ 255) (σ : zS) : f_X7_isDigit (nI c) σ = some (if isD c = true then 1 else 0, σ) := by
  unfold f_X7_isDigit
  rw [isWithinA, zbd_s, zrb_if, ifc (show ((48 : Int32).toInt ≤ (nI c).toInt ∧ (nI c).toInt ≤ (57 : Int32).toInt) ↔ isD c = true by
    have e1 : (48 : Int32).toInt = 48 := rfl
    have e2 : (57 : Int32).toInt = 57 := rfl
    rw [isD_i, e1, e2, qti (by omega)]; omega)]
theorem areA {c e : Nat} (hc : c ≤ 255) (he : e ≤ 255) (σ : zS) : f_X7_areOfOneToken (nI c) (nI e) σ = some (if clsP c e = true then 1 else 0, σ) := by
  unfold f_X7_areOfOneToken f_X7_areOfOneToken_J14
  rw [isLetA hc, zbd_s, ifz, isLetA he, zbd_s, ifz, isDigA hc, zbd_s, ifz, isDigA he, zbd_s, ifz]
  by_cases hl : isL c = true
  · have hd : ¬ isD c = true := fun z => by rw [isL_i] at hl; rw [isD_i] at z; omega
    rw [if_pos hl, cls_L hl, if_neg hd]
    by_cases h2 : isL e = true
    · rw [if_pos h2, if_pos h2]
    · rw [if_neg h2, if_neg h2]
  · rw [if_neg hl]
    by_cases hd : isD c = true
    · rw [if_pos hd, cls_D hd]
      by_cases h2 : isD e = true
      · rw [if_pos h2, if_pos h2]
      · rw [if_neg h2, if_neg h2]
    · rw [if_neg hd, cls_O hl hd]; rfl
theorem tkL63 {a : Nat} (ha : a < N) : ∀ (d n e : Nat) (σ : zS), TA T N σ → σ 1 4 = nI a → σ 1 5 = nI e → e + d = N → d < n → ∃ σ1, f_X7_takeToken_L63 n σ = some (0, σ1) ∧ KT σ σ1 ∧ σ1 1 4 = nI a ∧ σ1 1 5 = nI (runN (clsP (T a)) T N d e)
  | 0, n + 1, e, σ, hT, h4, h5, h, _ => by
    refine ⟨σ, ?_, KT.rf σ, h4, h5⟩
    have := hT.1.1
    rw [f_X7_takeToken_L63, hT.2.1, h5, if_pos ((qle_n (by omega) (by omega)).mpr (by omega))]
  | d + 1, n + 1, e, σ, hT, h4, h5, h, hn => by
    have h2 := hT.1.1
    have ca := hT.1.2 a ha
    have ce := hT.1.2 e (by omega)
    rw [f_X7_takeToken_L63, hT.2.1, h5, if_neg (by rw [qle_n (by omega) (by omega)]; omega), h4, zrd_n (by omega) (by omega), hT.2.2 a ha, zrd_n (by omega) (by omega), hT.2.2 e (by omega), areA ca ce, zbd_s, ifz, runN]
    by_cases c : clsP (T a) (T e) = true
    · rw [if_pos c, if_pos ⟨by omega, c⟩, zst_s, h5, nI_1]
      have hk : KT σ (zup σ 1 5 (nI (e + 1))) := KT_u (Or.inr rfl)
      obtain ⟨σ1, a1, a2, a3, a4⟩ := tkL63 ha d n (e + 1) (zup σ 1 5 (nI (e + 1))) (TA_k hT hk) (by rw [zup_no (by decide)]; exact h4) zup_at (by omega) (by omega)
      exact ⟨σ1, a1, hk.tr a2, a3, a4⟩
    · rw [if_neg c, if_neg (fun z => c z.2)]
      exact ⟨σ, rfl, KT.rf σ, h4, h5⟩
theorem tkL8 : ∀ (d n x : Nat) (σ : zS), TA T N σ → σ 1 4 = nI x → x + d = N → d < n → ∃ σ1, f_X7_takeToken_L8 n σ = f_X7_takeToken_J46 σ1 ∧ KT σ σ1 ∧ σ1 1 4 = nI (runN (fun c => decide (c = 32)) T N d x)
  | 0, n + 1, x, σ, hT, h4, h, _ => by
    have := hT.1.1
    refine ⟨σ, ?_, KT.rf σ, h4⟩
    rw [f_X7_takeToken_L8, hT.2.1, h4, if_pos ((qle_n (by omega) (by omega)).mpr (by omega))]
  | d + 1, n + 1, x, σ, hT, h4, h, hn => by
    have h2 := hT.1.1
    have cx := hT.1.2 x (by omega)
    rw [f_X7_takeToken_L8, hT.2.1, h4, if_neg (by rw [qle_n (by omega) (by omega)]; omega), zrd_n (by omega) (by omega), hT.2.2 x (by omega), runN]
    by_cases c : T x = 32
    · rw [if_pos (show nI (T x) = 32 by rw [c]; rfl), if_pos (show x < N ∧ decide (T x = 32) = true from ⟨by omega, by simp [c]⟩), zst_s, nI_1]
      have hk : KT σ (zup σ 1 4 (nI (x + 1))) := KT_u (Or.inl rfl)
      obtain ⟨σ1, a1, a2, a3⟩ := tkL8 d n (x + 1) (zup σ 1 4 (nI (x + 1))) (TA_k hT hk) zup_at (by omega) (by omega)
      exact ⟨σ1, a1, hk.tr a2, a3⟩
    · rw [if_neg (show ¬ nI (T x) = 32 by rw [show (32 : Int32) = nI 32 from rfl, qeq_n (by omega) (by omega)]; exact c), if_neg (show ¬ (x < N ∧ decide (T x = 32) = true) from fun z => c (by simpa using z.2))]
      exact ⟨σ, rfl, KT.rf σ, h4⟩
theorem takeA {σ : zS} {x : Nat} (hT : TA T N σ) (h5 : σ 1 5 = nI x) (hx : x ≤ N) : ∃ σ1, f_X7_takeToken σ = some (0, σ1) ∧ KT σ σ1 ∧ σ1 1 4 = nI (skN T N x) ∧ σ1 1 5 = nI (teN T N (skN T N x)) := by
  have h2 := hT.1.1
  have hk : KT σ (zup σ 1 4 (σ 1 5)) := KT_u (Or.inl rfl)
  obtain ⟨σ1, a1, a2, a3⟩ := tkL8 (N - x) zfu x (zup σ 1 4 (σ 1 5)) (TA_k hT hk) (by rw [zup_at]; exact h5) (by omega) (zfu_gt (by omega))
  have hT1 := TA_k hT (hk.tr a2)
  have hs : skN T N x ≤ N := skN_le hx
  have a3 : σ1 1 4 = nI (skN T N x) := a3
  unfold f_X7_takeToken
  rw [zst_s, a1]
  unfold f_X7_takeToken_J46
  rw [zst_s, a3, nI_1, hT1.2.1, zmin_n (by omega) (by omega)]
  have hk2 : KT σ1 (zup σ1 1 5 (nI (min (skN T N x + 1) N))) := KT_u (Or.inr rfl)
  by_cases c : skN T N x < N
  · rw [Nat.min_eq_left (show skN T N x + 1 ≤ N by omega)] at hk2 ⊢
    obtain ⟨σ2, b1, b2, b3, b4⟩ := tkL63 c (N - (skN T N x + 1)) zfu (skN T N x + 1) (zup σ1 1 5 (nI (skN T N x + 1))) (TA_k hT1 hk2) (by rw [zup_no (by decide)]; exact a3) zup_at (by omega) (zfu_gt (by omega))
    refine ⟨σ2, b1, (hk.tr a2).tr (hk2.tr b2), b3, ?_⟩
    unfold teN
    rw [if_pos c]; exact b4
  · rw [Nat.min_eq_right (show N ≤ skN T N x + 1 by omega)] at hk2 ⊢
    refine ⟨_, ?_, (hk.tr a2).tr hk2, by rw [zup_no (by decide)]; exact a3, by rw [zup_at, teN_end c]⟩
    show f_X7_takeToken_L63 (4095 + 1) _ = _
    rw [f_X7_takeToken_L63, zup_at, zup_no (by decide), hT1.2.1, if_pos (Int32.le_refl _)]
theorem lenJ {k : Nat} (hk : k < 10) (σ : zS) : f_J0_length_8abf5 (nI k) σ = some (nI (wl k), σ) := by
  unfold f_J0_length_8abf5
  rw [qcl (by omega), if_pos hk, wl_ok k hk]
theorem chaJ {k i : Nat} (hk : k < 10) (hi : i < wl k) (σ : zS) : f_J0_charAt_5068e (nI k) (nI i) σ = some (nI (wc k i), σ) := by
  have h7 := wl_7 k hk
  unfold f_J0_charAt_5068e
  rw [qcl (by omega), qcl (by omega), qti (by omega), wl_ok k hk, if_pos (by omega), wc_ok k hk i (by omega) hi]
theorem zrb0 (σ : zS) : zrb 0 σ = some (0, σ) := if_pos (by decide)
theorem zrb1 (σ : zS) : zrb 1 σ = some (1, σ) := if_pos (by decide)
theorem tiL24 {σ : zS} (hT : TA T N σ) {a k : Nat} (hk : k < 6) (h4 : σ 1 4 = nI a) (ha : a + wl k ≤ N) : ∀ (d n i : Nat), i + d = wl k → d < n → f_X7_tokenIs_L24 (nI k) n 1 (nI i) σ = some (if alD (fun i => decide (T (a + i) = wc k i)) d i = true then 1 else 0, σ)
  | 0, n + 1, i, h, _ => by
    have h7 := wl_7 k (by omega)
    rw [f_X7_tokenIs_L24, if_neg (by decide), lenJ (by omega), zbd_s, if_pos ((qle_n (by omega) (by omega)).mpr (by omega)), zrb1, alD]; rfl
  | d + 1, n + 1, i, h, hn => by
    have h2 := hT.1.1
    have h7 := wl_7 k (by omega)
    have ih := tiL24 hT hk h4 ha d n (i + 1) (by omega) (by omega)
    have ci := hT.1.2 (a + i) (by omega)
    have cw := isL_i.mp (wc_L k hk i (by omega) (by omega))
    rw [f_X7_tokenIs_L24, if_neg (by decide), lenJ (by omega), zbd_s, if_neg (by rw [qle_n (by omega) (by omega)]; omega), h4, nI_add, zrd_n (by omega) (by omega), hT.2.2 _ (by omega), chaJ (by omega) (by omega), zbd_s, nI_1, alD]
    by_cases c : T (a + i) = wc k i
    · rw [if_pos (by rw [c]), decide_eq_true c, Bool.true_and]; exact ih
    · rw [if_neg (by rw [qeq_n (by omega) (by omega)]; exact c), decide_eq_false c, Bool.false_and]
      obtain ⟨m, rfl⟩ : ∃ m, n = m + 1 := ⟨n - 1, by omega⟩
      rw [f_X7_tokenIs_L24, if_pos rfl, zrb0]; rfl
theorem tokenIsA {σ : zS} (hT : TA T N σ) {a k : Nat} (hk : k < 6) (h4 : σ 1 4 = nI a) (h5 : σ 1 5 = nI (teN T N a)) (ha : a ≤ N) : f_X7_tokenIs (nI k) σ = some (if tkIs T N a k = true then 1 else 0, σ) := by
  have h2 := hT.1.1
  have h7 := wl_7 k (by omega)
  have te := teN_le (T := T) (N := N) (a := a)
  have ge : a ≤ teN T N a := by
    by_cases c : a < N
    · have := teN_gt (T := T) c; omega
    · rw [teN_end c]; exact ha
  unfold f_X7_tokenIs tkIs
  rw [lenJ (by omega), zbd_s, h4, h5, pk_sub ge]
  by_cases c : teN T N a - a = wl k
  · rw [if_pos (by rw [c]), decide_eq_true c, Bool.true_and, ← alD_all]
    exact tiL24 hT hk h4 (by omega) (wl k) zfu 0 (by omega) (zfu_gt (by omega))
  · rw [if_neg (by rw [qeq_n (by omega) (by omega)]; exact c), decide_eq_false c, Bool.false_and]
    show f_X7_tokenIs_L24 (nI k) (4095 + 1) 0 0 σ = _
    rw [f_X7_tokenIs_L24, if_pos rfl, zrb0]; rfl
def kdF (T : Nat → Nat) (N a : Nat) : Nat → Nat → Option Nat
  | 0, _ => none
  | d + 1, k => if tkIs T N a k = true then some k else kdF T N a d (k + 1)
def eO (o : Option Nat) : Int32 := match o with
  | none => -1
  | some v => nI v
theorem wordA {k : Nat} (hk : k < 6) (σ : zS) : f_X7_wordOf (nI k) σ = some (nI k, σ) := by
  unfold f_X7_wordOf
  match k, hk with
  | 0, _ => rw [if_pos (by decide)]; rfl
  | 1, _ => rw [if_neg (by decide), if_pos (by decide)]; rfl
  | 2, _ => rw [if_neg (by decide), if_neg (by decide), if_pos (by decide)]; rfl
  | 3, _ => rw [if_neg (by decide), if_neg (by decide), if_neg (by decide), if_pos (by decide)]; rfl
  | 4, _ => rw [if_neg (by decide), if_neg (by decide), if_neg (by decide), if_neg (by decide), if_pos (by decide)]; rfl
  | 5, _ => rw [if_neg (by decide), if_neg (by decide), if_neg (by decide), if_neg (by decide), if_neg (by decide)]; rfl
  | k + 6, h => omega
theorem kindL {σ : zS} (hT : TA T N σ) {a : Nat} (h4 : σ 1 4 = nI a) (h5 : σ 1 5 = nI (teN T N a)) (ha : a ≤ N) : ∀ (d n k : Nat), k + d = 6 → d < n → f_X7_kindOfToken_L2 n (nI k) σ = some (eO (kdF T N a d k), σ)
  | 0, n + 1, k, h, _ => by
    rw [f_X7_kindOfToken_L2, if_pos (by rw [q6, qle_n (by omega) (by omega)]; omega)]; rfl
  | d + 1, n + 1, k, h, hn => by
    have ih := kindL hT h4 h5 ha d n (k + 1) (by omega) (by omega)
    rw [f_X7_kindOfToken_L2, if_neg (by rw [q6, qle_n (by omega) (by omega)]; omega), wordA (by omega), zbd_s, tokenIsA hT (by omega) h4 h5 ha, zbd_s, ifz, nI_1, kdF]
    by_cases c : tkIs T N a k = true
    · rw [if_pos c, if_pos c]; rfl
    · rw [if_neg c, if_neg c]; exact ih
theorem kindA {σ : zS} (hT : TA T N σ) {a : Nat} (h4 : σ 1 4 = nI a) (h5 : σ 1 5 = nI (teN T N a)) (ha : a ≤ N) : f_X7_kindOfToken σ = some (eO (kdF T N a 6 0), σ) := kindL hT h4 h5 ha 6 zfu 0 (by omega) (zfu_gt (by omega))
theorem numL {σ : zS} (hT : TA T N σ) {a : Nat} (hd : ∀ i, a ≤ i → i < teN T N a → isD (T i) = true) (h5 : σ 1 5 = nI (teN T N a)) (h44 : teN T N a - a ≤ 4) : ∀ (d n i : Nat), a + i + d = teN T N a → d < n → f_X7_numberOfToken_L48 n (nI (nmN (fun i => T (a + i)) i)) (nI (a + i)) σ = some (nI (nmN (fun i => T (a + i)) (teN T N a - a)), σ)
  | 0, n + 1, i, h, _ => by
    have h2 := hT.1.1
    have te := teN_le (T := T) (N := N) (a := a)
    rw [f_X7_numberOfToken_L48, h5, if_pos ((qle_n (by omega) (by omega)).mpr (by omega)), show teN T N a - a = i by omega]
  | d + 1, n + 1, i, h, hn => by
    have h2 := hT.1.1
    have te := teN_le (T := T) (N := N) (a := a)
    have ih := numL hT hd h5 h44 d n (i + 1) (by omega) (by omega)
    have c := isD_i.mp (hd (a + i) (by omega) (by omega))
    have l := nmN_lt (f := fun i => T (a + i)) (k := i) (fun j hj => hd (a + j) (by omega) (by omega))
    have p4 : 10 ^ i ≤ 10 ^ 4 := Nat.pow_le_pow_right (by omega) (by omega)
    have e4 : (10 : Nat) ^ 4 = 10000 := by decide
    rw [nmN] at ih
    rw [f_X7_numberOfToken_L48, h5, if_neg (by rw [qle_n (by omega) (by omega)]; omega), zrd_n (by omega) (by omega), hT.2.2 _ (by omega), q10, pk_mul, nI_add, q48, pk_sub (by omega), nI_1]
    rw [show 10 * nmN (fun i => T (a + i)) i + T (a + i) - 48 = 10 * nmN (fun i => T (a + i)) i + (T (a + i) - 48) by omega]
    exact ih
theorem numberA {σ : zS} (hT : TA T N σ) {a : Nat} (h4 : σ 1 4 = nI a) (h5 : σ 1 5 = nI (teN T N a)) (ha : a ≤ N) : f_X7_numberOfToken σ = some (eO (numO T N a), σ) := by
  have h2 := hT.1.1
  have te := teN_le (T := T) (N := N) (a := a)
  unfold f_X7_numberOfToken numO
  rw [hT.2.1, h4]
  by_cases c : a < N
  · have ca := hT.1.2 a c
    have gt := teN_gt (T := T) c
    rw [if_neg (by rw [qle_n (by omega) (by omega)]; omega), zrd_n (by omega) (by omega), hT.2.2 a c, isDigA ca, zbd_s, ifz]
    by_cases hd : isD (T a) = true
    · rw [if_pos hd, h5, h4, pk_sub (by omega)]
      by_cases g : teN T N a - a ≤ 4
      · rw [if_pos (by rw [q4, qle_n (by omega) (by omega)]; exact g), if_pos ⟨⟨c, hd⟩, g⟩]
        exact numL hT (fun i h1 h2 => te_D c hd h1 h2) h5 g (teN T N a - a) zfu 0 (by omega) (zfu_gt (by omega))
      · rw [if_neg (by rw [q4, qle_n (by omega) (by omega)]; exact g), if_neg (fun z => g z.2)]; rfl
    · rw [if_neg hd, if_neg (fun z => hd z.1.2)]; rfl
  · rw [if_pos ((qle_n (by omega) (by omega)).mpr (by omega)), if_neg (fun z => c z.1.1)]; rfl
/-- what a number of the form's letter may be -/
def cst (c v bf : Nat) : Bool := if c = 70 then decide (v < 9) else if c = 80 then decide (v < 10) else if c = 81 then decide (v < 10) && !decide (v = bf) else if c = 83 then decide (v ≤ 99) else if c = 87 then decide (1 ≤ v) && decide (v ≤ 999) else if c = 89 then decide (v ≤ 9999) else if c = 90 then decide (bf ≤ v) && decide (v ≤ 9999) else decide (v ≤ 999)
theorem canA2 {c v bf : Nat} (hc : c ≤ 255) (hv : v ≤ 9999) (hb : bf ≤ 9999) (σ : zS) : f_X7_canStand (nI c) (nI v) (nI bf) σ = some (if cst c v bf = true then 1 else 0, σ) := by
  have ne : ∀ m : Nat, m < 1000 → ¬ c = m → ¬ nI c = nI m := fun m hm h => by rw [qeq_n (by omega) (by omega)]; exact h
  unfold f_X7_canStand cst
  by_cases c1 : c = 70
  · rw [if_pos (by rw [c1]; rfl), if_pos c1, q9]
    by_cases g : v < 9
    · rw [if_neg (by rw [qle_n (by omega) (by omega)]; omega), decide_eq_true g]; rfl
    · rw [if_pos (by rw [qle_n (by omega) (by omega)]; omega), decide_eq_false g]; rfl
  rw [if_neg (show ¬ nI c = 70 from ne 70 (by omega) c1), if_neg c1]
  by_cases c2 : c = 80
  · rw [if_pos (by rw [c2]; rfl), if_pos c2, isPlaceA, zbd_s, zrb_if, ifc (show vd (nI v) 10 ↔ decide (v < 10) = true by unfold vd; rw [qti (by omega), decide_eq_true_eq]; omega)]
  rw [if_neg (show ¬ nI c = 80 from ne 80 (by omega) c2), if_neg c2]
  by_cases c3 : c = 81
  · rw [if_pos (by rw [c3]; rfl), if_pos c3, isPlaceA, zbd_s, ifz]
    by_cases g : v < 10
    · rw [if_pos (vd_n g (by omega)), decide_eq_true g, Bool.true_and]
      by_cases e : v = bf
      · rw [if_pos (by rw [e]), decide_eq_true e]; rfl
      · rw [if_neg (by rw [qeq_n (by omega) (by omega)]; exact e), decide_eq_false e]; rfl
    · rw [if_neg (fun z => g (by have := z.2; rw [qti (by omega)] at this; omega)), decide_eq_false g]; rfl
  rw [if_neg (show ¬ nI c = 81 from ne 81 (by omega) c3), if_neg c3]
  by_cases c4 : c = 83
  · rw [if_pos (by rw [c4]; rfl), if_pos c4, q99]
    by_cases g : v ≤ 99
    · rw [if_neg (by rw [qlt_n (by omega) (by omega)]; omega), decide_eq_true g]; rfl
    · rw [if_pos (by rw [qlt_n (by omega) (by omega)]; omega), decide_eq_false g]; rfl
  rw [if_neg (show ¬ nI c = 83 from ne 83 (by omega) c4), if_neg c4]
  by_cases c5 : c = 87
  · rw [if_pos (by rw [c5]; rfl), if_pos c5, isWithinA, zbd_s, zrb_if, ifc (show ((1 : Int32).toInt ≤ (nI v).toInt ∧ (nI v).toInt ≤ (999 : Int32).toInt) ↔ (decide (1 ≤ v) && decide (v ≤ 999)) = true by
      rw [t1, t999, qti (by omega), Bool.and_eq_true, decide_eq_true_eq, decide_eq_true_eq]; omega)]
  rw [if_neg (show ¬ nI c = 87 from ne 87 (by omega) c5), if_neg c5]
  by_cases c6 : c = 89
  · rw [if_pos (by rw [c6]; rfl), if_pos c6, q9999, if_neg (by rw [qlt_n (by omega) (by omega)]; omega), decide_eq_true hv]; rfl
  rw [if_neg (show ¬ nI c = 89 from ne 89 (by omega) c6), if_neg c6]
  by_cases c7 : c = 90
  · rw [if_pos (by rw [c7]; rfl), if_pos c7, isWithinA, zbd_s, zrb_if, ifc (show ((nI bf).toInt ≤ (nI v).toInt ∧ (nI v).toInt ≤ (9999 : Int32).toInt) ↔ (decide (bf ≤ v) && decide (v ≤ 9999)) = true by
      rw [t9999, qti (by omega), qti (by omega), Bool.and_eq_true, decide_eq_true_eq, decide_eq_true_eq]; omega)]
  rw [if_neg (show ¬ nI c = 90 from ne 90 (by omega) c7), if_neg c7, q999]
  by_cases g : v ≤ 999
  · rw [if_neg (by rw [qlt_n (by omega) (by omega)]; omega), decide_eq_true g]; rfl
  · rw [if_pos (by rw [qlt_n (by omega) (by omega)]; omega), decide_eq_false g]; rfl
end RTA
