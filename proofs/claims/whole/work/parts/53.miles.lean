/-! PURE: roads, the class: miles -/
/-- the nearest of those in O, with 1 more (0: none) -/
def nrN (O : Nat → Bool) (L : Nat → Nat) : Nat → Nat
  | 0 => 0
  | n + 1 => if (O n = true ∧ L n < INF) ∧ (nrN O L n = 0 ∨ L n < L (nrN O L n - 1)) then n + 1 else nrN O L n
theorem nrN_ok (O : Nat → Bool) (L : Nat → Nat) : ∀ n, (nrN O L n = 0 ∧ ∀ u, u < n → O u = true → ¬ L u < INF) ∨ (∃ x, nrN O L n = x + 1 ∧ x < n ∧ O x = true ∧ L x < INF ∧ ∀ u, u < n → O u = true → L x ≤ L u)
  | 0 => Or.inl ⟨rfl, fun u hu => absurd hu (Nat.not_lt_zero u)⟩
  | n + 1 => by
    rw [nrN]
    by_cases h : (O n = true ∧ L n < INF) ∧ (nrN O L n = 0 ∨ L n < L (nrN O L n - 1))
    · rw [if_pos h]
      refine Or.inr ⟨n, rfl, by omega, h.1.1, h.1.2, fun u hu ho => ?_⟩
      by_cases z : u = n
      · rw [z]; exact Nat.le_refl _
      · rcases nrN_ok O L n with ⟨g1, g2⟩ | ⟨x, g1, g2, g3, g4, g5⟩
        · have := g2 u (by omega) ho; omega
        · have := g5 u (by omega) ho
          rw [g1, Nat.add_sub_cancel] at h
          omega
    · rw [if_neg h]
      rcases nrN_ok O L n with ⟨g1, g2⟩ | ⟨x, g1, g2, g3, g4, g5⟩
      · refine Or.inl ⟨g1, fun u hu ho => ?_⟩
        by_cases z : u = n
        · rw [z] at ho ⊢
          exact fun w => h ⟨⟨ho, w⟩, Or.inl g1⟩
        · exact g2 u (by omega) ho
      · refine Or.inr ⟨x, g1, by omega, g3, g4, fun u hu ho => ?_⟩
        by_cases z : u = n
        · rw [z] at ho ⊢
          rw [g1, Nat.add_sub_cancel] at h
          by_cases w : L n < INF
          · by_cases w2 : L n < L x
            · exact absurd ⟨⟨ho, w⟩, Or.inr w2⟩ h
            · omega
          · omega
        · exact g5 u (by omega) ho
section MIA
variable {σ : zS} {S : aS}
theorem nearL {O : Nat → Bool} {L : Nat → Nat} (hL : ∀ p, p < 10 → σ 37 p = en (L p)) : ∀ (d n k : Nat), k + d = 10 → d < n → f_X4_nearestOf_L4 (nI (bN O 10)) n (nI (nrN O L k) - 1) (nI k) σ = some (nI (nrN O L 10) - 1, σ)
  | 0, n + 1, k, h, _ => by
    have hk : k = 10 := by omega
    subst hk
    rw [f_X4_nearestOf_L4, if_pos (by decide)]
  | d + 1, n + 1, k, h, hn => by
    have hv := INFv
    have hk : k < 10 := by omega
    have ih := nearL hL d n (k + 1) (by omega) (by omega) (O := O)
    rw [nrN] at ih
    rw [f_X4_nearestOf_L4, if_neg (by rw [q10, qle_n (by omega) (by omega)]; omega), hasBitA _ (by omega) hk, zbd_s, ifz, nI_1]
    by_cases g : O k = true
    · rw [if_pos g, zrd_n hk (by omega), hL k hk]
      by_cases f : L k < INF
      · rw [if_neg (fun z => (en_m.mp z) f)]
        rcases nrN_ok O L k with ⟨g1, _⟩ | ⟨x, g1, g2, g3, g4, g5⟩
        · rw [g1, if_pos ((nI_nm1 (by omega)).mpr rfl)]
          rw [if_pos ⟨⟨g, f⟩, Or.inl g1⟩] at ih
          rw [nI_pred] at ih
          exact ih
        · rw [g1, if_neg (fun z => by have := (nI_nm1 (by omega)).mp z; omega), nI_pred, zrd_n hk (by omega), zrd_n (by omega) (by omega), hL k hk, hL x (by omega), en_f f, en_f g4]
          rw [g1, Nat.add_sub_cancel] at ih
          by_cases w : L x ≤ L k
          · rw [if_pos ((qle_n (by omega) (by omega)).mpr w)]
            rw [if_neg (by omega), nI_pred] at ih
            exact ih
          · rw [if_neg (fun z => w ((qle_n (by omega) (by omega)).mp z))]
            rw [if_pos ⟨⟨g, f⟩, Or.inr (by omega)⟩, nI_pred] at ih
            exact ih
      · rw [if_pos (en_m.mpr f)]
        rw [if_neg (fun z => f z.1.2)] at ih
        exact ih
    · rw [if_neg g]
      rw [if_neg (fun z => g z.1.1)] at ih
      exact ih
theorem nearA {O : Nat → Bool} {L : Nat → Nat} (hL : ∀ p, p < 10 → σ 37 p = en (L p)) : f_X4_nearestOf (nI (bN O 10)) σ = some (nI (nrN O L 10) - 1, σ) := nearL hL 10 zfu 0 (by omega) (zfu_gt (by omega))
theorem milesA (hA : RA σ S) (hI : Inv S) {a b : Nat} (ha : a < 10) (hb : b < 10) {bt : Bool} {x : Int32} (hx : (x = 0) ↔ bt = false) : f_X3_milesOf (nI a) (nI b) x σ = some (nI (wN S bt a b), σ) := by
  have hw := hI.wy (j := 10 * a + b) (by omega)
  have ix : nI a * 10 + nI b = nI (10 * a + b) := by rw [q10, pk_mul, nI_add, Nat.mul_comm]
  have hbo : boN S bt (10 * a + b) ≤ 999 := by unfold boN; split <;> omega
  have hm : f_X3_milesOf (nI a) (nI b) x σ = f_X3_milesOf_J32 (nI (S 9 (10 * a + b))) (nI (boN S bt (10 * a + b))) σ := by
    unfold f_X3_milesOf boN
    rw [zrd_i ix (by omega) (by omega), hA.row 13 9 100 (by decide) (by omega)]
    by_cases z : x = 0
    · rw [if_pos z, if_neg (by rw [hx.mp z]; decide)]; rfl
    · have hbt : bt = true := by
        cases bt
        · exact absurd (hx.mpr rfl) z
        · rfl
      rw [if_neg z, if_pos hbt, zrd_i ix (by omega) (by omega), hA.row 14 10 100 (by decide) (by omega)]
  rw [hm]
  unfold f_X3_milesOf_J32 wN
  by_cases z1 : S 9 (10 * a + b) = 0
  · rw [if_pos (by rw [z1]; rfl), if_pos z1, nI_add, z1, Nat.zero_add]
  · rw [if_neg (by rw [q0, qeq_n (by omega) (by omega)]; exact z1), if_neg z1]
    by_cases z2 : boN S bt (10 * a + b) = 0
    · rw [if_pos (by rw [z2]; rfl), if_pos z2, nI_add, z2, Nat.add_zero]
    · rw [if_neg (by rw [q0, qeq_n (by omega) (by omega)]; exact z2), if_neg z2, zmin_n (by omega) (by omega)]
theorem lesE {a v : Nat} (ha : a ≤ INF) (hv : v < INF) (σ : zS) : f_X9_lesser (en a) (nI v) σ = some (en (min a v), σ) := by
  have hV := INFv
  unfold f_X9_lesser
  by_cases h : a < INF
  · rw [if_neg (fun z => en_m.mp z h), en_f h, zmin_n (by omega) (by omega), en_f (by omega)]
  · rw [if_pos (en_m.mpr h), Nat.min_eq_right (by omega), en_f hv]
/-- going on from x over O -/
def goL (S : aS) (bt : Bool) (O : Nat → Bool) (x : Nat) (L : Nat → Nat) (p : Nat) : Nat := if O p = true ∧ 0 < wN S bt x p then min (L p) (L x + wN S bt x p) else L p
theorem goOnL (hI : Inv S) {bt : Bool} {O : Nat → Bool} {x : Nat} (hx9 : x < 10) (ho : O x = false) {L : Nat → Nat} (hf : L x ≤ 100000) (hL : ∀ p, p < 10 → L p ≤ INF) {x3 : Int32} (hx : (x3 = 0) ↔ bt = false) : ∀ (d n k : Nat) (σ : zS) (M : Nat → Nat), RA σ S → (∀ p, p < 10 → σ 37 p = en (M p)) → (∀ p, p < 10 → M p = if p < k then goL S bt O x L p else L p) → k + d = 10 → d < n →
    ∃ σ1, f_X4_goOnFrom_L3 (nI x) (nI (bN O 10)) x3 n (nI k) σ = some (0, σ1) ∧ (∀ i, i ≠ 37 → σ1 i = σ i) ∧ ∀ p, p < 10 → σ1 37 p = en (goL S bt O x L p)
  | 0, n + 1, k, σ, M, hA, hM, hE, h, _ => by
    refine ⟨σ, ?_, fun _ _ => rfl, fun p hp => ?_⟩
    · rw [f_X4_goOnFrom_L3, if_pos (by rw [q10, qle_n (by omega) (by omega)]; omega)]
    · rw [hM p hp, hE p hp, if_pos (by omega)]
  | d + 1, n + 1, k, σ, M, hA, hM, hE, h, hn => by
    have hv := INFv
    have hk : k < 10 := by omega
    have hw := wN_le hI (bt := bt) hx9 hk
    have eMx : M x = L x := by
      rw [hE x hx9]
      by_cases z : x < k
      · rw [if_pos z]; unfold goL; rw [if_neg (fun w => by rw [ho] at w; cases w.1)]
      · rw [if_neg z]
    have eMk : M k = L k := by rw [hE k hk, if_neg (by omega)]
    -- what is left as it is
    have skip : goL S bt O x L k = L k → ∃ σ1, f_X4_goOnFrom_L3 (nI x) (nI (bN O 10)) x3 n (nI (k + 1)) σ = some (0, σ1) ∧ (∀ i, i ≠ 37 → σ1 i = σ i) ∧ ∀ p, p < 10 → σ1 37 p = en (goL S bt O x L p) := fun e =>
      goOnL hI hx9 ho hf hL hx d n (k + 1) σ M hA hM (fun p hp => by
        rw [hE p hp]
        by_cases z : p = k
        · rw [z, if_neg (by omega), if_pos (by omega), e]
        · by_cases w : p < k
          · rw [if_pos w, if_pos (by omega)]
          · rw [if_neg w, if_neg (by omega)]) (by omega) (by omega)
    rw [f_X4_goOnFrom_L3, if_neg (by rw [q10, qle_n (by omega) (by omega)]; omega), hasBitA _ (by omega) hk, zbd_s, ifz]
    by_cases g : O k = true
    · rw [if_pos g, milesA hA hI hx9 hk hx, zbd_s, f_X4_goOnFrom_J34, nI_1]
      by_cases w : wN S bt x k = 0
      · rw [if_pos (by rw [q0, qle_n (by omega) (by omega)]; omega)]
        exact skip (by unfold goL; rw [if_neg (by omega)])
      · have hk1 := hL k hk
        rw [if_neg (by rw [q0, qle_n (by omega) (by omega)]; omega), zrd_n hk (by omega), zrd_n hx9 (by omega), hM k hk, hM x hx9, eMx, eMk, en_f (v := L x) (by omega), nI_add, lesE hk1 (by omega), zbd_s, zwr_n hk (by omega)]
        have ego : goL S bt O x L k = min (L k) (L x + wN S bt x k) := by unfold goL; rw [if_pos ⟨g, by omega⟩]
        obtain ⟨σ1, a1, a2, a3⟩ := goOnL hI hx9 ho hf hL hx d n (k + 1) (zup σ 37 k (en (min (L k) (L x + wN S bt x k)))) (fun p => if p < k + 1 then goL S bt O x L p else L p) (RA_k hA (fun i hi => zup_ne (by omega))) (fun p hp => by
          by_cases z : p = k
          · rw [z, zup_at]
            show _ = en (if k < k + 1 then goL S bt O x L k else L k)
            rw [if_pos (by omega), ego]
          · rw [zup_no z, hM p hp, hE p hp]
            show en (if p < k then goL S bt O x L p else L p) = en (if p < k + 1 then goL S bt O x L p else L p)
            by_cases w2 : p < k
            · rw [if_pos w2, if_pos (show p < k + 1 by omega)]
            · rw [if_neg w2, if_neg (show ¬ p < k + 1 by omega)]) (fun p _ => rfl) (by omega) (by omega)
        exact ⟨σ1, a1, fun i hi => by rw [a2 i hi, zup_ne hi], a3⟩
    · rw [if_neg g, f_X4_goOnFrom_J34, if_pos (by decide), nI_1]
      exact skip (by unfold goL; rw [if_neg (fun z => g z.1)])
theorem mmL39 (hI : Inv S) {bt : Bool} {y : Option Nat} {s : Nat} (hs : s < 10) {x3 : Int32} (hx : (x3 = 0) ↔ bt = false) : ∀ (d n j : Nat) (σ : zS) (V : Nat → Bool) (L : Nat → Nat), RA σ S → DJ (eN S bt y) (wN S bt) s V L j → (∀ p, p < 10 → σ 37 p = en (L p)) → j + d = 10 → d < n →
    ∃ σ1, f_X4_measureMiles_L39 (nI (bN (lvN S y) 10)) x3 n (nI (bN (fun p => !V p) 10)) (nI j) σ = some (0, σ1) ∧ (∀ i, i ≠ 37 → σ1 i = σ i) ∧ ∀ p, p < 10 → σ1 37 p = en (Dm S bt y s p)
  | 0, n + 1, j, σ, V, L, hA, hJ, hL, h, _ => by
    have hn : ∀ u, u < 10 → V u = false → L u = INF := fun u hu hv => by
      have := cN_all (V := V) (n := 10) (by rw [hJ.cnt]; omega) u hu
      rw [hv] at this; cases this
    refine ⟨σ, ?_, fun _ _ => rfl, fun p hp => ?_⟩
    · rw [f_X4_measureMiles_L39, if_pos (by rw [q10, qle_n (by omega) (by omega)]; omega)]
    · rw [hL p hp, DJ_fin hJ (by omega) hn p hp]
  | d + 1, n + 1, j, σ, V, L, hA, hJ, hL, h, hn => by
    have hv := INFv
    rw [f_X4_measureMiles_L39, if_neg (by rw [q10, qle_n (by omega) (by omega)]; omega), nearA hL, zbd_s]
    rcases nrN_ok (fun p => !V p) L 10 with ⟨g1, g2⟩ | ⟨x, g1, g2, g3, g4, g5⟩
    · rw [g1, if_pos ((nI_nm1 (by omega)).mpr rfl)]
      refine ⟨σ, rfl, fun _ _ => rfl, fun p hp => ?_⟩
      rw [hL p hp, DJ_fin hJ (by omega) (fun u hu hvu => by
        have := g2 u hu (by rw [hvu]; rfl)
        have := hJ.inf u hu
        omega) p hp]
    · have hvx : V x = false := by simpa using g3
      rw [g1, if_neg (fun z => by have := (nI_nm1 (by omega)).mp z; omega), nI_pred, shl_one g2 (by omega), bN_ann _ _ (by omega), bN_andB _ _ (by omega)]
      have eo : (fun i => !V i && !decide (i = x)) = fun p => !djV V x p := funext fun i => by unfold djV; rw [Bool.not_or]
      obtain ⟨σ1, a1, a2, a3⟩ := goOnL hI g2 (O := fun i => (!V i && !decide (i = x)) && lvN S y i) (by simp) (L := L) (by have := hJ.bnd x g2 g4; omega) hJ.inf hx 10 zfu 0 σ L hA hL (fun p _ => by rw [if_neg (by omega)]) (by omega) (zfu_gt (by omega)) (bt := bt)
      have eg : ∀ p, p < 10 → goL S bt (fun i => (!V i && !decide (i = x)) && lvN S y i) x L p = djL (eN S bt y) (wN S bt) V L x p := fun p _ => by
        unfold goL djL eN
        refine ifc ?_
        simp only [Bool.and_eq_true, Bool.not_eq_true', decide_eq_true_eq, decide_eq_false_iff_not]
        constructor
        · rintro ⟨⟨⟨h1, h2⟩, h3⟩, h4⟩; exact ⟨⟨h1, h2⟩, h4, h3⟩
        · rintro ⟨⟨h1, h2⟩, h4, h3⟩; exact ⟨⟨⟨h1, h2⟩, h3⟩, h4⟩
      have hJ2 := DJ_step (fun a b ha hb => wN_le hI ha hb) hJ (by omega) g2 hvx g4 (fun u hu hvu => g5 u hu (by rw [hvu]; rfl)) hs
      obtain ⟨σ2, b1, b2, b3⟩ := mmL39 hI hs hx d n (j + 1) σ1 _ _ (RA_k hA (fun i hi => a2 i (by omega))) hJ2 (fun p hp => by rw [a3 p hp, eg p hp]) (by omega) (by omega)
      refine ⟨σ2, ?_, fun i hi => by rw [b2 i hi, a2 i hi], b3⟩
      unfold f_X4_goOnFrom
      show zbd (f_X4_goOnFrom_L3 (nI x) (nI (bN (fun i => (!V i && !decide (i = x)) && lvN S y i) 10)) x3 zfu (nI 0) σ) _ = _
      rw [a1, zbd_s, eo, nI_1]
      exact b1
theorem mmL3 (hI : Inv S) {bt : Bool} {y : Option Nat} {s : Nat} (hs : s < 10) {x3 : Int32} (hx : (x3 = 0) ↔ bt = false) : ∀ (d n k : Nat) (σ : zS), RA σ S → (∀ p, p < k → σ 37 p = -1) → k + d = 10 → d < n →
    ∃ σ1, f_X4_measureMiles_L3 (nI s) (nI (bN (lvN S y) 10)) x3 n (nI k) σ = some (0, σ1) ∧ (∀ i, i ≠ 37 → σ1 i = σ i) ∧ ∀ p, p < 10 → σ1 37 p = en (Dm S bt y s p)
  | 0, n + 1, k, σ, hA, hL, h, _ => by
    obtain ⟨σ1, a1, a2, a3⟩ := mmL39 hI hs hx 10 zfu 0 (zup σ 37 s 0) (fun _ => false) (fun p => if p = s then 0 else INF) (RA_k hA (fun i hi => zup_ne (by omega))) (DJ0 hs) (fun p hp => by
      by_cases z : p = s
      · rw [z, zup_at]
        show _ = en (if s = s then 0 else INF)
        rw [if_pos rfl]; rfl
      · rw [zup_no z, hL p (by omega)]
        show _ = en (if p = s then 0 else INF)
        rw [if_neg z]; rfl) (by omega) (zfu_gt (by omega)) (y := y) (bt := bt)
    refine ⟨σ1, ?_, fun i hi => by rw [a2 i hi, zup_ne hi], a3⟩
    rw [f_X4_measureMiles_L3, if_pos (by rw [q10, qle_n (by omega) (by omega)]; omega), zwr_n hs (by omega)]
    exact a1
  | d + 1, n + 1, k, σ, hA, hL, h, hn => by
    obtain ⟨σ1, a1, a2, a3⟩ := mmL3 hI hs hx d n (k + 1) (zup σ 37 k (-1)) (RA_k hA (fun i hi => zup_ne (by omega))) (fun p hp => by
      by_cases z : p = k
      · rw [z, zup_at]
      · rw [zup_no z, hL p (by omega)]) (by omega) (by omega) (y := y) (bt := bt)
    refine ⟨σ1, ?_, fun i hi => by rw [a2 i hi, zup_ne hi], a3⟩
    rw [f_X4_measureMiles_L3, if_neg (by rw [q10, qle_n (by omega) (by omega)]; omega), zwr_n (by omega) (by omega), nI_1]
    exact a1
theorem milA (hA : RA σ S) (hI : Inv S) {bt : Bool} {y : Option Nat} {s : Nat} (hs : s < 10) {x3 : Int32} (hx : (x3 = 0) ↔ bt = false) : ∃ σ1, f_X4_measureMiles (nI s) (nI (bN (lvN S y) 10)) x3 σ = some (0, σ1) ∧ RA σ1 S ∧ (∀ i, i ≠ 37 → σ1 i = σ i) ∧ ∀ p, p < 10 → σ1 37 p = en (Dm S bt y s p) := by
  obtain ⟨σ1, a1, a2, a3⟩ := mmL3 hI hs hx 10 zfu 0 σ hA (fun p hp => absurd hp (Nat.not_lt_zero p)) (by omega) (zfu_gt (by omega)) (y := y) (bt := bt)
  exact ⟨σ1, a1, RA_k hA (fun i hi => a2 i (by omega)), a2, a3⟩
theorem bt_of (x : Int32) : (x = 0) ↔ (!decide (x = 0)) = false := by simp
theorem ag_legs {τ : zS} (hA : RA σ S) (hB : RB τ S) (hI : Inv S) (x1 x2 x3 x4 x5 : Int32) : Ag (f_X9_legs x1 x2 x3 x4 x5 σ) (f_X10_legs x1 x2 x3 x4 x5 τ) S := by
  have h12 := hI.n12
  unfold f_X9_legs f_X10_legs
  rw [hasA hA hI, isBladeB hB hI, zbd_s, zbd_s, ifz, ifz, isToldA hA hI, isFlowB hB, zbd_s, zbd_s, ifz, ifz, isWithinA, inB, zbd_s, zbd_s, ifz, ifz, isWithinA, inB, zbd_s, zbd_s, ifz, ifz, t0, t1, t9999]
  by_cases h : vd x1 (S 11 3)
  · rw [if_pos h, if_pos h]
    by_cases g : tl S x2
    · rw [if_pos g, if_pos g]
      by_cases k1 : 0 ≤ x3.toInt ∧ x3.toInt ≤ 9999
      · rw [if_pos k1, if_pos k1]
        by_cases k2 : 0 ≤ x5.toInt ∧ x5.toInt ≤ 1
        · rw [if_pos k2, if_pos k2]
          obtain ⟨b, hb, rfl⟩ := vd_of h
          obtain ⟨f, hf, rfl, h4⟩ := tl_of g
          obtain ⟨z, hz⟩ : ∃ z : Nat, z = x3.toInt.toNat := ⟨_, rfl⟩
          have ex : x3 = nI z := by rw [hz]; exact qof k1.1
          have hz9 : z ≤ 9999 := by omega
          rw [ex]
          have hp9 : S 13 b ≤ 9 := (hI.bl hb).1
          have hs9 : S 5 f ≤ 9 := (hI.fl hf).2.1
          have hx := bt_of x4
          obtain ⟨τ1, b1, b2, b3, b4⟩ := layOutB hI hB (bt := !decide (x4 = 0)) (y := some z) (s := S 5 f) (by omega) (fun w hw => by cases hw; omega) hx
          obtain ⟨σ1, a1, a2, a3, a4⟩ := milA hA hI (bt := !decide (x4 = 0)) (y := some z) (s := S 5 f) (by omega) hx
          have c1 : f_X10_layOut (nI (S 5 f)) (nI z) x4 τ = some (0, τ1) := b1
          rw [zrd_n (by omega) (by omega), zrd_n (by omega) (by omega), hA.row 9 5 9 (by decide) hf, hA.row 18 13 12 (by decide) (by omega), liveA hA hI (by omega), zbd_s, zrd_i (x := 6 * nI f) (j := 6 * f) (by rw [q6, pk_mul]) (by omega) (by omega), (hB.fl hf).1, c1, zbd_s, atB (x := nI b) (y := 0) (b := b) (k := 0) (by omega) (by omega) rfl rfl, zbd_s, zbd_s, Nat.add_zero, (b2.bl hb).1]
          by_cases w : x5 = 0
          · rw [if_pos w, if_pos w, legsA hA (bt := !decide (x4 = 0)) (by omega) (by omega) hx, zbd_s, zrd_n (by omega) (by omega), (b4 _ (by omega)).1]
            exact Ag.mk rfl rfl hA b2 hI
          · rw [if_neg w, if_neg w, a1, zbd_s, zrd_n (by omega) (by omega), zrd_n (by omega) (by omega), a4 _ (by omega), (b4 _ (by omega)).2]
            exact Ag.mk rfl rfl a2 b2 hI
        · rw [if_neg k2, if_neg k2]; exact Ag.mk rfl rfl hA hB hI
      · rw [if_neg k1, if_neg k1]; exact Ag.mk rfl rfl hA hB hI
    · rw [if_neg g, if_neg g]; exact Ag.mk rfl rfl hA hB hI
  · rw [if_neg h, if_neg h]; exact Ag.mk rfl rfl hA hB hI
end MIA
