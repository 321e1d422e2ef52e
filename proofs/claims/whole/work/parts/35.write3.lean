/-! PURE: measure, blade -/
def nmv (x : Int32) (i : Nat) : Nat := ((x >>> (nI (10 * i) &&& 31)) &&& 1023).toNatClampNeg
theorem nmv_eq (x : Int32) (i : Nat) : (x >>> (nI (10 * i) &&& 31)) &&& 1023 = nI (nmv x i) ∧ nmv x i < 1024 := by
  obtain ⟨j, hj, e⟩ := pk_andE (x >>> (nI (10 * i) &&& 31)) (m := 1023) 10 rfl
  have hj2 : j < 1024 := hj
  unfold nmv
  rw [e, qcl (by omega)]
  exact ⟨rfl, hj2⟩
theorem nmv_0 (x : Int32) : x &&& 1023 = nI (nmv x 0) := by
  have h := (nmv_eq x 0).1
  rw [← h]
  show _ = (x >>> ((0 : Int32) &&& 31)) &&& 1023
  rw [sb_shr0]
theorem numberAtA (x : Int32) (i : Nat) (σ : zS) : f_X9_numberAt x (nI i) σ = some (nI (nmv x i), σ) := by
  unfold f_X9_numberAt
  rw [q10, pk_mul, (nmv_eq x i).1]
theorem gt999 {n : Nat} (h : n < 1024) : ((999 : Int32) < nI n) ↔ 999 < n := by rw [q999, qlt_n (by omega) (by omega)]
theorem ge1000 {n : Nat} (h : n < 1024) : ((1000 : Int32) ≤ nI n) ↔ 999 < n := by rw [q1000, qle_n (by omega) (by omega)]; omega
theorem amL0 (x : Int32) (σ : zS) : ∀ (d n k : Nat), k + d = 3 → d < n → f_X9_areMeasured_L10 x n 0 (nI k) σ = some (0, σ)
  | 0, n + 1, k, h, _ => by
    have hk : k = 3 := by omega
    rw [hk, f_X9_areMeasured_L10, if_pos (by decide)]
    exact if_pos (by decide)
  | d + 1, n + 1, k, h, hn => by
    rw [f_X9_areMeasured_L10, if_neg (by rw [q3, qle_n (by omega) (by omega)]; omega), if_pos rfl, nI_1]
    exact amL0 x σ d n (k + 1) (by omega) (by omega)
theorem amL1 (x : Int32) (σ : zS) : ∀ (d n k : Nat), k + d = 3 → d < n → f_X9_areMeasured_L10 x n 1 (nI k) σ = some (if (List.range d).all (fun i => decide (nmv x (k + i) ≤ 999)) then 1 else 0, σ)
  | 0, n + 1, k, h, _ => by
    have hk : k = 3 := by omega
    rw [hk, f_X9_areMeasured_L10, if_pos (by decide)]
    exact if_pos (by decide)
  | d + 1, n + 1, k, h, hn => by
    have hm := (nmv_eq x k).2
    rw [f_X9_areMeasured_L10, if_neg (by rw [q3, qle_n (by omega) (by omega)]; omega), if_neg (by decide), numberAtA, zbd_s, nI_1, List.range_succ_eq_map, List.all_cons, Nat.add_zero, List.all_map]
    have ef : ((fun i => decide (nmv x (k + i) ≤ 999)) ∘ Nat.succ) = fun i => decide (nmv x (k + 1 + i) ≤ 999) := by
      funext i
      show decide (nmv x (k + (i + 1)) ≤ 999) = _
      rw [show k + (i + 1) = k + 1 + i by omega]
    rw [ef]
    by_cases h9 : 999 < nmv x k
    · rw [if_pos ((gt999 hm).mpr h9), amL0 x σ d n (k + 1) (by omega) (by omega), if_neg (by simp; omega)]
    · rw [if_neg (fun z => h9 ((gt999 hm).mp z)), amL1 x σ d n (k + 1) (by omega) (by omega)]
      have e : decide (nmv x (k + 0) ≤ 999) = true := by simp; omega
      rw [e, Bool.true_and]
/-- three numbers that may stand -/
abbrev ok3 (x : Int32) : Prop := nmv x 0 ≤ 999 ∧ nmv x 1 ≤ 999 ∧ nmv x 2 ≤ 999
theorem areMeasuredA (x y : Int32) (σ : zS) : f_X9_areMeasured x y σ = some (if (1 ≤ y.toInt ∧ y.toInt ≤ 99) ∧ ok3 x then 1 else 0, σ) := by
  unfold f_X9_areMeasured
  rw [isWithinA, zbd_s, t1, t99]
  by_cases h : 1 ≤ y.toInt ∧ y.toInt ≤ 99
  · rw [if_pos h]
    have := amL1 x σ 3 zfu 0 (by omega) (zfu_gt (by omega))
    rw [show (0 : Int32) = nI 0 from rfl, this]
    rw [ifc (show ((List.range 3).all (fun i => decide (nmv x (0 + i) ≤ 999)) = true) ↔ (1 ≤ y.toInt ∧ y.toInt ≤ 99) ∧ ok3 x by
      simp [List.range_succ, h, and_assoc])]
    rfl
  · rw [if_neg h, if_neg (fun z => h z.1)]
    exact amL0 x σ 3 zfu 0 (by omega) (zfu_gt (by omega))
theorem areNumbersB (x : Int32) (τ : zS) : f_X10_areNumbers x τ = some (if ok3 x then 1 else 0, τ) := by
  unfold f_X10_areNumbers
  have e1 : (x >>> ((10 : Int32) &&& 31)) &&& 1023 = nI (nmv x 1) := (nmv_eq x 1).1
  have e2 : (x >>> ((20 : Int32) &&& 31)) &&& 1023 = nI (nmv x 2) := (nmv_eq x 2).1
  rw [nmv_0, e1, e2]
  have l0 := (nmv_eq x 0).2; have l1 := (nmv_eq x 1).2; have l2 := (nmv_eq x 2).2
  by_cases h0 : 999 < nmv x 0
  · rw [if_pos ((ge1000 l0).mpr h0), if_neg (by unfold ok3; omega)]
  rw [if_neg (fun z => h0 ((ge1000 l0).mp z))]
  by_cases h1 : 999 < nmv x 1
  · rw [if_pos ((ge1000 l1).mpr h1), if_neg (by unfold ok3; omega)]
  rw [if_neg (fun z => h1 ((ge1000 l1).mp z))]
  by_cases h2 : 999 < nmv x 2
  · rw [if_pos ((ge1000 l2).mpr h2), if_neg (by unfold ok3; omega)]
  rw [if_neg (fun z => h2 ((ge1000 l2).mp z)), if_pos (by unfold ok3; omega)]
/-- the class's rows behind a measuring -/
def smA (σ : zS) (b : Nat) (x y : Int32) : zS := zup (zup (zup (zup σ 19 (3 * b + 0) (nI (nmv x 0))) 19 (3 * b + 1) (nI (nmv x 1))) 19 (3 * b + 2) (nI (nmv x 2))) 20 b y
theorem setMeasuredA {b : Nat} (hb : b < 12) (x y : Int32) (σ : zS) : f_X0_setMeasured (nI b) x y σ = some (0, smA σ b x y) := by
  have ix : ∀ i, nI b * 3 + nI i = nI (3 * b + i) := fun i => by rw [q3, pk_mul, nI_add, Nat.mul_comm]
  show f_X0_setMeasured_L3 (nI b) x y (4092 + 1 + 1 + 1 + 1) (nI 0) σ = _
  rw [f_X0_setMeasured_L3, if_neg (by decide), numberAtA, zbd_s, zwr_i (ix 0) (by omega) (by omega), nI_1]
  rw [f_X0_setMeasured_L3, if_neg (by decide), numberAtA, zbd_s, zwr_i (ix 1) (by omega) (by omega), nI_1]
  rw [f_X0_setMeasured_L3, if_neg (by decide), numberAtA, zbd_s, zwr_i (ix 2) (by omega) (by omega), nI_1]
  rw [f_X0_setMeasured_L3, if_pos (by decide), zwr_n hb (by omega)]
  rfl
def smB (τ : zS) (b : Nat) (x y : Int32) : zS := zup (zup (zup (zup τ 6 (11 * b + (1 + 0)) (nI (nmv x 0))) 6 (11 * b + (1 + 1)) (nI (nmv x 1))) 6 (11 * b + (1 + 2)) (nI (nmv x 2))) 6 (11 * b + 4) y
theorem layNumbersB {b : Nat} (hb : b < 12) (x y : Int32) (τ : zS) : f_X10_layNumbers (nI b) x y τ = some (0, smB τ b x y) := by
  have ix : ∀ i, 11 * nI b + 1 + nI i = nI (11 * b + (1 + i)) := fun i => by rw [q11, q1, pk_mul, nI_add, nI_add, Nat.add_assoc]
  have iv : ∀ i, (x >>> ((10 * nI i) &&& 31)) &&& 1023 = nI (nmv x i) := fun i => by rw [q10, pk_mul, (nmv_eq x i).1]
  show f_X10_layNumbers_L3 (nI b) x y (4092 + 1 + 1 + 1 + 1) (nI 0) τ = _
  rw [f_X10_layNumbers_L3, if_neg (by decide), iv, zwr_i (ix 0) (by omega) (by omega), nI_1]
  rw [f_X10_layNumbers_L3, if_neg (by decide), iv, zwr_i (ix 1) (by omega) (by omega), nI_1]
  rw [f_X10_layNumbers_L3, if_neg (by decide), iv, zwr_i (ix 2) (by omega) (by omega), nI_1]
  rw [f_X10_layNumbers_L3, if_pos (by decide), zwr_i (x := 11 * nI b + 4) (j := 11 * b + 4) (ix1 11 b 4) (by omega) (by omega)]
  rfl
def smS (S : aS) (b : Nat) (x : Int32) (e : Nat) : aS := aup (aup (aup (aup S 14 (3 * b + 0) (nmv x 0)) 14 (3 * b + 1) (nmv x 1)) 14 (3 * b + 2) (nmv x 2)) 15 b e
theorem smS_c {S : aS} {b e c : Nat} {x : Int32} (h4 : c ≠ 14) (h5 : c ≠ 15) : smS S b x e c = S c := by
  unfold smS
  rw [aup_f h5, aup_f h4, aup_f h4, aup_f h4]
theorem RA_sm {σ : zS} {S : aS} (h : RA σ S) (b : Nat) (x : Int32) (e : Nat) : RA (smA σ b x (nI e)) (smS S b x e) :=
  RA_up (RA_up (RA_up (RA_up h 19 14 _ _ (by decide) (by decide) (by decide)) 19 14 _ _ (by decide) (by decide) (by decide)) 19 14 _ _ (by decide) (by decide) (by decide)) 20 15 _ _ (by decide) (by decide) (by decide)
theorem RB_sm {τ : zS} {S : aS} (h : RB τ S) (b : Nat) (x : Int32) (e : Nat) : RB (smB τ b x (nI e)) (smS S b x e) :=
  RB_slot (RB_slot (RB_slot (RB_slot h (by omega) (aup_lo (by omega)) (fun b1 k1 _ hk => bv_14 (by omega) b1 k1 hk)) (by omega) (aup_lo (by omega)) (fun b1 k1 _ hk => bv_14 (by omega) b1 k1 hk)) (by omega) (aup_lo (by omega)) (fun b1 k1 _ hk => bv_14 (by omega) b1 k1 hk)) (by omega) (aup_lo (by omega)) (fun b1 k1 _ hk => bv_15 b1 k1 hk)
theorem smS_14 {S : aS} {b e : Nat} {x : Int32} (hx : ok3 x) {b1 : Nat} (h : b1 ≠ b → ∀ i, i < 3 → S 14 (3 * b1 + i) ≤ 999) : ∀ i, i < 3 → smS S b x e 14 (3 * b1 + i) ≤ 999 := by
  intro i hi
  unfold smS
  unfold ok3 at hx
  rw [aup_f (c := 15) (a := 14) (by decide)]
  unfold aup
  split
  · omega
  split
  · omega
  split
  · omega
  by_cases e1 : b1 = b
  · subst e1; omega
  · exact h e1 i hi
theorem smS_15 {S : aS} {b e : Nat} {x : Int32} {b1 : Nat} : smS S b x e 15 b1 = if b1 = b then e else S 15 b1 := by
  unfold smS
  by_cases e1 : b1 = b
  · rw [if_pos e1, e1, aup_at]
  · rw [if_neg e1, aup_j e1, aup_f (c := 14) (by decide), aup_f (c := 14) (by decide), aup_f (c := 14) (by decide)]
theorem Inv_sm {S : aS} (hI : Inv S) {b e : Nat} {x : Int32} (hx : ok3 x) (he : 1 ≤ e ∧ e ≤ 99) : Inv (smS S b x e) := by
  refine Inv_bl hI (fun c hc => smS_c (by omega) (by omega)) (fun b1 hb1 => ?_) ?_ ?_
  · have hi := hI.bl hb1
    rw [smS_c (c := 13) (by decide) (by decide), smS_c (c := 16) (by decide) (by decide), smS_c (c := 17) (by decide) (by decide), smS_c (c := 18) (by decide) (by decide), smS_c (c := 19) (by decide) (by decide), smS_c (c := 20) (by decide) (by decide), smS_c (c := 21) (by decide) (by decide), smS_15]
    refine ⟨hi.1, smS_14 hx (fun _ => hi.2.1), ?_, ?_, hi.2.2.2.2⟩
    · split
      · exact he.1
      · exact hi.2.2.1
    · split
      · exact he.2
      · exact hi.2.2.2.1
  · rw [smS_c (c := 18) (by decide) (by decide), smS_c (c := 19) (by decide) (by decide)]; exact hI.fr0
  · rw [smS_c (c := 20) (by decide) (by decide)]; exact hI.rk
section MEAS
variable {σ τ : zS} {S : aS}
theorem ag_measure (hA : RA σ S) (hB : RB τ S) (hI : Inv S) (x1 x2 x3 : Int32) : ∃ S1, Ag (f_X9_measure x1 x2 x3 σ) (f_X10_measure x1 x2 x3 τ) S1 := by
  have hn := hI.n12
  simp only [f_X9_measure, f_X10_measure, hasA hA hI, isBladeB hB hI, areMeasuredA, areNumbersB, inB, zbd_s, ifz, t1, t99]
  by_cases h : vd x1 (S 11 3)
  · rw [if_pos h, if_pos h]
    by_cases g : ok3 x2
    · rw [if_pos g]
      by_cases k : 1 ≤ x3.toInt ∧ x3.toInt ≤ 99
      · rw [if_pos ⟨k, g⟩, if_pos k]
        obtain ⟨b, hb, rfl⟩ := vd_of h
        obtain ⟨e, he⟩ : ∃ e : Nat, e = x3.toInt.toNat := ⟨_, rfl⟩
        have e3 : x3 = nI e := by rw [he]; exact qof (by omega)
        rw [zrd_n (by omega) (by omega), hA.row 20 15 12 (by decide) (by omega), setMeasuredA (by omega), zbd_s, atB (x := nI b) (y := 4) (b := b) (k := 4) (by omega) (by omega) rfl rfl, zbd_s, (hB.bl hb).2.2.1, layNumbersB (by omega), zbd_s, e3]
        exact ⟨smS S b x2 e, Ag.mk rfl rfl (RA_sm hA b x2 e) (RB_sm hB b x2 e) (Inv_sm hI g (by omega))⟩
      · rw [if_neg (fun z => k z.1), if_neg k]; exact ⟨S, Ag.mk rfl rfl hA hB hI⟩
    · rw [if_neg g, if_neg (fun z => g z.2)]; exact ⟨S, Ag.mk rfl rfl hA hB hI⟩
  · rw [if_neg h, if_neg h]; exact ⟨S, Ag.mk rfl rfl hA hB hI⟩
/-- one blade more -/
theorem RA_add (h : RA σ S) (n : Nat) (hn : n = S 11 3) : RA (zup (zup (zup σ 25 n (-1)) 26 n (-1)) 17 0 (nI (n + 1))) (aup (aup (aup S 20 n 0) 21 n 0) 11 3 (n + 1)) := by
  obtain ⟨r, ⟨n1, n2, n3, n4⟩, t, f, w⟩ := h
  have hr : ∀ c, c ≠ 20 → c ≠ 21 → c ≠ 11 → aup (aup (aup S 20 n 0) 21 n 0) 11 3 (n + 1) c = S c := fun c h1 h2 h3 => by rw [aup_f h3, aup_f h2, aup_f h1]
  have hz : ∀ k, k ≠ 25 → k ≠ 26 → k ≠ 17 → zup (zup (zup σ 25 n (-1)) 26 n (-1)) 17 0 (nI (n + 1)) k = σ k := fun k h1 h2 h3 => by rw [zup_ne h3, zup_ne h2, zup_ne h1]
  have h11 : ∀ j, j ≠ 3 → aup (aup (aup S 20 n 0) 21 n 0) 11 3 (n + 1) 11 j = S 11 j := fun j hj => by rw [aup_j hj, aup_f (c := 21) (by decide), aup_f (c := 20) (by decide)]
  have h113 : aup (aup (aup S 20 n 0) 21 n 0) 11 3 (n + 1) 11 3 = n + 1 := aup_at
  refine ⟨fun q hq j hj => ?_, ⟨?_, ?_, ?_, ?_⟩, fun j hj => ?_, fun b hb => ?_, ?_⟩
  · have hall : rowsA.all (fun q => decide (q.1 ≠ 25 ∧ q.1 ≠ 26 ∧ q.1 ≠ 17 ∧ q.2.1 ≠ 20 ∧ q.2.1 ≠ 21 ∧ q.2.1 ≠ 11)) = true := by decide
    have e := of_decide_eq_true (List.all_eq_true.mp hall q hq)
    rw [hz _ e.1 e.2.1 e.2.2.1, hr _ e.2.2.2.1 e.2.2.2.2.1 e.2.2.2.2.2]; exact r q hq j hj
  · rw [hz 4 (by decide) (by decide) (by decide), h11 0 (by decide)]; exact n1
  · rw [hz 4 (by decide) (by decide) (by decide), h11 1 (by decide)]; exact n2
  · rw [hz 1 (by decide) (by decide) (by decide), h11 2 (by decide)]; exact n3
  · rw [zup_at, h113]
  · rw [h11 2 (by decide)] at hj
    rw [hz 2 (by decide) (by decide) (by decide), hr 12 (by decide) (by decide) (by decide)]; exact t j hj
  · rw [h113] at hb
    rw [aup_f (c := 11) (a := 20) (by decide), aup_f (c := 11) (a := 21) (by decide), aup_f (c := 21) (a := 20) (by decide), zup_ne (k := 17) (a := 25) (by decide), zup_ne (k := 17) (a := 26) (by decide), zup_ne (k := 26) (a := 25) (by decide)]
    by_cases e : b = n
    · rw [e, zup_at, zup_at, aup_at, aup_at]; exact ⟨rfl, rfl⟩
    · rw [zup_no e, zup_no e, aup_j e, aup_j e, zup_ne (k := 25) (a := 26) (by decide), aup_f (c := 20) (a := 21) (by decide)]
      exact f b (by omega)
  · rw [hz 15 (by decide) (by decide) (by decide), hz 16 (by decide) (by decide) (by decide), hr 9 (by decide) (by decide) (by decide), hr 10 (by decide) (by decide) (by decide)]; exact w
/-- the abstract state with one blade more -/
def adS (S : aS) (n p sz ly : Nat) (x : Int32) (e : Nat) : aS := smS (aup (aup (aup (aup (aup (aup S 13 n p) 16 n sz) 17 n ly) 20 n 0) 21 n 0) 11 3 (n + 1)) n x e
theorem ag_blade (hA : RA σ S) (hB : RB τ S) (hI : Inv S) (x1 x2 x3 x4 x5 : Int32) : ∃ S1, Ag (f_X9_blade x1 x2 x3 x4 x5 σ) (f_X10_blade x1 x2 x3 x4 x5 τ) S1 := by
  have hn := hI.n12
  simp only [f_X9_blade, f_X10_blade, isPlaceA, isPlaceB, areMeasuredA, areNumbersB, isWithinA, inB, zbd_s, ifz, t0, t1, t99, t999]
  by_cases h : vd x1 10
  · rw [if_pos h, if_pos h]
    by_cases g : ok3 x2
    · rw [if_pos g]
      by_cases k : 1 ≤ x3.toInt ∧ x3.toInt ≤ 99
      · rw [if_pos ⟨k, g⟩, if_pos k]
        by_cases c4 : 1 ≤ x4.toInt ∧ x4.toInt ≤ 999
        · rw [if_pos c4, if_pos c4]
          by_cases c5 : 0 ≤ x5.toInt ∧ x5.toInt ≤ 99
          · rw [if_pos c5, if_pos c5, hA.many, hB.many]
            by_cases hf : S 11 3 = 12
            · rw [if_neg (by rw [hf]; decide), if_pos (by rw [hf]; rfl)]; exact ⟨S, Ag.mk rfl rfl hA hB hI⟩
            · rw [if_pos (by rw [q12, qlt_n (by omega) (by omega)]; omega), if_neg (by rw [q12, qeq_n (by omega) (by omega)]; exact hf)]
              obtain ⟨n, hnS⟩ : ∃ n, n = S 11 3 := ⟨_, rfl⟩
              obtain ⟨p, hp, rfl⟩ := vd_of h
              obtain ⟨e, he⟩ : ∃ e : Nat, e = x3.toInt.toNat := ⟨_, rfl⟩
              obtain ⟨z, hz⟩ : ∃ z : Nat, z = x4.toInt.toNat := ⟨_, rfl⟩
              obtain ⟨y, hy⟩ : ∃ y : Nat, y = x5.toInt.toNat := ⟨_, rfl⟩
              have e3 : x3 = nI e := by rw [he]; exact qof (by omega)
              have e4 : x4 = nI z := by rw [hz]; exact qof (by omega)
              have e5 : x5 = nI y := by rw [hy]; exact qof c5.1
              have b3 : 1 ≤ e ∧ e ≤ 99 := by omega
              have b4 : 1 ≤ z ∧ z ≤ 999 := by omega
              have b5 : y ≤ 99 := by omega
              have hn12 : n < 12 := by omega
              have eA : f_X0_add (nI p) x4 x5 σ = some (nI n, zup (zup (zup (zup (zup (zup σ 18 n (nI p)) 21 n (nI z)) 22 n (nI y)) 25 n (-1)) 26 n (-1)) 17 0 (nI (n + 1))) := by
                unfold f_X0_add
                rw [hA.many, ← hnS, zwr_n hn12 (by omega), zwr_n hn12 (by omega), zwr_n hn12 (by omega), zwr_n hn12 (by omega), zwr_n hn12 (by omega), zst_s, zup_ne (by decide), zup_ne (by decide), zup_ne (by decide), zup_ne (by decide), zup_ne (by decide), hA.many, ← hnS, nI_1, e4, e5]
              rw [eA, zbd_s, setMeasuredA hn12, zbd_s, ← hnS]
              have ix : ∀ i, 11 * nI n + nI i = nI (11 * n + i) := fun i => ix1 11 n i
              have i0 : 11 * nI n = nI (11 * n + 0) := by rw [q11, pk_mul]; rfl
              rw [zwr_i i0 (by omega) (by omega), zup_ne (k := 6) (a := 0) (by decide), hB.many, ← hnS, layNumbersB hn12, zbd_s]
              rw [zwr_i (x := 11 * nI n + 5) (ix 5) (by omega) (by omega), zwr_i (x := 11 * nI n + 6) (ix 6) (by omega) (by omega), zwr_i (x := 11 * nI n + 7) (ix 7) (by omega) (by omega), zwr_i (x := 11 * nI n + 8) (ix 8) (by omega) (by omega), zwr_i (x := 11 * nI n + 9) (ix 9) (by omega) (by omega), zwr_i (x := 11 * nI n + 10) (ix 10) (by omega) (by omega), zst_s]
              have em : ∀ (T : zS) (i : Nat) (v : Int32), zup T 6 i v 0 = T 0 := fun T i v => zup_ne (by decide)
              have es : smB (zup τ 6 (11 * n + 0) (nI p)) n x2 x3 0 = τ 0 := by unfold smB; rw [em, em, em, em, em]
              rw [em, em, em, em, em, em, es, hB.many, ← hnS, nI_1, zup_at, nI_pred, e3, e4, e5]
              refine ⟨adS S n p z y x2 e, Ag.mk rfl rfl ?_ ?_ ?_⟩
              · unfold adS
                refine RA_sm (RA_add (RA_up (RA_up (RA_up hA 18 13 n p (by decide) (by decide) (by decide)) 21 16 n z (by decide) (by decide) (by decide)) 22 17 n y (by decide) (by decide) (by decide)) n ?_) n x2 e
                rw [aup_f (c := 17) (by decide), aup_f (c := 16) (by decide), aup_f (c := 13) (by decide)]; exact hnS
              · have h113 : adS S n p z y x2 e 11 3 = n + 1 := by unfold adS; rw [smS_c (by decide) (by decide)]; exact aup_at
                have hc : ∀ c, c < 11 ∨ c = 12 ∨ 21 < c → adS S n p z y x2 e c = S c := by
                  intro c hc
                  unfold adS
                  rw [smS_c (by omega) (by omega), aup_f (by omega), aup_f (by omega), aup_f (by omega), aup_f (by omega), aup_f (by omega), aup_f (by omega)]
                refine RB_of hB (fun k h6 h0 => ?_) (fun j hj => ?_) ?_ hc (fun j hj => ?_) (fun b k hb hk => ?_)
                · rw [zup_ne h0, zup_ne h6, zup_ne h6, zup_ne h6, zup_ne h6, zup_ne h6, zup_ne h6]
                  unfold smB
                  rw [zup_ne h6, zup_ne h6, zup_ne h6, zup_ne h6, zup_ne h6]
                · have hj16 : j ≠ 16 := by
                    simp at hj; omega
                  rw [zup_no hj16, em, em, em, em, em, em, ← e3, es]
                · rw [zup_at, h113]
                · unfold adS
                  rw [smS_c (by decide) (by decide), aup_j (by omega), aup_f (by decide), aup_f (by decide), aup_f (by decide), aup_f (by decide), aup_f (by decide)]
                · rw [h113] at hb
                  rw [zup_ne (k := 0) (a := 6) (by decide)]
                  by_cases eb : b = n
                  · subst eb
                    have h18 := hI.fr0 b (by omega) hn12
                    match k, hk with
                    | 0, _ | 1, _ | 2, _ | 3, _ | 4, _ | 5, _ | 6, _ | 9, _ | 10, _ => simp [bv, adS, smS, aup, smB, zup, zsa, upd] <;> first | done | rfl
                    | 7, _ => simp [bv, adS, smS, aup, smB, zup, zsa, upd, h18.1]; rfl
                    | 8, _ => simp [bv, adS, smS, aup, smB, zup, zsa, upd, h18.2]; rfl
                    | k + 11, h => omega
                  · have hbn : b < S 11 3 := by omega
                    rw [zup_no (by omega), zup_no (by omega), zup_no (by omega), zup_no (by omega), zup_no (by omega), zup_no (by omega)]
                    unfold smB
                    rw [zup_no (by omega), zup_no (by omega), zup_no (by omega), zup_no (by omega), zup_no (by omega), hB.slot hbn hk]
                    have d0 : 3 * b ≠ 3 * n := by omega
                    have d1 : 3 * b ≠ 3 * n + 1 := by omega
                    have d2 : 3 * b ≠ 3 * n + 2 := by omega
                    have d3 : 3 * b + 1 ≠ 3 * n := by omega
                    have d4 : 3 * b + 1 ≠ 3 * n + 2 := by omega
                    have d5 : 3 * b + 2 ≠ 3 * n := by omega
                    have d6 : 3 * b + 2 ≠ 3 * n + 1 := by omega
                    match k, hk with
                    | 0, _ | 1, _ | 2, _ | 3, _ | 4, _ | 5, _ | 6, _ | 7, _ | 8, _ | 9, _ | 10, _ => simp [bv, adS, smS, aup, eb, d0, d1, d2, d3, d4, d5, d6]
                    | k + 11, h => omega
              · obtain ⟨i1, i2, i3, i4, i5, i6, i7, i8, i9⟩ := hI
                have hc : ∀ c, c < 11 ∨ c = 12 ∨ c = 18 ∨ c = 19 ∨ 21 < c → adS S n p z y x2 e c = S c := by
                  intro c hc
                  unfold adS
                  rw [smS_c (by omega) (by omega), aup_f (by omega), aup_f (by omega), aup_f (by omega), aup_f (by omega), aup_f (by omega), aup_f (by omega)]
                have h113 : adS S n p z y x2 e 11 3 = n + 1 := by unfold adS; rw [smS_c (by decide) (by decide)]; exact aup_at
                have h11 : ∀ j, j ≠ 3 → adS S n p z y x2 e 11 j = S 11 j := by
                  intro j hj
                  unfold adS
                  rw [smS_c (by decide) (by decide), aup_j hj, aup_f (by decide), aup_f (by decide), aup_f (by decide), aup_f (by decide), aup_f (by decide)]
                have h13 : ∀ b, adS S n p z y x2 e 13 b = if b = n then p else S 13 b := by
                  intro b
                  by_cases eb : b = n <;> simp [adS, smS, aup, eb]
                have h16 : ∀ b, adS S n p z y x2 e 16 b = if b = n then z else S 16 b := by
                  intro b
                  by_cases eb : b = n <;> simp [adS, smS, aup, eb]
                have h17 : ∀ b, adS S n p z y x2 e 17 b = if b = n then y else S 17 b := by
                  intro b
                  by_cases eb : b = n <;> simp [adS, smS, aup, eb]
                have h20 : ∀ b, adS S n p z y x2 e 20 b = if b = n then 0 else S 20 b := by
                  intro b
                  by_cases eb : b = n <;> simp [adS, smS, aup, eb]
                have h21 : ∀ b, adS S n p z y x2 e 21 b = if b = n then 0 else S 21 b := by
                  intro b
                  by_cases eb : b = n <;> simp [adS, smS, aup, eb]
                refine ⟨?_, ?_, ?_, ?_, ?_, fun b hb => ?_, fun b h1 h2 => ?_, ?_, ?_⟩
                · rw [hc 1 (by omega), hc 2 (by omega), hc 3 (by omega)]; exact i1
                · rw [hc 4 (by omega), hc 5 (by omega), hc 6 (by omega), hc 7 (by omega), hc 8 (by omega)]; exact i2
                · rw [hc 9 (by omega), hc 10 (by omega)]; exact i3
                · rw [h11 0 (by decide), h11 1 (by decide), h11 2 (by decide), h113]; omega
                · rw [h11 2 (by decide), hc 12 (by omega)]; exact i5
                · rw [h113] at hb ⊢
                  rw [h13, h16, h17, h20, h21, hc 18 (by omega), hc 19 (by omega)]
                  have h15 : adS S n p z y x2 e 15 b = if b = n then e else S 15 b := by
                    by_cases eb : b = n <;> simp [adS, smS, aup, eb]
                  rw [h15]
                  have h14 : ∀ i, i < 3 → adS S n p z y x2 e 14 (3 * b + i) ≤ 999 := by
                    unfold adS
                    refine smS_14 g (fun hne i hi => ?_)
                    rw [aup_f (by decide), aup_f (by decide), aup_f (by decide), aup_f (by decide), aup_f (by decide), aup_f (by decide)]
                    exact (i6 b (by omega)).2.1 i hi
                  by_cases eb : b = n
                  · have h18 := i7 b (by omega) (by omega)
                    rw [if_pos eb, if_pos eb, if_pos eb, if_pos eb, if_pos eb, if_pos eb, h18.1, h18.2]
                    exact ⟨by omega, h14, by omega, by omega, by omega, by omega, by omega, by omega, by omega, by omega, by omega, by omega⟩
                  · have hi := i6 b (by omega)
                    rw [if_neg eb, if_neg eb, if_neg eb, if_neg eb, if_neg eb, if_neg eb]
                    exact ⟨hi.1, h14, hi.2.2.1, hi.2.2.2.1, hi.2.2.2.2.1, hi.2.2.2.2.2.1, hi.2.2.2.2.2.2.1, hi.2.2.2.2.2.2.2.1, hi.2.2.2.2.2.2.2.2.1, hi.2.2.2.2.2.2.2.2.2.1, by have := hi.2.2.2.2.2.2.2.2.2.2.1; omega, hi.2.2.2.2.2.2.2.2.2.2.2⟩
                · rw [h113] at h1
                  rw [hc 18 (by omega), hc 19 (by omega)]; exact i7 b (by omega) h2
                · rw [hc 22 (by omega), hc 23 (by omega)]; exact i8
                · obtain ⟨rk, hrk⟩ := i9
                  refine ⟨fun b => if b = n then 0 else rk b, fun b hb => ?_⟩
                  rw [h113] at hb
                  rw [h20]
                  by_cases eb : b = n
                  · simp [eb]
                  · have hb2 := hrk b (by omega)
                    have h20b := (i6 b (by omega)).2.2.2.2.2.2.2.2.2.2.1
                    simp only [if_neg eb]
                    refine ⟨hb2.1, fun hz2 => ?_⟩
                    rw [if_neg (by omega)]
                    exact hb2.2 hz2
          · rw [if_neg c5, if_neg c5]; exact ⟨S, Ag.mk rfl rfl hA hB hI⟩
        · rw [if_neg c4, if_neg c4]; exact ⟨S, Ag.mk rfl rfl hA hB hI⟩
      · rw [if_neg (fun z => k z.1), if_neg k]; exact ⟨S, Ag.mk rfl rfl hA hB hI⟩
    · rw [if_neg g, if_neg (fun z => g z.2)]; exact ⟨S, Ag.mk rfl rfl hA hB hI⟩
  · rw [if_neg h, if_neg h]; exact ⟨S, Ag.mk rfl rfl hA hB hI⟩
end MEAS
