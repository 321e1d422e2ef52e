/-! PURE: the text: lines, the model -/
section LNB
variable {T : Nat → Nat} {N : Nat}
def KM (τ τ1 : zS) : Prop := (∀ k, k ≠ 0 → k ≠ 5 → τ1 k = τ k) ∧ ∀ j, j < 8 ∨ (13 < j ∧ j ≠ 1010) → τ1 0 j = τ 0 j
theorem KM.rf (τ : zS) : KM τ τ := ⟨fun _ _ _ => rfl, fun _ _ => rfl⟩
theorem KM.tr {a b c : zS} (h1 : KM a b) (h2 : KM b c) : KM a c := ⟨fun k hk h5 => by rw [h2.1 k hk h5, h1.1 k hk h5], fun j hj => by rw [h2.2 j hj, h1.2 j hj]⟩
theorem KM_b {τ τ1 : zS} (h : KB τ τ1) : KM τ τ1 := ⟨fun k hk _ => h.1 k hk, fun j hj => h.2 j (by omega)⟩
theorem KM_5 {τ : zS} {j : Nat} {v : Int32} : KM τ (zup τ 5 j v) := ⟨fun k _ h5 => zup_ne h5, fun i _ => by rw [zup_ne (by decide)]⟩
theorem KM_13 {τ : zS} {v : Int32} : KM τ (zup τ 0 13 v) := ⟨fun k hk _ => zup_ne hk, fun i hi => zup_no (by omega)⟩
theorem TB_m {τ τ1 : zS} (h : TB T N τ) (hk : KM τ τ1) : TB T N τ1 := ⟨h.1, by rw [hk.2 6 (by omega)]; exact h.2.1, fun j hj => by rw [hk.1 4 (by decide) (by decide)]; exact h.2.2 j hj⟩
theorem failsB (τ : zS) : f_X10_fails τ = some (0, zup τ 0 13 (τ 0 9)) := rfl
theorem numO_c {a v : Nat} (h : numO T N a = some v) : (a < N ∧ isD (T a) = true) ∧ teN T N a - a ≤ 4 := by
  unfold numO at h
  split at h
  · rename_i g; exact g
  · cases h
theorem numO_nc {a : Nat} (h : numO T N a = none) : ¬ ((a < N ∧ isD (T a) = true) ∧ teN T N a - a ≤ 4) := fun z => by
  unfold numO at h
  rw [if_pos z] at h
  cases h
theorem isNumB {τ : zS} (hT : TB T N τ) {x w : Nat} (hx : x ≤ N) (h8 : τ 0 8 = nI x) (hw : w < 64) {x1 lo hi : Int32} (hx1 : x1 = nI w) {C : Nat → Bool} (cnd : ∀ v : Nat, v ≤ 9999 → ((lo.toInt ≤ (v : Int) ∧ (v : Int) ≤ hi.toInt) ↔ C v = true)) :
    (∃ v τ1, numO T N (skN T N x) = some v ∧ C v = true ∧ f_X10_isNumber x1 lo hi τ = some (1, τ1) ∧ KM τ τ1 ∧ τ1 0 8 = nI (teN T N (skN T N x)) ∧ τ1 0 9 = nI (skN T N x) ∧ τ1 5 w = nI v ∧ ∀ j, j ≠ w → τ1 5 j = τ 5 j) ∨
    ((∀ v, numO T N (skN T N x) = some v → ¬ C v = true) ∧ ∃ τ1, f_X10_isNumber x1 lo hi τ = some (0, τ1) ∧ KM τ τ1 ∧ τ1 0 13 = nI (skN T N x)) := by
  obtain ⟨τ1, a1, a2, a3, a4, a5, a6⟩ := nextB hT hx h8
  have a5 : zlg (τ1 0 10) (τ1 0 1010) = tkV T N (skN T N x) := a5
  have bad : ∃ τ2, zbd (f_X10_fails τ1) (fun v3 σ3 => zrb v3 σ3) = some (0, τ2) ∧ KM τ τ2 ∧ τ2 0 13 = nI (skN T N x) := by
    refine ⟨zup τ1 0 13 (τ1 0 9), ?_, (KM_b a2).tr KM_13, by rw [zup_at, a4]⟩
    rw [failsB, zbd_s, zrb0]
  unfold f_X10_isNumber
  rw [a1, zbd_s, hx1]
  cases e : numO T N (skN T N x) with
  | none =>
    rw [if_neg (fun z => numO_nc e (tkV_num.mp (a5.symm.trans ((lg_cmp_eq _ _).mp z))))]
    exact Or.inr ⟨fun v hv => (by cases hv), bad⟩
  | some v =>
    have hv := numO_le e
    rw [if_pos ((lg_cmp_eq _ _).mpr (a5.trans (tkV_num.mpr (numO_c e)))), a6 v e, inB, zbd_s, ifz, qti (by omega)]
    by_cases c : C v = true
    · rw [if_pos ((cnd v hv).mpr c), zwr_n hw (by omega), a6 v e]
      refine Or.inl ⟨v, zup τ1 5 w (nI v), rfl, c, rfl, (KM_b a2).tr KM_5, by rw [zup_ne (by decide)]; exact a3, by rw [zup_ne (by decide)]; exact a4, zup_at, fun j hj => ?_⟩
      rw [zup_no hj, a2.1 5 (by decide)]
    · rw [if_neg (fun z => c ((cnd v hv).mp z))]
      exact Or.inr ⟨fun u hu => (by cases hu; exact c), bad⟩
def OutB (res : Option (Int32 × zS)) (r : Nat ⊕ (Nat × List Nat)) (τ : zS) (w : Nat) : Prop := match r with
  | .inl a => ∃ τ1, res = some (0, τ1) ∧ KM τ τ1 ∧ τ1 0 13 = nI a
  | .inr q => ∃ τ1, res = some (1, τ1) ∧ KM τ τ1 ∧ τ1 0 8 = nI q.1 ∧ (∀ j, j < q.2.length → τ1 5 (w + j) = nI (q.2.getD j 0)) ∧ ∀ j, j < w → τ1 5 j = τ 5 j
theorem OutB_zrb {res : Option (Int32 × zS)} {r : Nat ⊕ (Nat × List Nat)} {τ : zS} {w : Nat} (h : OutB res r τ w) : OutB (zbd res fun v σ => zrb v σ) r τ w := by
  cases r with
  | inl a =>
    obtain ⟨τ1, h1, h2, h3⟩ := h
    exact ⟨τ1, by rw [h1, zbd_s, zrb0], h2, h3⟩
  | inr q =>
    obtain ⟨τ1, h1, h2, h3, h4, h5⟩ := h
    exact ⟨τ1, by rw [h1, zbd_s, zrb1], h2, h3, h4, h5⟩
theorem OutB_cons {res : Option (Int32 × zS)} {r : Nat ⊕ (Nat × List Nat)} {τ τ1 : zS} {w v : Nat} (hk : KM τ τ1) (hv : τ1 5 w = nI v) (ho : ∀ j, j ≠ w → τ1 5 j = τ 5 j) (h : OutB res r τ1 (w + 1)) : OutB res (rcs v r) τ w := by
  cases r with
  | inl a =>
    obtain ⟨τ2, h1, h2, h3⟩ := h
    exact ⟨τ2, h1, hk.tr h2, h3⟩
  | inr q =>
    obtain ⟨τ2, h1, h2, h3, h4, h5⟩ := h
    refine ⟨τ2, h1, hk.tr h2, h3, fun j hj => ?_, fun j hj => ?_⟩
    · cases j with
      | zero => rw [Nat.add_zero, h5 _ (by omega), hv]; rfl
      | succ j =>
        have := h4 j (Nat.lt_of_succ_lt_succ hj)
        rw [show w + (j + 1) = w + 1 + j by omega, this]; rfl
    · rw [h5 j (by omega), ho j (by omega)]
theorem stepB {τ : zS} (hT : TB T N τ) {x w : Nat} (hx : x ≤ N) (h8 : τ 0 8 = nI x) (hw : w < 64) {x1 lo hi : Int32} (hx1 : x1 = nI w) {g : Nat → Nat} {d i bf : Nat} (cnd : ∀ v : Nat, v ≤ 9999 → ((lo.toInt ≤ (v : Int) ∧ (v : Int) ≤ hi.toInt) ↔ cst (g i) v bf = true)) (K : zS → Option (Int32 × zS))
    (hK : ∀ τ1 v, v ≤ 9999 → cst (g i) v bf = true → TB T N τ1 → τ1 0 8 = nI (teN T N (skN T N x)) → τ1 5 w = nI v → OutB (K τ1) (rdI T N g d (i + 1) v (teN T N (skN T N x))) τ1 (w + 1)) :
    OutB (zbd (f_X10_isNumber x1 lo hi τ) fun v3 σ3 => if v3 = 0 then some (0, σ3) else K σ3) (rdI T N g (d + 1) i bf x) τ w := by
  rcases isNumB hT hx h8 hw hx1 cnd with ⟨v, τ1, h1, h2, h3, h4, h5, h6, h7, h9⟩ | ⟨h1, τ1, h2, h3, h4⟩
  · rw [h3, zbd_s, if_neg (by decide), rdI_s h1 h2]
    exact OutB_cons h4 h7 h9 (hK τ1 v (numO_le h1) h2 (TB_m hT h4) h5 h7)
  · rw [h2, zbd_s, if_pos rfl]
    cases e : numO T N (skN T N x) with
    | none => rw [rdI_n e]; exact ⟨τ1, rfl, h3, h4⟩
    | some v => rw [rdI_f e (h1 v e)]; exact ⟨τ1, rfl, h3, h4⟩
theorem endB {τ : zS} {x w : Nat} (h8 : τ 0 8 = nI x) {g : Nat → Nat} {i bf : Nat} : OutB (some (1, τ)) (rdI T N g 0 i bf x) τ w := ⟨τ, rfl, KM.rf τ, h8, fun j hj => absurd hj (Nat.not_lt_zero j), fun _ _ => rfl⟩
theorem lastB {τ : zS} (hT : TB T N τ) {x w : Nat} (hx : x ≤ N) (h8 : τ 0 8 = nI x) (hw : w < 64) {x1 lo hi : Int32} (hx1 : x1 = nI w) {g : Nat → Nat} {i bf : Nat} (cnd : ∀ v : Nat, v ≤ 9999 → ((lo.toInt ≤ (v : Int) ∧ (v : Int) ≤ hi.toInt) ↔ cst (g i) v bf = true)) : OutB (f_X10_isNumber x1 lo hi τ) (rdI T N g 1 i bf x) τ w := by
  rcases isNumB hT hx h8 hw hx1 cnd with ⟨v, τ1, h1, h2, h3, h4, h5, h6, h7, h9⟩ | ⟨h1, τ1, h2, h3, h4⟩
  · rw [h3, rdI_s h1 h2]
    exact OutB_cons h4 h7 h9 (endB h5)
  · rw [h2]
    cases e : numO T N (skN T N x) with
    | none => rw [rdI_n e]; exact ⟨τ1, rfl, h3, h4⟩
    | some v => rw [rdI_f e (h1 v e)]; exact ⟨τ1, rfl, h3, h4⟩
theorem cP {v bf : Nat} : cst 80 v bf = decide (v < 10) := by simp [cst]
theorem cQ {v bf : Nat} : cst 81 v bf = (decide (v < 10) && !decide (v = bf)) := by simp [cst]
theorem cF {v bf : Nat} : cst 70 v bf = decide (v < 9) := by simp [cst]
theorem cY {v bf : Nat} : cst 89 v bf = decide (v ≤ 9999) := by simp [cst]
theorem cZ {v bf : Nat} : cst 90 v bf = (decide (bf ≤ v) && decide (v ≤ 9999)) := by simp [cst]
theorem cW {v bf : Nat} : cst 87 v bf = (decide (1 ≤ v) && decide (v ≤ 999)) := by simp [cst]
theorem cS {v bf : Nat} : cst 83 v bf = decide (v ≤ 99) := by simp [cst]
theorem cM {v bf c : Nat} (h : c = 65 ∨ c = 66 ∨ c = 67 ∨ c = 77 ∨ c = 78) : cst c v bf = decide (v ≤ 999) := by
  rcases h with h | h | h | h | h <;> simp [cst, h]
theorem kP {v bf : Nat} (_ : v ≤ 9999) : (((0 : Int32).toInt ≤ (v : Int) ∧ (v : Int) ≤ (9 : Int32).toInt) ↔ cst 80 v bf = true) := by
  rw [cP, decide_eq_true_eq, t0, t9]; omega
theorem kF {v bf : Nat} (_ : v ≤ 9999) : (((0 : Int32).toInt ≤ (v : Int) ∧ (v : Int) ≤ (8 : Int32).toInt) ↔ cst 70 v bf = true) := by
  rw [cF, decide_eq_true_eq, t0, t8]; omega
theorem kY {v bf : Nat} (_ : v ≤ 9999) : (((0 : Int32).toInt ≤ (v : Int) ∧ (v : Int) ≤ (9999 : Int32).toInt) ↔ cst 89 v bf = true) := by
  rw [cY, decide_eq_true_eq, t0, t9999]; omega
theorem kZ {v bf : Nat} (hb : bf ≤ 9999) (_ : v ≤ 9999) : (((nI bf).toInt ≤ (v : Int) ∧ (v : Int) ≤ (9999 : Int32).toInt) ↔ cst 90 v bf = true) := by
  rw [cZ, Bool.and_eq_true, decide_eq_true_eq, decide_eq_true_eq, t9999, qti (by omega)]; omega
theorem kW {v bf : Nat} (_ : v ≤ 9999) : (((1 : Int32).toInt ≤ (v : Int) ∧ (v : Int) ≤ (999 : Int32).toInt) ↔ cst 87 v bf = true) := by
  rw [cW, Bool.and_eq_true, decide_eq_true_eq, decide_eq_true_eq, t1, t999]; omega
theorem kS {v bf : Nat} (_ : v ≤ 9999) : (((0 : Int32).toInt ≤ (v : Int) ∧ (v : Int) ≤ (99 : Int32).toInt) ↔ cst 83 v bf = true) := by
  rw [cS, decide_eq_true_eq, t0, t99]; omega
theorem kM {v bf c : Nat} (h : c = 65 ∨ c = 66 ∨ c = 67 ∨ c = 77 ∨ c = 78) (_ : v ≤ 9999) : (((0 : Int32).toInt ≤ (v : Int) ∧ (v : Int) ≤ (999 : Int32).toInt) ↔ cst c v bf = true) := by
  rw [cM h, decide_eq_true_eq, t0, t999]; omega
theorem isWayB {τ : zS} (hT : TB T N τ) {x at0 : Nat} (hat : at0 + 8 ≤ 64) (hx : x ≤ N) (h8 : τ 0 8 = nI x) : OutB (f_X10_isWay (nI at0) τ) (rdI T N (wc 8) 3 0 0 x) τ (at0 + 1) := by
  unfold f_X10_isWay
  refine stepB hT hx h8 (by omega) (by rw [q1, nI_add]) (fun v hv => kP hv) _ (fun τ1 p hp hc hT1 h81 h51 => ?_)
  have hp9 : p < 10 := by
    have hc' : cst 80 p 0 = true := hc
    rw [cP, decide_eq_true_eq] at hc'; exact hc'
  rcases isNumB hT1 teN_le h81 (show at0 + 1 + 1 < 64 by omega) (x1 := nI at0 + 2) (lo := 0) (hi := 9) (by rw [q2, nI_add]) (C := fun v => decide (v < 10)) (fun v hv => by rw [decide_eq_true_eq, t0, t9]; omega) with ⟨v, τ2, g1, g2, g3, g4, g5, g6, g7, g9⟩ | ⟨g1, τ2, g2, g3, g4⟩
  · have hv := numO_le g1
    rw [g3, zbd_s, if_neg (by decide), zrd_i (x := nI at0 + 1) (j := at0 + 1) (by rw [nI_1]) (by omega) (by omega), zrd_i (x := nI at0 + 2) (j := at0 + 1 + 1) (by rw [q2, nI_add]) (by omega) (by omega), g9 _ (by omega), h51, g7]
    by_cases c : p = v
    · have nc : ¬ cst (wc 8 (0 + 1)) v p = true := by
        show ¬ cst 81 v p = true
        rw [cQ, c, decide_eq_true rfl]; simp
      rw [if_pos (by rw [c]), rdI_f g1 nc, failsB, zbd_s, zrb0]
      exact ⟨_, rfl, g4.tr KM_13, by rw [zup_at, g6]⟩
    · have hc2 : cst (wc 8 (0 + 1)) v p = true := by
        show cst 81 v p = true
        have g2' : v < 10 := by simpa using g2
        rw [cQ, decide_eq_true g2', decide_eq_false (fun z => c z.symm)]; rfl
      rw [if_neg (by rw [qeq_n (by omega) (by omega)]; exact c), rdI_s g1 hc2]
      refine OutB_cons g4 g7 g9 (OutB_zrb (lastB (TB_m hT1 g4) teN_le g5 (by omega) (by rw [q3, nI_add]) (fun v hv => kM (by decide) hv)))
  · rw [g2, zbd_s, if_pos rfl]
    cases e : numO T N (skN T N (teN T N (skN T N x))) with
    | none => rw [rdI_n e]; exact ⟨τ2, rfl, g3, g4⟩
    | some v =>
      have nc : ¬ cst (wc 8 (0 + 1)) v p = true := by
        show ¬ cst 81 v p = true
        have := g1 v e
        rw [cQ, Bool.eq_false_iff.mpr this]; simp
      rw [rdI_f e nc]; exact ⟨τ2, rfl, g3, g4⟩
theorem j100B {τ : zS} (hT : TB T N τ) {x at0 k : Nat} (hk : k < 6) (hat : at0 + 8 ≤ 64) (hx : x ≤ N) (h8 : τ 0 8 = nI x) : OutB (f_X10_isLine_J100 (nI at0) (nI k) (nI at0) τ) (rdI T N (wc (fk k)) (wl (fk k)) 0 0 x) (zup τ 5 at0 (nI k)) (at0 + 1) := by
  have hT1 : TB T N (zup τ 5 at0 (nI k)) := TB_m hT KM_5
  have h81 : zup τ 5 at0 (nI k) 0 8 = nI x := by rw [zup_ne (by decide)]; exact h8
  unfold f_X10_isLine_J100
  rw [zwr_n (by omega) (by omega), zrd_n (by omega) (by omega), zup_at]
  match k, hk with
  | 0, _ =>
    rw [if_pos (by decide)]
    refine stepB hT1 hx h81 (by omega) (by rw [q1, nI_add]) (fun v hv => kP hv) _ (fun τ1 v1 l1 _ t1 p1 w1 => ?_)
    refine stepB t1 teN_le p1 (by omega) (by rw [q2, nI_add]) (fun v hv => kY hv) _ (fun τ2 v2 l2 _ t2 p2 w2 => ?_)
    rw [zrd_i (x := nI at0 + 2) (j := at0 + 1 + 1) (by rw [q2, nI_add]) (by omega) (by omega), w2]
    refine stepB t2 teN_le p2 (by omega) (by rw [q3, nI_add]) (fun v hv => kZ l2 hv) _ (fun τ3 v3 l3 _ t3 p3 w3 => ?_)
    exact stepB t3 teN_le p3 (by omega) (by rw [q4, nI_add]) (fun v hv => kW hv) _ (fun τ4 v4 l4 _ t4 p4 w4 => endB p4)
  | 1, _ =>
    rw [if_neg (by decide), if_pos (by decide)]
    refine stepB hT1 hx h81 (by omega) (by rw [q1, nI_add]) (fun v hv => kF hv) _ (fun τ1 v1 l1 _ t1 p1 w1 => ?_)
    refine stepB t1 teN_le p1 (by omega) (by rw [q2, nI_add]) (fun v hv => kP hv) _ (fun τ2 v2 l2 _ t2 p2 w2 => ?_)
    refine stepB t2 teN_le p2 (by omega) (by rw [q3, nI_add]) (fun v hv => kY hv) _ (fun τ3 v3 l3 _ t3 p3 w3 => ?_)
    refine stepB t3 teN_le p3 (by omega) (by rw [q4, nI_add]) (fun v hv => kM (by decide) hv) _ (fun τ4 v4 l4 _ t4 p4 w4 => ?_)
    refine stepB t4 teN_le p4 (by omega) (by rw [q5, nI_add]) (fun v hv => kM (by decide) hv) _ (fun τ5 v5 l5 _ t5 p5 w5 => ?_)
    refine stepB t5 teN_le p5 (by omega) (by rw [q6, nI_add]) (fun v hv => kM (by decide) hv) _ (fun τ6 v6 l6 _ t6 p6 w6 => ?_)
    exact stepB t6 teN_le p6 (by omega) (by rw [q7, nI_add]) (fun v hv => kS hv) _ (fun τ7 v7 l7 _ t7 p7 w7 => endB p7)
  | 2, _ =>
    rw [if_neg (by decide), if_neg (by decide), if_pos (by decide)]
    exact OutB_zrb (isWayB hT1 hat hx h81)
  | 3, _ =>
    rw [if_neg (by decide), if_neg (by decide), if_neg (by decide), if_pos (by decide)]
    exact OutB_zrb (isWayB hT1 hat hx h81)
  | 4, _ =>
    rw [if_neg (by decide), if_neg (by decide), if_neg (by decide), if_neg (by decide), if_pos (by decide)]
    exact OutB_zrb (lastB hT1 hx h81 (by omega) (by rw [q1, nI_add]) (fun v hv => kM (by decide) hv))
  | 5, _ =>
    rw [if_neg (by decide), if_neg (by decide), if_neg (by decide), if_neg (by decide), if_neg (by decide), if_pos (by decide)]
    exact OutB_zrb (lastB hT1 hx h81 (by omega) (by rw [q1, nI_add]) (fun v hv => kM (by decide) hv))
  | k + 6, h => omega
def OutLB (res : Option (Int32 × zS)) (r : Nat ⊕ (Nat × Nat × List Nat)) (τ : zS) (w : Nat) : Prop := match r with
  | .inl a => ∃ τ1, res = some (0, τ1) ∧ KM τ τ1 ∧ τ1 0 13 = nI a
  | .inr q => ∃ τ1, res = some (1, τ1) ∧ KM τ τ1 ∧ τ1 0 8 = nI q.1 ∧ τ1 5 w = nI q.2.1 ∧ (∀ j, j < q.2.2.length → τ1 5 (w + 1 + j) = nI (q.2.2.getD j 0)) ∧ ∀ j, j < w → τ1 5 j = τ 5 j
theorem isLineB {τ : zS} (hT : TB T N τ) {x at0 : Nat} (hat : at0 + 8 ≤ 64) (hx : x ≤ N) (h8 : τ 0 8 = nI x) : OutLB (f_X10_isLine (nI at0) τ) (lnR T N x) τ at0 := by
  obtain ⟨τ1, a1, a2, a3, a4, a5, a6⟩ := nextB hT hx h8
  have a5 : zlg (τ1 0 10) (τ1 0 1010) = tkV T N (skN T N x) := a5
  have hT1 : TB T N τ1 := TB_m hT (KM_b a2)
  have cw : ∀ k, k < 6 → ((lg_cmp (zlg (τ1 0 10) (τ1 0 1010)) (wdC k) = 0) ↔ tkIs T N (skN T N x) k = true) := fun k hk => by
    rw [lg_cmp_eq, a5, tkV_word hk]
  have ek : kdF T N (skN T N x) 6 0 = if tkIs T N (skN T N x) 0 = true then some 0 else if tkIs T N (skN T N x) 1 = true then some 1 else if tkIs T N (skN T N x) 2 = true then some 2 else if tkIs T N (skN T N x) 3 = true then some 3 else if tkIs T N (skN T N x) 4 = true then some 4 else if tkIs T N (skN T N x) 5 = true then some 5 else none := rfl
  have good : ∀ k, k < 6 → kdF T N (skN T N x) 6 0 = some k → OutLB (f_X10_isLine_J100 (nI at0) (nI k) (nI at0) τ1) (lnR T N x) τ at0 := by
    intro k hk e
    have h := j100B hT1 hk hat teN_le a3
    rw [lnR_s e]
    cases e2 : rdI T N (wc (fk k)) (wl (fk k)) 0 0 (teN T N (skN T N x)) with
    | inl a =>
      rw [e2] at h
      obtain ⟨τ2, b1, b2, b3⟩ := h
      exact ⟨τ2, b1, (KM_b a2).tr (KM_5.tr b2), b3⟩
    | inr q =>
      rw [e2] at h
      obtain ⟨τ2, b1, b2, b3, b4, b5⟩ := h
      refine ⟨τ2, b1, (KM_b a2).tr (KM_5.tr b2), b3, ?_, b4, fun j hj => ?_⟩
      · rw [b5 _ (by omega), zup_at]
      · rw [b5 j (by omega), zup_no (by omega), a2.1 5 (by decide)]
  unfold f_X10_isLine
  rw [a1, zbd_s]
  by_cases t0 : tkIs T N (skN T N x) 0 = true
  · rw [if_pos (show lg_cmp (zlg (τ1 0 10) (τ1 0 1010)) 8740067 = 0 from (cw 0 (by omega)).mpr t0)]
    exact good 0 (by omega) (by rw [ek, if_pos t0])
  rw [if_neg (show ¬ lg_cmp (zlg (τ1 0 10) (τ1 0 1010)) 8740067 = 0 from fun z => t0 ((cw 0 (by omega)).mp z))]
  by_cases t1 : tkIs T N (skN T N x) 1 = true
  · rw [if_pos (show lg_cmp (zlg (τ1 0 10) (τ1 0 1010)) 127274 = 0 from (cw 1 (by omega)).mpr t1)]
    exact good 1 (by omega) (by rw [ek, if_neg t0, if_pos t1])
  rw [if_neg (show ¬ lg_cmp (zlg (τ1 0 10) (τ1 0 1010)) 127274 = 0 from fun z => t1 ((cw 1 (by omega)).mp z))]
  by_cases t2 : tkIs T N (skN T N x) 2 = true
  · rw [if_pos (show lg_cmp (zlg (τ1 0 10) (τ1 0 1010)) 237307 = 0 from (cw 2 (by omega)).mpr t2)]
    exact good 2 (by omega) (by rw [ek, if_neg t0, if_neg t1, if_pos t2])
  rw [if_neg (show ¬ lg_cmp (zlg (τ1 0 10) (τ1 0 1010)) 237307 = 0 from fun z => t2 ((cw 2 (by omega)).mp z))]
  by_cases t3 : tkIs T N (skN T N x) 3 = true
  · rw [if_pos (show lg_cmp (zlg (τ1 0 10) (τ1 0 1010)) 50348 = 0 from (cw 3 (by omega)).mpr t3)]
    exact good 3 (by omega) (by rw [ek, if_neg t0, if_neg t1, if_neg t2, if_pos t3])
  rw [if_neg (show ¬ lg_cmp (zlg (τ1 0 10) (τ1 0 1010)) 50348 = 0 from fun z => t3 ((cw 3 (by omega)).mp z))]
  by_cases t4 : tkIs T N (skN T N x) 4 = true
  · rw [if_pos (show lg_cmp (zlg (τ1 0 10) (τ1 0 1010)) 279252 = 0 from (cw 4 (by omega)).mpr t4)]
    exact good 4 (by omega) (by rw [ek, if_neg t0, if_neg t1, if_neg t2, if_neg t3, if_pos t4])
  rw [if_neg (show ¬ lg_cmp (zlg (τ1 0 10) (τ1 0 1010)) 279252 = 0 from fun z => t4 ((cw 4 (by omega)).mp z))]
  by_cases t5 : tkIs T N (skN T N x) 5 = true
  · rw [if_pos (show lg_cmp (zlg (τ1 0 10) (τ1 0 1010)) 4419 = 0 from (cw 5 (by omega)).mpr t5)]
    exact good 5 (by omega) (by rw [ek, if_neg t0, if_neg t1, if_neg t2, if_neg t3, if_neg t4, if_pos t5])
  rw [if_neg (show ¬ lg_cmp (zlg (τ1 0 10) (τ1 0 1010)) 4419 = 0 from fun z => t5 ((cw 5 (by omega)).mp z))]
  rw [lnR_n (by rw [ek, if_neg t0, if_neg t1, if_neg t2, if_neg t3, if_neg t4, if_neg t5])]
  unfold f_X10_isLine_J100
  rw [zwr_n (by omega) (by omega), zrd_n (by omega) (by omega), zup_at, if_neg (by decide), if_neg (by decide), if_neg (by decide), if_neg (by decide), if_neg (by decide), if_neg (by decide), failsB, zbd_s, zrb0]
  exact ⟨_, rfl, (KM_b a2).tr (KM_5.tr KM_13), by rw [zup_at, zup_ne (by decide), a4]⟩
def KQ (τ τ1 : zS) : Prop := (∀ k, k ≠ 0 → k ≠ 5 → τ1 k = τ k) ∧ ∀ j, j < 8 ∨ (14 < j ∧ j ≠ 1010) → τ1 0 j = τ 0 j
theorem KQ.rf (τ : zS) : KQ τ τ := ⟨fun _ _ _ => rfl, fun _ _ => rfl⟩
theorem KQ.tr {a b c : zS} (h1 : KQ a b) (h2 : KQ b c) : KQ a c := ⟨fun k hk h5 => by rw [h2.1 k hk h5, h1.1 k hk h5], fun j hj => by rw [h2.2 j hj, h1.2 j hj]⟩
theorem KQ_m {τ τ1 : zS} (h : KM τ τ1) : KQ τ τ1 := ⟨h.1, fun j hj => h.2 j (by omega)⟩
theorem KQ_u {τ : zS} {j : Nat} {v : Int32} (h : 8 ≤ j ∧ j ≤ 14) : KQ τ (zup τ 0 j v) := ⟨fun k hk _ => zup_ne hk, fun i hi => zup_no (by omega)⟩
theorem TB_q {τ τ1 : zS} (h : TB T N τ) (hk : KQ τ τ1) : TB T N τ1 := ⟨h.1, by rw [hk.2 6 (by omega)]; exact h.2.1, fun j hj => by rw [hk.1 4 (by decide) (by decide)]; exact h.2.2 j hj⟩
def OutRB (res : Option (Int32 × zS)) (r : Nat ⊕ List (Nat × List Nat)) (τ : zS) (k : Nat) : Prop := match r with
  | .inl a => ∃ τ1, res = some (0, τ1) ∧ KQ τ τ1 ∧ τ1 0 13 = nI a
  | .inr l => ∃ τ1, res = some (1, τ1) ∧ KQ τ τ1 ∧ τ1 0 14 = nI (k + l.length) ∧ Lns (τ1 5) k l ∧ ∀ j, j < 8 * k → τ1 5 j = τ 5 j
theorem isReadStep {d : Nat} (ih : ∀ d1, d = d1 + 1 → ∀ (n k x : Nat) (τ : zS), TB T N τ → τ 0 8 = nI x → x ≤ N → τ 0 14 = nI k → k + (d1 + 1) = 8 → d1 + 2 < n → OutRB (f_X10_isRead_L12 n 1 τ) (rdL T N (d1 + 1) x) τ k) (n k x : Nat) (τ : zS) (hT : TB T N τ) (h8 : τ 0 8 = nI x) (hx : x ≤ N) (h14 : τ 0 14 = nI k) (hk : k + (d + 1) = 8) (hn : d + 2 < n) : OutRB (f_X10_isRead_L12 n 1 τ) (rdL T N (d + 1) x) τ k := by
  have h200 := hT.1.1
  obtain ⟨n, rfl⟩ : ∃ m, n = m + 1 + 1 := ⟨n - 2, by omega⟩
  have hl := isLineB (at0 := 8 * k) hT (by omega) hx h8
  rw [f_X10_isRead_L12, if_neg (by decide), h14, show 8 * nI k = nI (8 * k) by rw [q8, pk_mul]]
  cases e : lnR T N x with
  | inl a =>
    rw [e] at hl
    obtain ⟨τ1, b1, b2, b3⟩ := hl
    rw [rdL_f e, b1, zbd_s, if_pos rfl]
    exact ⟨τ1, rfl, KQ_m b2, b3⟩
  | inr q =>
    rw [e] at hl
    obtain ⟨τ1, b1, b2, b3, b4, b5, b6⟩ := hl
    obtain ⟨hq6, hqr⟩ := lnR_inv e
    have hlen : q.2.2.length ≤ 7 := by rw [rdI_len hqr]; exact wl_7 _ (fk_lt _ hq6)
    have hq1 : q.1 ≤ N := rdI_le (q := (q.1, q.2.2)) teN_le hqr
    rw [rdL_s e, b1, zbd_s, if_neg (by decide), zst_s, b2.2 14 (by omega), h14, nI_1]
    have kq : KQ τ (zup τ1 0 14 (nI (k + 1))) := (KQ_m b2).tr (KQ_u (by omega))
    have hT2 : TB T N (zup τ1 0 14 (nI (k + 1))) := TB_q hT kq
    obtain ⟨τ3, c1, c2, c3, c4, c5, c6⟩ := nextB hT2 hq1 (by rw [zup_no (by decide)]; exact b3)
    have c5 : zlg (τ3 0 10) (τ3 0 1010) = tkV T N (skN T N q.1) := c5
    have kq3 : KQ τ τ3 := kq.tr (KQ_m (KM_b c2))
    have hT3 := TB_q hT kq3
    have e14 : τ3 0 14 = nI (k + 1) := by rw [c2.2 14 (by omega), zup_at]
    have e5 : ∀ j, τ3 5 j = τ1 5 j := fun j => by rw [c2.1 5 (by decide), zup_ne (by decide)]
    have bad : tkV T N (skN T N q.1) ≠ -2 → ∃ τ4, f_X10_isRead_L12 (n + 1) 0 τ3 = some (0, τ4) ∧ KQ τ τ4 ∧ τ4 0 13 = nI (skN T N q.1) := fun hne => by
      refine ⟨zup τ3 0 13 (τ3 0 9), ?_, kq3.tr (KQ_u (by omega)), by rw [zup_at, c4]⟩
      rw [f_X10_isRead_L12, if_pos rfl, if_neg (fun z => hne (c5.symm.trans ((lg_cmp_eq _ _).mp z))), failsB, zbd_s, if_pos rfl]
    rw [c1, zbd_s]
    by_cases c : skN T N q.1 < N
    · have ne2 : tkV T N (skN T N q.1) ≠ -2 := fun z => tkV_end.mp z c
      rw [if_pos c]
      by_cases g : T (skN T N q.1) = 59
      · rw [if_pos ((lg_cmp_eq _ _).mpr (c5.trans (tkV_semi.mpr ⟨c, g⟩))), if_pos g, e14]
        by_cases z : d = 0
        · rw [if_pos z, if_pos (by rw [q8, qle_n (by omega) (by omega)]; omega)]
          exact bad ne2
        · rw [if_neg z, if_neg (by rw [q8, qle_n (by omega) (by omega)]; omega)]
          obtain ⟨d1, hd1⟩ : ∃ d1, d = d1 + 1 := ⟨d - 1, by omega⟩
          have h := ih d1 hd1 (n + 1) (k + 1) (teN T N (skN T N q.1)) τ3 hT3 c3 teN_le e14 (by omega) (by omega)
          rw [← hd1] at h
          cases e4 : rdL T N d (teN T N (skN T N q.1)) with
          | inl a =>
            rw [e4] at h
            obtain ⟨τ4, f1, f2, f3⟩ := h
            exact ⟨τ4, f1, kq3.tr f2, f3⟩
          | inr l =>
            rw [e4] at h
            obtain ⟨τ4, f1, f2, f3, f4, f5⟩ := h
            refine ⟨τ4, f1, kq3.tr f2, ?_, ⟨⟨?_, fun j hj => ?_⟩, f4⟩, fun j hj => ?_⟩
            · rw [f3, List.length_cons]; congr 1; omega
            · rw [f5 _ (by omega), e5]; exact b4
            · have hj' : j < q.2.2.length := hj
              rw [f5 _ (by omega), e5]; exact b5 j hj
            · rw [f5 j (by omega), e5, b6 j hj]
      · rw [if_neg (fun z => g (tkV_semi.mp (c5.symm.trans ((lg_cmp_eq _ _).mp z))).2), if_neg g]
        exact bad ne2
    · rw [if_neg (fun z => c (tkV_semi.mp (c5.symm.trans ((lg_cmp_eq _ _).mp z))).1), if_neg c, f_X10_isRead_L12, if_pos rfl, if_pos ((lg_cmp_eq _ _).mpr (c5.trans (tkV_end.mpr c)))]
      exact ⟨τ3, rfl, kq3, e14, ⟨⟨by rw [e5]; exact b4, fun j hj => by rw [e5]; exact b5 j hj⟩, trivial⟩, fun j hj => by rw [e5, b6 j hj]⟩
theorem isReadL (d : Nat) : ∀ (n k x : Nat) (τ : zS), TB T N τ → τ 0 8 = nI x → x ≤ N → τ 0 14 = nI k → k + (d + 1) = 8 → d + 2 < n → OutRB (f_X10_isRead_L12 n 1 τ) (rdL T N (d + 1) x) τ k := by
  induction d with
  | zero => exact isReadStep (fun d1 h => by omega)
  | succ d ih => exact isReadStep (fun d1 h => by
      have : d1 = d := by omega
      rw [this]; exact ih)
theorem isReadB {τ : zS} (hT : TB T N τ) : OutRB (f_X10_isRead τ) (rdL T N 8 0) τ 0 := by
  have kq : KQ τ (zup (zup τ 0 8 0) 0 14 0) := (KQ_u (by omega)).tr (KQ_u (by omega))
  have h := isReadL (T := T) (N := N) 7 zfu 0 0 (zup (zup τ 0 8 0) 0 14 0) (TB_q hT kq) (by rw [zup_no (by decide), zup_at]; rfl) (Nat.zero_le _) zup_at (by omega) (zfu_gt (by omega))
  have e0 : f_X10_isRead τ = f_X10_isRead_L12 zfu 1 (zup (zup τ 0 8 0) 0 14 0) := by
    unfold f_X10_isRead
    rw [zst_s, zst_s]
  rw [e0]
  cases e : rdL T N 8 0 with
  | inl a =>
    rw [e] at h
    obtain ⟨τ1, a1, a2, a3⟩ := h
    exact ⟨τ1, a1, kq.tr a2, a3⟩
  | inr l =>
    rw [e] at h
    obtain ⟨τ1, a1, a2, a3, a4, a5⟩ := h
    exact ⟨τ1, a1, kq.tr a2, a3, a4, fun j hj => absurd hj (Nat.not_lt_zero j)⟩
end LNB
section FLT
variable {S : aS} {σ τ : zS}
theorem TA_of (hA : RA σ S) (hI : Inv S) : TA (S 12) (S 11 2) σ := ⟨⟨hI.l200, fun j hj => hI.tx hj⟩, hA.len, fun j hj => hA.txt hj⟩
theorem TB_of (hB : RB τ S) (hI : Inv S) : TB (S 12) (S 11 2) τ := ⟨⟨hI.l200, fun j hj => hI.tx hj⟩, hB.len, fun j hj => hB.txt hj⟩
theorem RA_r {σ1 : zS} (hA : RA σ S) (h : KR σ σ1) : RA σ1 S := RA_keep hA (fun k hm => by
  have hall : keepA.all (fun k => decide (k ≠ 1 ∧ k ≠ 3)) = true := by decide
  have := of_decide_eq_true (List.all_eq_true.mp hall k hm)
  exact h.1 k this.1 this.2) h.2
theorem RB_q {τ1 : zS} (hB : RB τ S) (h : KQ τ τ1) : RB τ1 S := RB_keep hB (fun k hm => by
  have hall : keepB.all (fun k => decide (k ≠ 0 ∧ k ≠ 5)) = true := by decide
  have := of_decide_eq_true (List.all_eq_true.mp hall k hm)
  exact h.1 k this.1 this.2) (fun j hj => by
  have hall : [3, 4, 5, 6, 16].all (fun j => decide (j < 8 ∨ (14 < j ∧ j ≠ 1010))) = true := by decide
  have := of_decide_eq_true (List.all_eq_true.mp hall j hj)
  exact h.2 j this)
theorem ag_fault (hA : RA σ S) (hB : RB τ S) (hI : Inv S) : Ag (f_X9_fault σ) (f_X10_fault τ) S := by
  have h1 := readA (TA_of hA hI)
  have h2 := isReadB (TB_of hB hI)
  unfold f_X9_fault f_X10_fault
  cases e : rdL (S 12) (S 11 2) 8 0 with
  | inl a =>
    rw [e] at h1 h2
    obtain ⟨σ1, a1, a2⟩ := h1
    obtain ⟨τ1, b1, b2, b3⟩ := h2
    rw [a1, b1, zbd_s, zbd_s, if_pos rfl, b3]
    exact Ag.mk rfl rfl (RA_r hA a2) (RB_q hB b2) hI
  | inr l =>
    rw [e] at h1 h2
    obtain ⟨σ1, a1, a2, _⟩ := h1
    obtain ⟨τ1, b1, b2, _⟩ := h2
    rw [a1, b1, zbd_s, zbd_s, if_neg (by decide)]
    exact Ag.mk rfl rfl (RA_r hA a2) (RB_q hB b2) hI
end FLT
