theorem b_X8_heirloomOf_J34 (K : zK) (C : zOk zshA K RX8 cX8_heirloomOf (some .int) 5 1) (x1 : Int32) (x3 : Int32) (s0 : Int32) (σ : zS) : Zf zshA K (f_X8_heirloomOf_J34 x1 x3 s0 σ) 34 [(0, .ref (ga (kG K) 28)), (1, .int x1), (3, .int x3)] [.int s0, .ref (ga (kG K) 28)] σ := by
  unfold f_X8_heirloomOf_J34
  refine z_iload_n C dX8_heirloomOf_34 1 rfl ?_
  refine z_callVi (q := 28) (As := [.int s0, .int x1]) (st := []) C zy_X8_bound zv_X8_bound ml_X8_114 rcA_28 (by decide) (fun _ _ h => m_X8_bound h) rfl rfl (Nat.le_of_ble_eq_true rfl) dX8_heirloomOf_35 (fun v1 σ1 => ?_)
  refine z_istore (lv1 := [(4, .int v1), (0, .ref (ga (kG K) 28)), (1, .int x1), (3, .int x3)]) C dX8_heirloomOf_38 (by decide) rfl ?_
  refine z_iload C dX8_heirloomOf_40 0 rfl ?_
  refine z_aload_n C dX8_heirloomOf_42 1 rfl ?_
  refine z_iconst (v := 4) C dX8_heirloomOf_43 (by decide) ?_
  refine z_iload_n C dX8_heirloomOf_44 2 rfl ?_
  refine z_callVi (q := 28) (As := [.int 4, .int x1]) (st := [.int v1]) C zy_X8_bound zv_X8_bound ml_X8_114 rcA_28 (by decide) (fun _ _ h => m_X8_bound h) rfl rfl (Nat.le_of_ble_eq_true rfl) dX8_heirloomOf_45 (fun v2 σ2 => ?_)
  refine z_icmp_ge (tgt := 53) C dX8_heirloomOf_48 (by decide) ?_ ?_
  · refine z_iload_n C dX8_heirloomOf_53 3 rfl ?_
    refine z_aload_n C dX8_heirloomOf_54 1 rfl ?_
    refine z_iconst (v := 5) C dX8_heirloomOf_55 (by decide) ?_
    refine z_iload_n C dX8_heirloomOf_56 2 rfl ?_
    refine z_callVi (q := 28) (As := [.int 5, .int x1]) (st := [.int x3]) C zy_X8_bound zv_X8_bound ml_X8_114 rcA_28 (by decide) (fun _ _ h => m_X8_bound h) rfl rfl (Nat.le_of_ble_eq_true rfl) dX8_heirloomOf_57 (fun v3 σ3 => ?_)
    refine z_icmp_ge (tgt := 67) C dX8_heirloomOf_60 (by decide) ?_ ?_
    · refine z_iconst (v := 0) C dX8_heirloomOf_67 (by decide) ?_
      exact z_iret C dX8_heirloomOf_68
    · refine z_iconst (v := 1) C dX8_heirloomOf_63 (by decide) ?_
      refine z_goto (tgt := 68) C dX8_heirloomOf_64 (by decide) ?_
      exact z_iret C dX8_heirloomOf_68
  · refine z_iconst (v := 2) C dX8_heirloomOf_51 (by decide) ?_
    exact z_iret C dX8_heirloomOf_52
theorem b_X8_heirloomOf_J19 (K : zK) (C : zOk zshA K RX8 cX8_heirloomOf (some .int) 5 1) (x1 : Int32) (x2 : Int32) (s0 : Int32) (σ : zS) : Zf zshA K (f_X8_heirloomOf_J19 x1 x2 s0 σ) 19 [(0, .ref (ga (kG K) 28)), (1, .int x1), (2, .int x2)] [.int s0, .ref (ga (kG K) 28)] σ := by
  unfold f_X8_heirloomOf_J19
  refine z_iload_n C dX8_heirloomOf_19 1 rfl ?_
  refine z_callVi (q := 28) (As := [.int s0, .int x1]) (st := []) C zy_X8_bound zv_X8_bound ml_X8_114 rcA_28 (by decide) (fun _ _ h => m_X8_bound h) rfl rfl (Nat.le_of_ble_eq_true rfl) dX8_heirloomOf_20 (fun v1 σ1 => ?_)
  refine z_istore_n (lv1 := [(3, .int v1), (0, .ref (ga (kG K) 28)), (1, .int x1), (2, .int x2)]) C dX8_heirloomOf_23 (by decide) rfl ?_
  refine z_aload_n C dX8_heirloomOf_24 1 rfl ?_
  refine z_iload_n C dX8_heirloomOf_25 3 rfl ?_
  refine z_if_eq (tgt := 33) C dX8_heirloomOf_26 (by decide) ?_ ?_
  · refine z_iconst (v := 1) C dX8_heirloomOf_33 (by decide) ?_
    exact z_sub [1, 2, 0] rfl (b_X8_heirloomOf_J34 K C x1 v1 1 σ1)
  · refine z_iconst (v := 3) C dX8_heirloomOf_29 (by decide) ?_
    refine z_goto (tgt := 34) C dX8_heirloomOf_30 (by decide) ?_
    exact z_sub [1, 2, 0] rfl (b_X8_heirloomOf_J34 K C x1 v1 3 σ1)
theorem b_X8_heirloomOf (K : zK) (C : zOk zshA K RX8 cX8_heirloomOf (some .int) 5 1) (x1 : Int32) (σ : zS) : Zf zshA K (f_X8_heirloomOf x1 σ) 0 [(0, .ref (ga (kG K) 28)), (1, .int x1)] [] σ := by
  unfold f_X8_heirloomOf
  refine z_aload_n C dX8_heirloomOf_0 0 rfl ?_
  refine z_getR C fd_X8_15 dX8_heirloomOf_1 ?_
  refine z_iload_n C dX8_heirloomOf_4 1 rfl ?_
  refine z_callVz (q := 17) (As := [.int x1]) (st := []) C zy_X0_isReused zv_X0_isReused ml_X8_111 rcA_17 (by decide) (fun _ _ h => m_X0_isReused h) rfl rfl (Nat.le_of_ble_eq_true rfl) dX8_heirloomOf_5 (fun v1 σ1 => ?_)
  refine z_istore_n (lv1 := [(2, .int v1), (0, .ref (ga (kG K) 28)), (1, .int x1)]) C dX8_heirloomOf_8 (by decide) rfl ?_
  refine z_aload_n C dX8_heirloomOf_9 1 rfl ?_
  refine z_iload_n C dX8_heirloomOf_10 0 rfl ?_
  refine z_if_eq (tgt := 18) C dX8_heirloomOf_11 (by decide) ?_ ?_
  · refine z_iconst (v := 0) C dX8_heirloomOf_18 (by decide) ?_
    exact z_sub [1, 2, 0] rfl (b_X8_heirloomOf_J19 K C x1 v1 0 σ1)
  · refine z_iconst (v := 2) C dX8_heirloomOf_14 (by decide) ?_
    refine z_goto (tgt := 19) C dX8_heirloomOf_15 (by decide) ?_
    exact z_sub [1, 2, 0] rfl (b_X8_heirloomOf_J19 K C x1 v1 2 σ1)
theorem m_X8_heirloomOf {l : Launch} {G : zG} {x1 : Int32} {σ σ1 : zS} {r : Int32} (h : f_X8_heirloomOf x1 σ = some (r, σ1)) : zM l G zshA yX8_heirloomOf cX8_heirloomOf 5 (some .int) 1 [.ref (ga G 28), .int x1] (zov (some .int) G r) σ σ1 :=
  z_met (by decide) (Nat.le_of_ble_eq_true rfl) h (fun K _ hG C => by subst hG; exact b_X8_heirloomOf K C x1 σ)
theorem b_X9_heirloom (K : zK) (C : zOk zshA K RX9 cX9_heirloom (some .int) 2 5) (x1 : Int32) (σ : zS) : Zf zshA K (f_X9_heirloom x1 σ) 0 [(0, .ref (ga (kG K) 0)), (1, .int x1)] [] σ := by
  unfold f_X9_heirloom
  refine z_aload_n C dX9_heirloom_0 0 rfl ?_
  refine z_getR C fd_X9_26 dX9_heirloom_1 ?_
  refine z_iload_n C dX9_heirloom_4 1 rfl ?_
  refine z_callVz (q := 17) (As := [.int x1]) (st := []) C zy_X0_has zv_X0_has ml_X9_163 rcA_17 (by decide) (fun _ _ h => m_X0_has h) rfl rfl (Nat.le_of_ble_eq_true rfl) dX9_heirloom_5 (fun v1 σ1 => ?_)
  refine z_if_ne (tgt := 14) C dX9_heirloom_8 (by decide) ?_ ?_
  · refine z_bipush (v := (-2)) C dX9_heirloom_11 (by decide) ?_
    exact z_iret C dX9_heirloom_13
  · refine z_aload_n C dX9_heirloom_14 0 rfl ?_
    refine z_getR C fd_X9_44 dX9_heirloom_15 ?_
    refine z_callVz (q := 28) (As := []) (st := []) C zy_X8_settle zv_X8_settle ml_X9_207 rcA_28 (by decide) (fun _ _ h => m_X8_settle h) rfl rfl (Nat.le_of_ble_eq_true rfl) dX9_heirloom_18 (fun v2 σ2 => ?_)
    refine z_if_eq (tgt := 35) C dX9_heirloom_21 (by decide) ?_ ?_
    · refine z_iconst (v := (-1)) C dX9_heirloom_35 (by decide) ?_
      exact z_iret C dX9_heirloom_36
    · refine z_aload_n C dX9_heirloom_24 0 rfl ?_
      refine z_getR C fd_X9_44 dX9_heirloom_25 ?_
      refine z_iload_n C dX9_heirloom_28 1 rfl ?_
      refine z_callVi (q := 28) (As := [.int x1]) (st := []) C zy_X8_heirloomOf zv_X8_heirloomOf ml_X9_214 rcA_28 (by decide) (fun _ _ h => m_X8_heirloomOf h) rfl rfl (Nat.le_of_ble_eq_true rfl) dX9_heirloom_29 (fun v3 σ3 => ?_)
      refine z_goto (tgt := 36) C dX9_heirloom_32 (by decide) ?_
      exact z_iret C dX9_heirloom_36
theorem m_X9_heirloom {l : Launch} {G : zG} {x1 : Int32} {σ σ1 : zS} {r : Int32} (h : f_X9_heirloom x1 σ = some (r, σ1)) : zM l G zshA yX9_heirloom cX9_heirloom 2 (some .int) 5 [.ref (ga G 0), .int x1] (zov (some .int) G r) σ σ1 :=
  z_met (by decide) (Nat.le_of_ble_eq_true rfl) h (fun K _ hG C => by subst hG; exact b_X9_heirloom K C x1 σ)
theorem b_X5_isLikely (K : zK) (C : zOk zshA K RX5 cX5_isLikely (some .boolean) 3 1) (x1 : Int32) (x2 : Int32) (σ : zS) : Zf zshA K (f_X5_isLikely x1 x2 σ) 0 [(0, .ref (ga (kG K) 32)), (1, .int x1), (2, .int x2)] [] σ := by
  unfold f_X5_isLikely
  refine z_aload_n C dX5_isLikely_0 0 rfl ?_
  refine z_getR C fd_X5_15 dX5_isLikely_1 ?_
  refine z_getR C fd_X5_71 dX5_isLikely_4 ?_
  refine z_iload_n C dX5_isLikely_7 1 rfl ?_
  refine z_iald C sA_31 dX5_isLikely_8 (fun v1 => ?_)
  refine z_aload_n C dX5_isLikely_9 0 rfl ?_
  refine z_getR C fd_X5_15 dX5_isLikely_10 ?_
  refine z_getR C fd_X5_71 dX5_isLikely_13 ?_
  refine z_iload_n C dX5_isLikely_16 2 rfl ?_
  refine z_iald C sA_31 dX5_isLikely_17 (fun v2 => ?_)
  refine z_iand C dX5_isLikely_18 ?_
  refine z_if_eq (tgt := 59) C dX5_isLikely_19 (by decide) ?_ ?_
  · refine z_iconst (v := 0) C dX5_isLikely_59 (by decide) ?_
    exact z_zret C (by decide) dX5_isLikely_60
  · refine z_aload_n C dX5_isLikely_22 0 rfl ?_
    refine z_getR C fd_X5_9 dX5_isLikely_23 ?_
    refine z_getR C fd_X5_53 dX5_isLikely_26 ?_
    refine z_iload_n C dX5_isLikely_29 2 rfl ?_
    refine z_iald C sA_21 dX5_isLikely_30 (fun v3 => ?_)
    refine z_aload_n C dX5_isLikely_31 0 rfl ?_
    refine z_getR C fd_X5_9 dX5_isLikely_32 ?_
    refine z_getR C fd_X5_53 dX5_isLikely_35 ?_
    refine z_iload_n C dX5_isLikely_38 1 rfl ?_
    refine z_iald C sA_21 dX5_isLikely_39 (fun v4 => ?_)
    refine z_icmp_le (tgt := 59) C dX5_isLikely_40 (by decide) ?_ ?_
    · refine z_iconst (v := 0) C dX5_isLikely_59 (by decide) ?_
      exact z_zret C (by decide) dX5_isLikely_60
    · refine z_aload_n C dX5_isLikely_43 0 rfl ?_
      refine z_getR C fd_X5_9 dX5_isLikely_44 ?_
      refine z_iload_n C dX5_isLikely_47 2 rfl ?_
      refine z_iload_n C dX5_isLikely_48 1 rfl ?_
      refine z_callVz (q := 17) (As := [.int x2, .int x1]) (st := []) C zy_X0_comesFrom zv_X0_comesFrom ml_X5_74 rcA_17 (by decide) (fun _ _ h => m_X0_comesFrom h) rfl rfl (Nat.le_of_ble_eq_true rfl) dX5_isLikely_49 (fun v5 σ5 => ?_)
      refine z_if_ne (tgt := 59) C dX5_isLikely_52 (by decide) ?_ ?_
      · refine z_iconst (v := 1) C dX5_isLikely_55 (by decide) ?_
        refine z_goto (tgt := 60) C dX5_isLikely_56 (by decide) ?_
        exact z_zret C (by decide) dX5_isLikely_60
      · refine z_iconst (v := 0) C dX5_isLikely_59 (by decide) ?_
        exact z_zret C (by decide) dX5_isLikely_60
theorem m_X5_isLikely {l : Launch} {G : zG} {x1 : Int32} {x2 : Int32} {σ σ1 : zS} {r : Int32} (h : f_X5_isLikely x1 x2 σ = some (r, σ1)) : zM l G zshA yX5_isLikely cX5_isLikely 3 (some .boolean) 1 [.ref (ga G 32), .int x1, .int x2] (zov (some .boolean) G r) σ σ1 :=
  z_met (by decide) (Nat.le_of_ble_eq_true rfl) h (fun K _ hG C => by subst hG; exact b_X5_isLikely K C x1 x2 σ)
theorem b_X5_leavesWay (K : zK) (C : zOk zshA K RX5 cX5_leavesWay (some .boolean) 3 1) (x1 : Int32) (x2 : Int32) (σ : zS) : Zf zshA K (f_X5_leavesWay x1 x2 σ) 0 [(0, .ref (ga (kG K) 32)), (1, .int x1), (2, .int x2)] [] σ := by
  unfold f_X5_leavesWay
  refine z_aload_n C dX5_leavesWay_0 0 rfl ?_
  refine z_getR C fd_X5_15 dX5_leavesWay_1 ?_
  refine z_iconst (v := 0) C dX5_leavesWay_4 (by decide) ?_
  refine z_iload_n C dX5_leavesWay_5 2 rfl ?_
  refine z_callVi (q := 28) (As := [.int 0, .int x2]) (st := []) C zy_X8_bound zv_X8_bound ml_X5_77 rcA_28 (by decide) (fun _ _ h => m_X8_bound h) rfl rfl (Nat.le_of_ble_eq_true rfl) dX5_leavesWay_6 (fun v1 σ1 => ?_)
  refine z_aload_n C dX5_leavesWay_9 0 rfl ?_
  refine z_getR C fd_X5_15 dX5_leavesWay_10 ?_
  refine z_iconst (v := 1) C dX5_leavesWay_13 (by decide) ?_
  refine z_iload_n C dX5_leavesWay_14 1 rfl ?_
  refine z_callVi (q := 28) (As := [.int 1, .int x1]) (st := [.int v1]) C zy_X8_bound zv_X8_bound ml_X5_77 rcA_28 (by decide) (fun _ _ h => m_X8_bound h) rfl rfl (Nat.le_of_ble_eq_true rfl) dX5_leavesWay_15 (fun v2 σ2 => ?_)
  refine z_icmp_gt (tgt := 25) C dX5_leavesWay_18 (by decide) ?_ ?_
  · refine z_iconst (v := 0) C dX5_leavesWay_25 (by decide) ?_
    exact z_zret C (by decide) dX5_leavesWay_26
  · refine z_iconst (v := 1) C dX5_leavesWay_21 (by decide) ?_
    refine z_goto (tgt := 26) C dX5_leavesWay_22 (by decide) ?_
    exact z_zret C (by decide) dX5_leavesWay_26
theorem m_X5_leavesWay {l : Launch} {G : zG} {x1 : Int32} {x2 : Int32} {σ σ1 : zS} {r : Int32} (h : f_X5_leavesWay x1 x2 σ = some (r, σ1)) : zM l G zshA yX5_leavesWay cX5_leavesWay 3 (some .boolean) 1 [.ref (ga G 32), .int x1, .int x2] (zov (some .boolean) G r) σ σ1 :=
  z_met (by decide) (Nat.le_of_ble_eq_true rfl) h (fun K _ hG C => by subst hG; exact b_X5_leavesWay K C x1 x2 σ)
theorem b_X5_findMayFrom_L17 (K : zK) (C : zOk zshA K RX5 cX5_findMayFrom (some .int) 4 4) (x1 : Int32) : ∀ (n : Nat) (x2 : Int32) (x3 : Int32) (σ : zS), Zf zshA K (f_X5_findMayFrom_L17 x1 n x2 x3 σ) 17 [(0, .ref (ga (kG K) 32)), (1, .int x1), (2, .int x2), (3, .int x3)] [] σ := by
  intro n
  induction n with
  | zero => intro x2 x3 σ; rw [f_X5_findMayFrom_L17]; exact z_none
  | succ n ih =>
  intro x2 x3 σ
  rw [f_X5_findMayFrom_L17]
  refine z_iload_n C dX5_findMayFrom_17 3 rfl ?_
  refine z_aload_n C dX5_findMayFrom_18 0 rfl ?_
  refine z_getR C fd_X5_9 dX5_findMayFrom_19 ?_
  refine z_getI C fd_X5_38 dX5_findMayFrom_22 ?_
  refine z_icmp_ge (tgt := 58) C dX5_findMayFrom_25 (by decide) ?_ ?_
  · refine z_iload_n C dX5_findMayFrom_58 2 rfl ?_
    exact z_iret C dX5_findMayFrom_59
  · refine z_aload_n C dX5_findMayFrom_28 0 rfl ?_
    refine z_iload_n C dX5_findMayFrom_29 1 rfl ?_
    refine z_iload_n C dX5_findMayFrom_30 3 rfl ?_
    refine z_callVz (q := 32) (As := [.int x1, .int x3]) (st := []) C zy_X5_isLikely zv_X5_isLikely ml_X5_64 rcA_32 (by decide) (fun _ _ h => m_X5_isLikely h) rfl rfl (Nat.le_of_ble_eq_true rfl) dX5_findMayFrom_31 (fun v1 σ1 => ?_)
    refine z_if_eq (tgt := 52) C dX5_findMayFrom_34 (by decide) ?_ ?_
    · refine z_iinc (v := 1) (lv1 := [(3, .int (x3 + 1)), (0, .ref (ga (kG K) 32)), (1, .int x1), (2, .int x2)]) C dX5_findMayFrom_52 3 rfl (by decide) (by decide) rfl ?_
      refine z_goto (tgt := 17) C dX5_findMayFrom_55 (by decide) ?_
      exact z_sub [1, 2, 3, 0] rfl (ih x2 (x3 + 1) σ1)
    · refine z_aload_n C dX5_findMayFrom_37 0 rfl ?_
      refine z_iload_n C dX5_findMayFrom_38 1 rfl ?_
      refine z_iload_n C dX5_findMayFrom_39 3 rfl ?_
      refine z_callVz (q := 32) (As := [.int x1, .int x3]) (st := []) C zy_X5_leavesWay zv_X5_leavesWay ml_X5_68 rcA_32 (by decide) (fun _ _ h => m_X5_leavesWay h) rfl rfl (Nat.le_of_ble_eq_true rfl) dX5_findMayFrom_40 (fun v2 σ2 => ?_)
      refine z_if_eq (tgt := 52) C dX5_findMayFrom_43 (by decide) ?_ ?_
      · refine z_iinc (v := 1) (lv1 := [(3, .int (x3 + 1)), (0, .ref (ga (kG K) 32)), (1, .int x1), (2, .int x2)]) C dX5_findMayFrom_52 3 rfl (by decide) (by decide) rfl ?_
        refine z_goto (tgt := 17) C dX5_findMayFrom_55 (by decide) ?_
        exact z_sub [1, 2, 3, 0] rfl (ih x2 (x3 + 1) σ2)
      · refine z_iload_n C dX5_findMayFrom_46 2 rfl ?_
        refine z_iconst (v := 1) C dX5_findMayFrom_47 (by decide) ?_
        refine z_iload_n C dX5_findMayFrom_48 3 rfl ?_
        refine z_ishl C dX5_findMayFrom_49 ?_
        refine z_ior C dX5_findMayFrom_50 ?_
        refine z_istore_n (lv1 := [(2, .int (x2 ||| ((1 : Int32) <<< (x3 &&& 31)))), (0, .ref (ga (kG K) 32)), (1, .int x1), (3, .int x3)]) C dX5_findMayFrom_51 (by decide) rfl ?_
        refine z_iinc (v := 1) (lv1 := [(3, .int (x3 + 1)), (2, .int (x2 ||| ((1 : Int32) <<< (x3 &&& 31)))), (0, .ref (ga (kG K) 32)), (1, .int x1)]) C dX5_findMayFrom_52 3 rfl (by decide) (by decide) rfl ?_
        refine z_goto (tgt := 17) C dX5_findMayFrom_55 (by decide) ?_
        exact z_sub [2, 3, 1, 0] rfl (ih (x2 ||| ((1 : Int32) <<< (x3 &&& 31))) (x3 + 1) σ2)
theorem b_X5_findMayFrom (K : zK) (C : zOk zshA K RX5 cX5_findMayFrom (some .int) 4 4) (x1 : Int32) (σ : zS) : Zf zshA K (f_X5_findMayFrom x1 σ) 0 [(0, .ref (ga (kG K) 32)), (1, .int x1)] [] σ := by
  unfold f_X5_findMayFrom
  refine z_aload_n C dX5_findMayFrom_0 0 rfl ?_
  refine z_getR C fd_X5_15 dX5_findMayFrom_1 ?_
  refine z_iload_n C dX5_findMayFrom_4 1 rfl ?_
  refine z_callVz (q := 28) (As := [.int x1]) (st := []) C zy_X8_settleWithout zv_X8_settleWithout ml_X5_60 rcA_28 (by decide) (fun _ _ h => m_X8_settleWithout h) rfl rfl (Nat.le_of_ble_eq_true rfl) dX5_findMayFrom_5 (fun v1 σ1 => ?_)
  refine z_if_ne (tgt := 13) C dX5_findMayFrom_8 (by decide) ?_ ?_
  · refine z_iconst (v := 0) C dX5_findMayFrom_11 (by decide) ?_
    exact z_iret C dX5_findMayFrom_12
  · refine z_iconst (v := 0) C dX5_findMayFrom_13 (by decide) ?_
    refine z_istore_n (lv1 := [(2, .int 0), (0, .ref (ga (kG K) 32)), (1, .int x1)]) C dX5_findMayFrom_14 (by decide) rfl ?_
    refine z_iconst (v := 0) C dX5_findMayFrom_15 (by decide) ?_
    refine z_istore_n (lv1 := [(3, .int 0), (2, .int 0), (0, .ref (ga (kG K) 32)), (1, .int x1)]) C dX5_findMayFrom_16 (by decide) rfl ?_
    exact z_sub [2, 3, 1, 0] rfl (b_X5_findMayFrom_L17 K C x1 zfu 0 0 σ1)
theorem m_X5_findMayFrom {l : Launch} {G : zG} {x1 : Int32} {σ σ1 : zS} {r : Int32} (h : f_X5_findMayFrom x1 σ = some (r, σ1)) : zM l G zshA yX5_findMayFrom cX5_findMayFrom 4 (some .int) 4 [.ref (ga G 32), .int x1] (zov (some .int) G r) σ σ1 :=
  z_met (by decide) (Nat.le_of_ble_eq_true rfl) h (fun K _ hG C => by subst hG; exact b_X5_findMayFrom K C x1 σ)
theorem b_X5_mayBeFrom (K : zK) (C : zOk zshA K RX5 cX5_mayBeFrom (some .int) 2 5) (x1 : Int32) (σ : zS) : Zf zshA K (f_X5_mayBeFrom x1 σ) 0 [(0, .ref (ga (kG K) 32)), (1, .int x1)] [] σ := by
  unfold f_X5_mayBeFrom
  refine z_aload_n C dX5_mayBeFrom_0 0 rfl ?_
  refine z_getR C fd_X5_15 dX5_mayBeFrom_1 ?_
  refine z_callVv (q := 28) (As := []) (st := []) C zy_X8_boundByNumbers zv_X8_boundByNumbers ml_X5_29 rcA_28 (by decide) (fun _ _ h => m_X8_boundByNumbers h) rfl rfl (Nat.le_of_ble_eq_true rfl) dX5_mayBeFrom_4 (fun _ σ1 => ?_)
  refine z_aload_n C dX5_mayBeFrom_7 0 rfl ?_
  refine z_iload_n C dX5_mayBeFrom_8 1 rfl ?_
  refine z_callVi (q := 32) (As := [.int x1]) (st := []) C zy_X5_findMayFrom zv_X5_findMayFrom ml_X5_34 rcA_32 (by decide) (fun _ _ h => m_X5_findMayFrom h) rfl rfl (Nat.le_of_ble_eq_true rfl) dX5_mayBeFrom_9 (fun v2 σ2 => ?_)
  exact z_iret C dX5_mayBeFrom_12
theorem m_X5_mayBeFrom {l : Launch} {G : zG} {x1 : Int32} {σ σ1 : zS} {r : Int32} (h : f_X5_mayBeFrom x1 σ = some (r, σ1)) : zM l G zshA yX5_mayBeFrom cX5_mayBeFrom 2 (some .int) 5 [.ref (ga G 32), .int x1] (zov (some .int) G r) σ σ1 :=
  z_met (by decide) (Nat.le_of_ble_eq_true rfl) h (fun K _ hG C => by subst hG; exact b_X5_mayBeFrom K C x1 σ)
theorem b_X9_from (K : zK) (C : zOk zshA K RX9 cX9_from (some .int) 2 6) (x1 : Int32) (σ : zS) : Zf zshA K (f_X9_from x1 σ) 0 [(0, .ref (ga (kG K) 0)), (1, .int x1)] [] σ := by
  unfold f_X9_from
  refine z_aload_n C dX9_from_0 0 rfl ?_
  refine z_getR C fd_X9_26 dX9_from_1 ?_
  refine z_iload_n C dX9_from_4 1 rfl ?_
  refine z_callVz (q := 17) (As := [.int x1]) (st := []) C zy_X0_has zv_X0_has ml_X9_163 rcA_17 (by decide) (fun _ _ h => m_X0_has h) rfl rfl (Nat.le_of_ble_eq_true rfl) dX9_from_5 (fun v1 σ1 => ?_)
  refine z_if_eq (tgt := 22) C dX9_from_8 (by decide) ?_ ?_
  · refine z_bipush (v := (-2)) C dX9_from_22 (by decide) ?_
    exact z_iret C dX9_from_24
  · refine z_aload_n C dX9_from_11 0 rfl ?_
    refine z_getR C fd_X9_53 dX9_from_12 ?_
    refine z_iload_n C dX9_from_15 1 rfl ?_
    refine z_callVi (q := 32) (As := [.int x1]) (st := []) C zy_X5_mayBeFrom zv_X5_mayBeFrom ml_X9_217 rcA_32 (by decide) (fun _ _ h => m_X5_mayBeFrom h) rfl rfl (Nat.le_of_ble_eq_true rfl) dX9_from_16 (fun v2 σ2 => ?_)
    refine z_goto (tgt := 24) C dX9_from_19 (by decide) ?_
    exact z_iret C dX9_from_24
theorem m_X9_from {l : Launch} {G : zG} {x1 : Int32} {σ σ1 : zS} {r : Int32} (h : f_X9_from x1 σ = some (r, σ1)) : zM l G zshA yX9_from cX9_from 2 (some .int) 6 [.ref (ga G 0), .int x1] (zov (some .int) G r) σ σ1 :=
  z_met (by decide) (Nat.le_of_ble_eq_true rfl) h (fun K _ hG C => by subst hG; exact b_X9_from K C x1 σ)
theorem b_X5_lengthFrom_L4 (K : zK) (C : zOk zshA K RX5 cX5_lengthFrom (some .int) 4 1) (x1 : Int32) : ∀ (n : Nat) (x2 : Int32) (x3 : Int32) (σ : zS), Zf zshA K (f_X5_lengthFrom_L4 x1 n x2 x3 σ) 4 [(0, .ref (ga (kG K) 32)), (1, .int x1), (2, .int x2), (3, .int x3)] [] σ := by
  intro n
  induction n with
  | zero => intro x2 x3 σ; rw [f_X5_lengthFrom_L4]; exact z_none
  | succ n ih =>
  intro x2 x3 σ
  rw [f_X5_lengthFrom_L4]
  refine z_iload_n C dX5_lengthFrom_4 3 rfl ?_
  refine z_aload_n C dX5_lengthFrom_5 0 rfl ?_
  refine z_getR C fd_X5_9 dX5_lengthFrom_6 ?_
  refine z_getI C fd_X5_38 dX5_lengthFrom_9 ?_
  refine z_icmp_ge (tgt := 47) C dX5_lengthFrom_12 (by decide) ?_ ?_
  · refine z_iload_n C dX5_lengthFrom_47 2 rfl ?_
    exact z_iret C dX5_lengthFrom_48
  · refine z_aload_n C dX5_lengthFrom_15 0 rfl ?_
    refine z_getR C fd_X5_19 dX5_lengthFrom_16 ?_
    refine z_iload_n C dX5_lengthFrom_19 3 rfl ?_
    refine z_iald C sA_33 dX5_lengthFrom_20 (fun v1 => ?_)
    refine z_iload_n C dX5_lengthFrom_21 1 rfl ?_
    refine z_callNz (As := [.int v1, .int x1]) (st := []) C zy_X9_hasBit zs_X9_hasBit mn_X5_84 (by decide) (fun _ _ h => m_X9_hasBit h) rfl rfl (Nat.le_of_ble_eq_true rfl) dX5_lengthFrom_22 (fun v2 σ2 => ?_)
    refine z_if_eq (tgt := 41) C dX5_lengthFrom_25 (by decide) ?_ ?_
    · refine z_iinc (v := 1) (lv1 := [(3, .int (x3 + 1)), (0, .ref (ga (kG K) 32)), (1, .int x1), (2, .int x2)]) C dX5_lengthFrom_41 3 rfl (by decide) (by decide) rfl ?_
      refine z_goto (tgt := 4) C dX5_lengthFrom_44 (by decide) ?_
      exact z_sub [1, 2, 3, 0] rfl (ih x2 (x3 + 1) σ2)
    · refine z_iload_n C dX5_lengthFrom_28 2 rfl ?_
      refine z_aload_n C dX5_lengthFrom_29 0 rfl ?_
      refine z_getR C fd_X5_23 dX5_lengthFrom_30 ?_
      refine z_iload_n C dX5_lengthFrom_33 3 rfl ?_
      refine z_iald C sA_34 dX5_lengthFrom_34 (fun v3 => ?_)
      refine z_iconst (v := 1) C dX5_lengthFrom_35 (by decide) ?_
      refine z_iadd C dX5_lengthFrom_36 ?_
      refine z_mmax C ml_X5_87 zma_max_s zma_i zma_max_c (by decide) (Nat.le_of_ble_eq_true rfl) dX5_lengthFrom_37 ?_
      refine z_istore_n (lv1 := [(2, .int (zmax x2 (v3 + 1))), (0, .ref (ga (kG K) 32)), (1, .int x1), (3, .int x3)]) C dX5_lengthFrom_40 (by decide) rfl ?_
      refine z_iinc (v := 1) (lv1 := [(3, .int (x3 + 1)), (2, .int (zmax x2 (v3 + 1))), (0, .ref (ga (kG K) 32)), (1, .int x1)]) C dX5_lengthFrom_41 3 rfl (by decide) (by decide) rfl ?_
      refine z_goto (tgt := 4) C dX5_lengthFrom_44 (by decide) ?_
      exact z_sub [2, 3, 1, 0] rfl (ih (zmax x2 (v3 + 1)) (x3 + 1) σ2)
theorem b_X5_lengthFrom (K : zK) (C : zOk zshA K RX5 cX5_lengthFrom (some .int) 4 1) (x1 : Int32) (σ : zS) : Zf zshA K (f_X5_lengthFrom x1 σ) 0 [(0, .ref (ga (kG K) 32)), (1, .int x1)] [] σ := by
  unfold f_X5_lengthFrom
  refine z_iconst (v := 1) C dX5_lengthFrom_0 (by decide) ?_
  refine z_istore_n (lv1 := [(2, .int 1), (0, .ref (ga (kG K) 32)), (1, .int x1)]) C dX5_lengthFrom_1 (by decide) rfl ?_
  refine z_iconst (v := 0) C dX5_lengthFrom_2 (by decide) ?_
  refine z_istore_n (lv1 := [(3, .int 0), (2, .int 1), (0, .ref (ga (kG K) 32)), (1, .int x1)]) C dX5_lengthFrom_3 (by decide) rfl ?_
  exact z_sub [2, 3, 1, 0] rfl (b_X5_lengthFrom_L4 K C x1 zfu 1 0 σ)
theorem m_X5_lengthFrom {l : Launch} {G : zG} {x1 : Int32} {σ σ1 : zS} {r : Int32} (h : f_X5_lengthFrom x1 σ = some (r, σ1)) : zM l G zshA yX5_lengthFrom cX5_lengthFrom 4 (some .int) 1 [.ref (ga G 32), .int x1] (zov (some .int) G r) σ σ1 :=
  z_met (by decide) (Nat.le_of_ble_eq_true rfl) h (fun K _ hG C => by subst hG; exact b_X5_lengthFrom K C x1 σ)
theorem b_X5_measureRows_J82 (K : zK) (C : zOk zshA K RX5 cX5_measureRows none 5 2) (x2 : Int32) (x3 : Int32) (x4 : Int32) (s0 : Int32) (k44 : Int32 → Int32 → zS → Option (Int32 × zS)) (hk44 : ∀ (x1 : Int32) (x3 : Int32) (σ : zS), Zf zshA K (k44 x1 x3 σ) 44 [(0, .ref (ga (kG K) 32)), (1, .int x1), (2, .int x2), (3, .int x3)] [] σ) (σ : zS) : Zf zshA K (f_X5_measureRows_J82 k44 x2 x3 x4 s0 σ) 82 [(0, .ref (ga (kG K) 32)), (2, .int x2), (3, .int x3), (4, .int x4)] [.int s0] σ := by
  unfold f_X5_measureRows_J82
  refine z_istore_n (lv1 := [(1, .int s0), (0, .ref (ga (kG K) 32)), (2, .int x2), (3, .int x3), (4, .int x4)]) C dX5_measureRows_82 (by decide) rfl ?_
  refine z_aload_n C dX5_measureRows_83 1 rfl ?_
  refine z_getR C fd_X5_23 dX5_measureRows_84 ?_
  refine z_iload_n C dX5_measureRows_87 3 rfl ?_
  refine z_iload C dX5_measureRows_88 4 rfl ?_
  refine z_iast C sA_34 dX5_measureRows_90 (fun σ1 => ?_)
  refine z_iinc (v := 1) (lv1 := [(3, .int (x3 + 1)), (1, .int s0), (0, .ref (ga (kG K) 32)), (2, .int x2), (4, .int x4)]) C dX5_measureRows_91 3 rfl (by decide) (by decide) rfl ?_
  refine z_goto (tgt := 44) C dX5_measureRows_94 (by decide) ?_
  exact z_sub [2, 1, 3, 0] rfl (hk44 s0 (x3 + 1) σ1)
theorem b_X5_measureRows_L44 (K : zK) (C : zOk zshA K RX5 cX5_measureRows none 5 2) (x2 : Int32) (k30 : Int32 → Int32 → zS → Option (Int32 × zS)) (hk30 : ∀ (x1 : Int32) (x2 : Int32) (σ : zS), Zf zshA K (k30 x1 x2 σ) 30 [(0, .ref (ga (kG K) 32)), (1, .int x1), (2, .int x2)] [] σ) : ∀ (n : Nat) (x1 : Int32) (x3 : Int32) (σ : zS), Zf zshA K (f_X5_measureRows_L44 k30 x2 n x1 x3 σ) 44 [(0, .ref (ga (kG K) 32)), (1, .int x1), (2, .int x2), (3, .int x3)] [] σ := by
  intro n
  induction n with
  | zero => intro x1 x3 σ; rw [f_X5_measureRows_L44]; exact z_none
  | succ n ih =>
  intro x1 x3 σ
  rw [f_X5_measureRows_L44]
  refine z_iload_n C dX5_measureRows_44 3 rfl ?_
  refine z_aload_n C dX5_measureRows_45 0 rfl ?_
  refine z_getR C fd_X5_9 dX5_measureRows_46 ?_
  refine z_getI C fd_X5_38 dX5_measureRows_49 ?_
  refine z_icmp_ge (tgt := 97) C dX5_measureRows_52 (by decide) ?_ ?_
  · refine z_iinc (v := 1) (lv1 := [(2, .int (x2 + 1)), (0, .ref (ga (kG K) 32)), (1, .int x1), (3, .int x3)]) C dX5_measureRows_97 2 rfl (by decide) (by decide) rfl ?_
    refine z_goto (tgt := 30) C dX5_measureRows_100 (by decide) ?_
    exact z_sub [1, 2, 0] rfl (hk30 x1 (x2 + 1) σ)
  · refine z_aload_n C dX5_measureRows_55 0 rfl ?_
    refine z_iload_n C dX5_measureRows_56 3 rfl ?_
    refine z_callVi (q := 32) (As := [.int x3]) (st := []) C zy_X5_lengthFrom zv_X5_lengthFrom ml_X5_81 rcA_32 (by decide) (fun _ _ h => m_X5_lengthFrom h) rfl rfl (Nat.le_of_ble_eq_true rfl) dX5_measureRows_57 (fun v1 σ1 => ?_)
    refine z_istore (lv1 := [(4, .int v1), (0, .ref (ga (kG K) 32)), (1, .int x1), (2, .int x2), (3, .int x3)]) C dX5_measureRows_60 (by decide) rfl ?_
    refine z_iload_n C dX5_measureRows_62 2 rfl ?_
    refine z_if_ne (tgt := 77) C dX5_measureRows_63 (by decide) ?_ ?_
    · refine z_iload C dX5_measureRows_66 0 rfl ?_
      refine z_aload_n C dX5_measureRows_68 1 rfl ?_
      refine z_getR C fd_X5_23 dX5_measureRows_69 ?_
      refine z_iload_n C dX5_measureRows_72 4 rfl ?_
      refine z_iald C sA_34 dX5_measureRows_73 (fun v2 => ?_)
      refine z_icmp_le (tgt := 81) C dX5_measureRows_74 (by decide) ?_ ?_
      · refine z_iconst (v := 0) C dX5_measureRows_81 (by decide) ?_
        exact z_sub [1, 3, 4, 0] rfl (b_X5_measureRows_J82 K C x2 x3 v1 0 _ ih σ1)
      · refine z_iconst (v := 1) C dX5_measureRows_77 (by decide) ?_
        refine z_goto (tgt := 82) C dX5_measureRows_78 (by decide) ?_
        exact z_sub [1, 3, 4, 0] rfl (b_X5_measureRows_J82 K C x2 x3 v1 1 _ ih σ1)
    · refine z_iconst (v := 1) C dX5_measureRows_77 (by decide) ?_
      refine z_goto (tgt := 82) C dX5_measureRows_78 (by decide) ?_
      exact z_sub [1, 3, 4, 0] rfl (b_X5_measureRows_J82 K C x2 x3 v1 1 _ ih σ1)
theorem b_X5_measureRows_L30 (K : zK) (C : zOk zshA K RX5 cX5_measureRows none 5 2) : ∀ (n : Nat) (x1 : Int32) (x2 : Int32) (σ : zS), Zf zshA K (f_X5_measureRows_L30 n x1 x2 σ) 30 [(0, .ref (ga (kG K) 32)), (1, .int x1), (2, .int x2)] [] σ := by
  intro n
  induction n with
  | zero => intro x1 x2 σ; rw [f_X5_measureRows_L30]; exact z_none
  | succ n ih =>
  intro x1 x2 σ
  rw [f_X5_measureRows_L30]
  refine z_iload_n C dX5_measureRows_30 1 rfl ?_
  refine z_if_eq (tgt := 103) C dX5_measureRows_31 (by decide) ?_ ?_
  · exact z_vret C dX5_measureRows_103
  · refine z_iload_n C dX5_measureRows_34 2 rfl ?_
    refine z_bipush (v := 12) C dX5_measureRows_35 (by decide) ?_
    refine z_icmp_ge (tgt := 103) C dX5_measureRows_37 (by decide) ?_ ?_
    · exact z_vret C dX5_measureRows_103
    · refine z_iconst (v := 0) C dX5_measureRows_40 (by decide) ?_
      refine z_istore_n (lv1 := [(1, .int 0), (0, .ref (ga (kG K) 32)), (2, .int x2)]) C dX5_measureRows_41 (by decide) rfl ?_
      refine z_iconst (v := 0) C dX5_measureRows_42 (by decide) ?_
      refine z_istore_n (lv1 := [(3, .int 0), (1, .int 0), (0, .ref (ga (kG K) 32)), (2, .int x2)]) C dX5_measureRows_43 (by decide) rfl ?_
      exact z_sub [2, 1, 3, 0] rfl (b_X5_measureRows_L44 K C x2 _ ih zfu 0 0 σ)
theorem b_X5_measureRows_L2 (K : zK) (C : zOk zshA K RX5 cX5_measureRows none 5 2) : ∀ (n : Nat) (x1 : Int32) (σ : zS), Zf zshA K (f_X5_measureRows_L2 n x1 σ) 2 [(0, .ref (ga (kG K) 32)), (1, .int x1)] [] σ := by
  intro n
  induction n with
  | zero => intro x1 σ; rw [f_X5_measureRows_L2]; exact z_none
  | succ n ih =>
  intro x1 σ
  rw [f_X5_measureRows_L2]
  refine z_iload_n C dX5_measureRows_2 1 rfl ?_
  refine z_aload_n C dX5_measureRows_3 0 rfl ?_
  refine z_getR C fd_X5_9 dX5_measureRows_4 ?_
  refine z_getI C fd_X5_38 dX5_measureRows_7 ?_
  refine z_icmp_ge (tgt := 26) C dX5_measureRows_10 (by decide) ?_ ?_
  · refine z_iconst (v := 1) C dX5_measureRows_26 (by decide) ?_
    refine z_istore_n (lv1 := [(1, .int 1), (0, .ref (ga (kG K) 32))]) C dX5_measureRows_27 (by decide) rfl ?_
    refine z_iconst (v := 0) C dX5_measureRows_28 (by decide) ?_
    refine z_istore_n (lv1 := [(2, .int 0), (1, .int 1), (0, .ref (ga (kG K) 32))]) C dX5_measureRows_29 (by decide) rfl ?_
    exact z_sub [2, 1, 0] rfl (b_X5_measureRows_L30 K C zfu 1 0 σ)
  · refine z_aload_n C dX5_measureRows_13 0 rfl ?_
    refine z_getR C fd_X5_23 dX5_measureRows_14 ?_
    refine z_iload_n C dX5_measureRows_17 1 rfl ?_
    refine z_iconst (v := 1) C dX5_measureRows_18 (by decide) ?_
    refine z_iast C sA_34 dX5_measureRows_19 (fun σ1 => ?_)
    refine z_iinc (v := 1) (lv1 := [(1, .int (x1 + 1)), (0, .ref (ga (kG K) 32))]) C dX5_measureRows_20 1 rfl (by decide) (by decide) rfl ?_
    refine z_goto (tgt := 2) C dX5_measureRows_23 (by decide) ?_
    exact z_sub [1, 0] rfl (ih (x1 + 1) σ1)
theorem b_X5_measureRows (K : zK) (C : zOk zshA K RX5 cX5_measureRows none 5 2) (σ : zS) : Zf zshA K (f_X5_measureRows σ) 0 [(0, .ref (ga (kG K) 32))] [] σ := by
  unfold f_X5_measureRows
  refine z_iconst (v := 0) C dX5_measureRows_0 (by decide) ?_
  refine z_istore_n (lv1 := [(1, .int 0), (0, .ref (ga (kG K) 32))]) C dX5_measureRows_1 (by decide) rfl ?_
  exact z_sub [1, 0] rfl (b_X5_measureRows_L2 K C zfu 0 σ)
theorem m_X5_measureRows {l : Launch} {G : zG} {σ σ1 : zS} {r : Int32} (h : f_X5_measureRows σ = some (r, σ1)) : zM l G zshA yX5_measureRows cX5_measureRows 5 none 2 [.ref (ga G 32)] (zov none G r) σ σ1 :=
  z_met (by decide) (Nat.le_of_ble_eq_true rfl) h (fun K _ hG C => by subst hG; exact b_X5_measureRows K C σ)
theorem b_X5_firstBehind_J36 (K : zK) (C : zOk zshA K RX5 cX5_firstBehind (some .int) 5 1) (x1 : Int32) (x2 : Int32) (x3 : Int32) (s0 : Int32) (k2 : Int32 → zS → Option (Int32 × zS)) (hk2 : ∀ (x3 : Int32) (σ : zS), Zf zshA K (k2 x3 σ) 2 [(0, .ref (ga (kG K) 32)), (1, .int x1), (2, .int x2), (3, .int x3)] [] σ) (σ : zS) : Zf zshA K (f_X5_firstBehind_J36 k2 x1 x2 x3 s0 σ) 36 [(0, .ref (ga (kG K) 32)), (1, .int x1), (2, .int x2), (3, .int x3)] [.int s0] σ := by
  unfold f_X5_firstBehind_J36
  refine z_istore (lv1 := [(4, .int s0), (0, .ref (ga (kG K) 32)), (1, .int x1), (2, .int x2), (3, .int x3)]) C dX5_firstBehind_36 (by decide) rfl ?_
  refine z_iload C dX5_firstBehind_38 0 rfl ?_
  refine z_if_eq (tgt := 55) C dX5_firstBehind_40 (by decide) ?_ ?_
  · refine z_iinc (v := 1) (lv1 := [(3, .int (x3 + 1)), (4, .int s0), (0, .ref (ga (kG K) 32)), (1, .int x1), (2, .int x2)]) C dX5_firstBehind_55 4 rfl (by decide) (by decide) rfl ?_
    refine z_goto (tgt := 2) C dX5_firstBehind_58 (by decide) ?_
    exact z_sub [2, 3, 4, 0] rfl (hk2 (x3 + 1) σ)
  · refine z_aload_n C dX5_firstBehind_43 1 rfl ?_
    refine z_getR C fd_X5_23 dX5_firstBehind_44 ?_
    refine z_iload_n C dX5_firstBehind_47 4 rfl ?_
    refine z_iald C sA_34 dX5_firstBehind_48 (fun v1 => ?_)
    refine z_iload_n C dX5_firstBehind_49 3 rfl ?_
    refine z_icmp_ne (tgt := 55) C dX5_firstBehind_50 (by decide) ?_ ?_
    · refine z_iload_n C dX5_firstBehind_53 4 rfl ?_
      exact z_iret C dX5_firstBehind_54
    · refine z_iinc (v := 1) (lv1 := [(3, .int (x3 + 1)), (4, .int s0), (0, .ref (ga (kG K) 32)), (1, .int x1), (2, .int x2)]) C dX5_firstBehind_55 4 rfl (by decide) (by decide) rfl ?_
      refine z_goto (tgt := 2) C dX5_firstBehind_58 (by decide) ?_
      exact z_sub [2, 3, 4, 0] rfl (hk2 (x3 + 1) σ)
theorem b_X5_firstBehind_L2 (K : zK) (C : zOk zshA K RX5 cX5_firstBehind (some .int) 5 1) (x1 : Int32) (x2 : Int32) : ∀ (n : Nat) (x3 : Int32) (σ : zS), Zf zshA K (f_X5_firstBehind_L2 x1 x2 n x3 σ) 2 [(0, .ref (ga (kG K) 32)), (1, .int x1), (2, .int x2), (3, .int x3)] [] σ := by
  intro n
  induction n with
  | zero => intro x3 σ; rw [f_X5_firstBehind_L2]; exact z_none
  | succ n ih =>
  intro x3 σ
  rw [f_X5_firstBehind_L2]
  refine z_iload_n C dX5_firstBehind_2 3 rfl ?_
  refine z_aload_n C dX5_firstBehind_3 0 rfl ?_
  refine z_getR C fd_X5_9 dX5_firstBehind_4 ?_
  refine z_getI C fd_X5_38 dX5_firstBehind_7 ?_
  refine z_icmp_ge (tgt := 61) C dX5_firstBehind_10 (by decide) ?_ ?_
  · refine z_iconst (v := (-1)) C dX5_firstBehind_61 (by decide) ?_
    exact z_iret C dX5_firstBehind_62
  · refine z_iload_n C dX5_firstBehind_13 1 rfl ?_
    refine z_iconst (v := (-1)) C dX5_firstBehind_14 (by decide) ?_
    refine z_icmp_eq (tgt := 31) C dX5_firstBehind_15 (by decide) ?_ ?_
    · refine z_iconst (v := 1) C dX5_firstBehind_31 (by decide) ?_
      refine z_goto (tgt := 36) C dX5_firstBehind_32 (by decide) ?_
      exact z_sub [0, 1, 2, 3] rfl (b_X5_firstBehind_J36 K C x1 x2 x3 1 _ ih σ)
    · refine z_aload_n C dX5_firstBehind_18 0 rfl ?_
      refine z_getR C fd_X5_19 dX5_firstBehind_19 ?_
      refine z_iload_n C dX5_firstBehind_22 3 rfl ?_
      refine z_iald C sA_33 dX5_firstBehind_23 (fun v1 => ?_)
      refine z_iload_n C dX5_firstBehind_24 1 rfl ?_
      refine z_callNz (As := [.int v1, .int x1]) (st := []) C zy_X9_hasBit zs_X9_hasBit mn_X5_84 (by decide) (fun _ _ h => m_X9_hasBit h) rfl rfl (Nat.le_of_ble_eq_true rfl) dX5_firstBehind_25 (fun v2 σ2 => ?_)
      refine z_if_eq (tgt := 35) C dX5_firstBehind_28 (by decide) ?_ ?_
      · refine z_iconst (v := 0) C dX5_firstBehind_35 (by decide) ?_
        exact z_sub [0, 1, 2, 3] rfl (b_X5_firstBehind_J36 K C x1 x2 x3 0 _ ih σ2)
      · refine z_iconst (v := 1) C dX5_firstBehind_31 (by decide) ?_
        refine z_goto (tgt := 36) C dX5_firstBehind_32 (by decide) ?_
        exact z_sub [0, 1, 2, 3] rfl (b_X5_firstBehind_J36 K C x1 x2 x3 1 _ ih σ2)
theorem b_X5_firstBehind (K : zK) (C : zOk zshA K RX5 cX5_firstBehind (some .int) 5 1) (x1 : Int32) (x2 : Int32) (σ : zS) : Zf zshA K (f_X5_firstBehind x1 x2 σ) 0 [(0, .ref (ga (kG K) 32)), (1, .int x1), (2, .int x2)] [] σ := by
  unfold f_X5_firstBehind
  refine z_iconst (v := 0) C dX5_firstBehind_0 (by decide) ?_
  refine z_istore_n (lv1 := [(3, .int 0), (0, .ref (ga (kG K) 32)), (1, .int x1), (2, .int x2)]) C dX5_firstBehind_1 (by decide) rfl ?_
  exact z_sub [1, 2, 3, 0] rfl (b_X5_firstBehind_L2 K C x1 x2 zfu 0 σ)
theorem m_X5_firstBehind {l : Launch} {G : zG} {x1 : Int32} {x2 : Int32} {σ σ1 : zS} {r : Int32} (h : f_X5_firstBehind x1 x2 σ = some (r, σ1)) : zM l G zshA yX5_firstBehind cX5_firstBehind 5 (some .int) 1 [.ref (ga G 32), .int x1, .int x2] (zov (some .int) G r) σ σ1 :=
  z_met (by decide) (Nat.le_of_ble_eq_true rfl) h (fun K _ hG C => by subst hG; exact b_X5_firstBehind K C x1 x2 σ)
theorem b_X5_layRow_L46 (K : zK) (C : zOk zshA K RX5 cX5_layRow none 4 2) (x1 : Int32) : ∀ (n : Nat) (x2 : Int32) (x3 : Int32) (σ : zS), Zf zshA K (f_X5_layRow_L46 x1 n x2 x3 σ) 46 [(0, .ref (ga (kG K) 32)), (1, .int x1), (2, .int x2), (3, .int x3)] [] σ := by
  intro n
  induction n with
  | zero => intro x2 x3 σ; rw [f_X5_layRow_L46]; exact z_none
  | succ n ih =>
  intro x2 x3 σ
  rw [f_X5_layRow_L46]
  refine z_iload_n C dX5_layRow_46 3 rfl ?_
  refine z_aload_n C dX5_layRow_47 0 rfl ?_
  refine z_getI C fd_X5_50 dX5_layRow_48 ?_
  refine z_icmp_ge (tgt := 80) C dX5_layRow_51 (by decide) ?_ ?_
  · exact z_vret C dX5_layRow_80
  · refine z_aload_n C dX5_layRow_54 0 rfl ?_
    refine z_iload_n C dX5_layRow_55 2 rfl ?_
    refine z_iload_n C dX5_layRow_56 1 rfl ?_
    refine z_iload_n C dX5_layRow_57 3 rfl ?_
    refine z_isub C dX5_layRow_58 ?_
    refine z_callVi (q := 32) (As := [.int x2, .int (x1 - x3)]) (st := []) C zy_X5_firstBehind zv_X5_firstBehind ml_X5_95 rcA_32 (by decide) (fun _ _ h => m_X5_firstBehind h) rfl rfl (Nat.le_of_ble_eq_true rfl) dX5_layRow_59 (fun v1 σ1 => ?_)
    refine z_istore_n (lv1 := [(2, .int v1), (0, .ref (ga (kG K) 32)), (1, .int x1), (3, .int x3)]) C dX5_layRow_62 (by decide) rfl ?_
    refine z_aload_n C dX5_layRow_63 1 rfl ?_
    refine z_getR C fd_X5_26 dX5_layRow_64 ?_
    refine z_iload_n C dX5_layRow_67 3 rfl ?_
    refine z_iconst (v := 0) C dX5_layRow_68 (by decide) ?_
    refine z_iload_n C dX5_layRow_69 0 rfl ?_
    refine z_mmax C ml_X5_87 zma_max_s zma_i zma_max_c (by decide) (Nat.le_of_ble_eq_true rfl) dX5_layRow_70 ?_
    refine z_iast C sA_35 dX5_layRow_73 (fun σ2 => ?_)
    refine z_iinc (v := 1) (lv1 := [(3, .int (x3 + 1)), (2, .int v1), (0, .ref (ga (kG K) 32)), (1, .int x1)]) C dX5_layRow_74 3 rfl (by decide) (by decide) rfl ?_
    refine z_goto (tgt := 46) C dX5_layRow_77 (by decide) ?_
    exact z_sub [2, 3, 1, 0] rfl (ih v1 (x3 + 1) σ2)
theorem b_X5_layRow_L4 (K : zK) (C : zOk zshA K RX5 cX5_layRow none 4 2) : ∀ (n : Nat) (x1 : Int32) (x2 : Int32) (σ : zS), Zf zshA K (f_X5_layRow_L4 n x1 x2 σ) 4 [(0, .ref (ga (kG K) 32)), (1, .int x1), (2, .int x2)] [] σ := by
  intro n
  induction n with
  | zero => intro x1 x2 σ; rw [f_X5_layRow_L4]; exact z_none
  | succ n ih =>
  intro x1 x2 σ
  rw [f_X5_layRow_L4]
  refine z_iload_n C dX5_layRow_4 2 rfl ?_
  refine z_aload_n C dX5_layRow_5 0 rfl ?_
  refine z_getR C fd_X5_9 dX5_layRow_6 ?_
  refine z_getI C fd_X5_38 dX5_layRow_9 ?_
  refine z_icmp_ge (tgt := 32) C dX5_layRow_12 (by decide) ?_ ?_
  · refine z_aload_n C dX5_layRow_32 0 rfl ?_
    refine z_iload_n C dX5_layRow_33 1 rfl ?_
    refine z_bipush (v := 12) C dX5_layRow_34 (by decide) ?_
    refine z_mmin C ml_X5_92 zma_min_s zma_i zma_min_c (by decide) (Nat.le_of_ble_eq_true rfl) dX5_layRow_36 ?_
    refine z_putI C fd_X5_50 fwA_32_5 (lgA 32) (by decide) dX5_layRow_39 (fun σ1 => ?_)
    refine z_iconst (v := (-1)) C dX5_layRow_42 (by decide) ?_
    refine z_istore_n (lv1 := [(2, .int (-1)), (0, .ref (ga (kG K) 32)), (1, .int x1)]) C dX5_layRow_43 (by decide) rfl ?_
    refine z_iconst (v := 0) C dX5_layRow_44 (by decide) ?_
    refine z_istore_n (lv1 := [(3, .int 0), (2, .int (-1)), (0, .ref (ga (kG K) 32)), (1, .int x1)]) C dX5_layRow_45 (by decide) rfl ?_
    exact z_sub [2, 3, 1, 0] rfl (b_X5_layRow_L46 K C x1 zfu (-1) 0 σ1)
  · refine z_iload_n C dX5_layRow_15 1 rfl ?_
    refine z_aload_n C dX5_layRow_16 0 rfl ?_
    refine z_getR C fd_X5_23 dX5_layRow_17 ?_
    refine z_iload_n C dX5_layRow_20 2 rfl ?_
    refine z_iald C sA_34 dX5_layRow_21 (fun v1 => ?_)
    refine z_mmax C ml_X5_87 zma_max_s zma_i zma_max_c (by decide) (Nat.le_of_ble_eq_true rfl) dX5_layRow_22 ?_
    refine z_istore_n (lv1 := [(1, .int (zmax x1 v1)), (0, .ref (ga (kG K) 32)), (2, .int x2)]) C dX5_layRow_25 (by decide) rfl ?_
    refine z_iinc (v := 1) (lv1 := [(2, .int (x2 + 1)), (1, .int (zmax x1 v1)), (0, .ref (ga (kG K) 32))]) C dX5_layRow_26 2 rfl (by decide) (by decide) rfl ?_
    refine z_goto (tgt := 4) C dX5_layRow_29 (by decide) ?_
    exact z_sub [2, 1, 0] rfl (ih (zmax x1 v1) (x2 + 1) σ)
theorem b_X5_layRow (K : zK) (C : zOk zshA K RX5 cX5_layRow none 4 2) (σ : zS) : Zf zshA K (f_X5_layRow σ) 0 [(0, .ref (ga (kG K) 32))] [] σ := by
  unfold f_X5_layRow
  refine z_iconst (v := 0) C dX5_layRow_0 (by decide) ?_
  refine z_istore_n (lv1 := [(1, .int 0), (0, .ref (ga (kG K) 32))]) C dX5_layRow_1 (by decide) rfl ?_
  refine z_iconst (v := 0) C dX5_layRow_2 (by decide) ?_
  refine z_istore_n (lv1 := [(2, .int 0), (1, .int 0), (0, .ref (ga (kG K) 32))]) C dX5_layRow_3 (by decide) rfl ?_
  exact z_sub [2, 1, 0] rfl (b_X5_layRow_L4 K C zfu 0 0 σ)
theorem m_X5_layRow {l : Launch} {G : zG} {σ σ1 : zS} {r : Int32} (h : f_X5_layRow σ = some (r, σ1)) : zM l G zshA yX5_layRow cX5_layRow 4 none 2 [.ref (ga G 32)] (zov none G r) σ σ1 :=
  z_met (by decide) (Nat.le_of_ble_eq_true rfl) h (fun K _ hG C => by subst hG; exact b_X5_layRow K C σ)
theorem b_X5_longestRow_L9 (K : zK) (C : zOk zshA K RX5 cX5_longestRow (some .int) 3 5) (x1 : Int32) : ∀ (n : Nat) (x2 : Int32) (σ : zS), Zf zshA K (f_X5_longestRow_L9 x1 n x2 σ) 9 [(0, .ref (ga (kG K) 32)), (1, .int x1), (2, .int x2)] [] σ := by
  intro n
  induction n with
  | zero => intro x2 σ; rw [f_X5_longestRow_L9]; exact z_none
  | succ n ih =>
  intro x2 σ
  rw [f_X5_longestRow_L9]
  refine z_iload_n C dX5_longestRow_9 2 rfl ?_
  refine z_aload_n C dX5_longestRow_10 0 rfl ?_
  refine z_getR C fd_X5_9 dX5_longestRow_11 ?_
  refine z_getI C fd_X5_38 dX5_longestRow_14 ?_
  refine z_icmp_ge (tgt := 37) C dX5_longestRow_17 (by decide) ?_ ?_
  · refine z_aload_n C dX5_longestRow_37 0 rfl ?_
    refine z_callVv (q := 32) (As := []) (st := []) C zy_X5_measureRows zv_X5_measureRows ml_X5_44 rcA_32 (by decide) (fun _ _ h => m_X5_measureRows h) rfl rfl (Nat.le_of_ble_eq_true rfl) dX5_longestRow_38 (fun _ σ1 => ?_)
    refine z_aload_n C dX5_longestRow_41 0 rfl ?_
    refine z_callVv (q := 32) (As := []) (st := []) C zy_X5_layRow zv_X5_layRow ml_X5_47 rcA_32 (by decide) (fun _ _ h => m_X5_layRow h) rfl rfl (Nat.le_of_ble_eq_true rfl) dX5_longestRow_42 (fun _ σ2 => ?_)
    refine z_iload_n C dX5_longestRow_45 1 rfl ?_
    refine z_iconst (v := (-1)) C dX5_longestRow_46 (by decide) ?_
    refine z_icmp_ne (tgt := 55) C dX5_longestRow_47 (by decide) ?_ ?_
    · refine z_aload_n C dX5_longestRow_50 0 rfl ?_
      refine z_getI C fd_X5_50 dX5_longestRow_51 ?_
      exact z_iret C dX5_longestRow_54
    · refine z_iload_n C dX5_longestRow_55 1 rfl ?_
      refine z_bipush (v := (-2)) C dX5_longestRow_56 (by decide) ?_
      refine z_icmp_ne (tgt := 107) C dX5_longestRow_58 (by decide) ?_ ?_
      · refine z_aload_n C dX5_longestRow_61 0 rfl ?_
        refine z_getI C fd_X5_50 dX5_longestRow_62 ?_
        refine z_if_ne (tgt := 72) C dX5_longestRow_65 (by decide) ?_ ?_
        · refine z_iconst (v := 0) C dX5_longestRow_68 (by decide) ?_
          refine z_goto (tgt := 106) C dX5_longestRow_69 (by decide) ?_
          exact z_iret C dX5_longestRow_106
        · refine z_aload_n C dX5_longestRow_72 0 rfl ?_
          refine z_getR C fd_X5_9 dX5_longestRow_73 ?_
          refine z_getR C fd_X5_53 dX5_longestRow_76 ?_
          refine z_aload_n C dX5_longestRow_79 0 rfl ?_
          refine z_getR C fd_X5_26 dX5_longestRow_80 ?_
          refine z_iconst (v := 0) C dX5_longestRow_83 (by decide) ?_
          refine z_iald C sA_35 dX5_longestRow_84 (fun v3 => ?_)
          refine z_iald C sA_21 dX5_longestRow_85 (fun v4 => ?_)
          refine z_aload_n C dX5_longestRow_86 0 rfl ?_
          refine z_getR C fd_X5_9 dX5_longestRow_87 ?_
          refine z_getR C fd_X5_53 dX5_longestRow_90 ?_
          refine z_aload_n C dX5_longestRow_93 0 rfl ?_
          refine z_getR C fd_X5_26 dX5_longestRow_94 ?_
          refine z_aload_n C dX5_longestRow_97 0 rfl ?_
          refine z_getI C fd_X5_50 dX5_longestRow_98 ?_
          refine z_iconst (v := 1) C dX5_longestRow_101 (by decide) ?_
          refine z_isub C dX5_longestRow_102 ?_
          refine z_iald C sA_35 dX5_longestRow_103 (fun v5 => ?_)
          refine z_iald C sA_21 dX5_longestRow_104 (fun v6 => ?_)
          refine z_isub C dX5_longestRow_105 ?_
          exact z_iret C dX5_longestRow_106
      · refine z_iload_n C dX5_longestRow_107 1 rfl ?_
        refine z_iconst (v := 0) C dX5_longestRow_108 (by decide) ?_
        refine z_aload_n C dX5_longestRow_109 0 rfl ?_
        refine z_getI C fd_X5_50 dX5_longestRow_110 ?_
        refine z_iconst (v := 1) C dX5_longestRow_113 (by decide) ?_
        refine z_isub C dX5_longestRow_114 ?_
        refine z_callNz (As := [.int x1, .int 0, .int ((σ2 32 5) - 1)]) (st := []) C zy_X9_isWithin zs_X9_isWithin mn_X5_56 (by decide) (fun _ _ h => m_X9_isWithin h) rfl rfl (Nat.le_of_ble_eq_true rfl) dX5_longestRow_115 (fun v3 σ3 => ?_)
        refine z_if_eq (tgt := 130) C dX5_longestRow_118 (by decide) ?_ ?_
        · refine z_iconst (v := (-1)) C dX5_longestRow_130 (by decide) ?_
          exact z_iret C dX5_longestRow_131
        · refine z_aload_n C dX5_longestRow_121 0 rfl ?_
          refine z_getR C fd_X5_26 dX5_longestRow_122 ?_
          refine z_iload_n C dX5_longestRow_125 1 rfl ?_
          refine z_iald C sA_35 dX5_longestRow_126 (fun v4 => ?_)
          refine z_goto (tgt := 131) C dX5_longestRow_127 (by decide) ?_
          exact z_iret C dX5_longestRow_131
  · refine z_aload_n C dX5_longestRow_20 0 rfl ?_
    refine z_getR C fd_X5_19 dX5_longestRow_21 ?_
    refine z_iload_n C dX5_longestRow_24 2 rfl ?_
    refine z_aload_n C dX5_longestRow_25 0 rfl ?_
    refine z_iload_n C dX5_longestRow_26 2 rfl ?_
    refine z_callVi (q := 32) (As := [.int x2]) (st := [.int x2, .ref (ga (kG K) 33)]) C zy_X5_findMayFrom zv_X5_findMayFrom ml_X5_34 rcA_32 (by decide) (fun _ _ h => m_X5_findMayFrom h) rfl rfl (Nat.le_of_ble_eq_true rfl) dX5_longestRow_27 (fun v1 σ1 => ?_)
    refine z_iast C sA_33 dX5_longestRow_30 (fun σ2 => ?_)
    refine z_iinc (v := 1) (lv1 := [(2, .int (x2 + 1)), (0, .ref (ga (kG K) 32)), (1, .int x1)]) C dX5_longestRow_31 2 rfl (by decide) (by decide) rfl ?_
    refine z_goto (tgt := 9) C dX5_longestRow_34 (by decide) ?_
    exact z_sub [1, 2, 0] rfl (ih (x2 + 1) σ2)
theorem b_X5_longestRow (K : zK) (C : zOk zshA K RX5 cX5_longestRow (some .int) 3 5) (x1 : Int32) (σ : zS) : Zf zshA K (f_X5_longestRow x1 σ) 0 [(0, .ref (ga (kG K) 32)), (1, .int x1)] [] σ := by
  unfold f_X5_longestRow
  refine z_aload_n C dX5_longestRow_0 0 rfl ?_
  refine z_getR C fd_X5_15 dX5_longestRow_1 ?_
  refine z_callVv (q := 28) (As := []) (st := []) C zy_X8_boundByNumbers zv_X8_boundByNumbers ml_X5_29 rcA_28 (by decide) (fun _ _ h => m_X8_boundByNumbers h) rfl rfl (Nat.le_of_ble_eq_true rfl) dX5_longestRow_4 (fun _ σ1 => ?_)
  refine z_iconst (v := 0) C dX5_longestRow_7 (by decide) ?_
  refine z_istore_n (lv1 := [(2, .int 0), (0, .ref (ga (kG K) 32)), (1, .int x1)]) C dX5_longestRow_8 (by decide) rfl ?_
  exact z_sub [1, 2, 0] rfl (b_X5_longestRow_L9 K C x1 zfu 0 σ1)
theorem m_X5_longestRow {l : Launch} {G : zG} {x1 : Int32} {σ σ1 : zS} {r : Int32} (h : f_X5_longestRow x1 σ = some (r, σ1)) : zM l G zshA yX5_longestRow cX5_longestRow 3 (some .int) 5 [.ref (ga G 32), .int x1] (zov (some .int) G r) σ σ1 :=
  z_met (by decide) (Nat.le_of_ble_eq_true rfl) h (fun K _ hG C => by subst hG; exact b_X5_longestRow K C x1 σ)
theorem b_X9_chain (K : zK) (C : zOk zshA K RX9 cX9_chain (some .int) 2 6) (x1 : Int32) (σ : zS) : Zf zshA K (f_X9_chain x1 σ) 0 [(0, .ref (ga (kG K) 0)), (1, .int x1)] [] σ := by
  unfold f_X9_chain
  refine z_iload_n C dX9_chain_0 1 rfl ?_
  refine z_bipush (v := (-2)) C dX9_chain_1 (by decide) ?_
  refine z_icmp_ge (tgt := 11) C dX9_chain_3 (by decide) ?_ ?_
  · refine z_aload_n C dX9_chain_11 0 rfl ?_
    refine z_getR C fd_X9_53 dX9_chain_12 ?_
    refine z_iload_n C dX9_chain_15 1 rfl ?_
    refine z_callVi (q := 32) (As := [.int x1]) (st := []) C zy_X5_longestRow zv_X5_longestRow ml_X9_220 rcA_32 (by decide) (fun _ _ h => m_X5_longestRow h) rfl rfl (Nat.le_of_ble_eq_true rfl) dX9_chain_16 (fun v1 σ1 => ?_)
    exact z_iret C dX9_chain_19
  · refine z_bipush (v := (-3)) C dX9_chain_6 (by decide) ?_
    refine z_goto (tgt := 19) C dX9_chain_8 (by decide) ?_
    exact z_iret C dX9_chain_19
theorem m_X9_chain {l : Launch} {G : zG} {x1 : Int32} {σ σ1 : zS} {r : Int32} (h : f_X9_chain x1 σ = some (r, σ1)) : zM l G zshA yX9_chain cX9_chain 2 (some .int) 6 [.ref (ga G 0), .int x1] (zov (some .int) G r) σ σ1 :=
  z_met (by decide) (Nat.le_of_ble_eq_true rfl) h (fun K _ hG C => by subst hG; exact b_X9_chain K C x1 σ)
theorem b_X3_liveIn_L4 (K : zK) (C : zOk zshA K RX3 cX3_liveIn (some .int) 4 1) (x1 : Int32) : ∀ (n : Nat) (x2 : Int32) (x3 : Int32) (σ : zS), Zf zshA K (f_X3_liveIn_L4 x1 n x2 x3 σ) 4 [(0, .ref (ga (kG K) 4)), (1, .int x1), (2, .int x2), (3, .int x3)] [] σ := by
  intro n
  induction n with
  | zero => intro x2 x3 σ; rw [f_X3_liveIn_L4]; exact z_none
  | succ n ih =>
  intro x2 x3 σ
  rw [f_X3_liveIn_L4]
  refine z_iload_n C dX3_liveIn_4 3 rfl ?_
  refine z_bipush (v := 10) C dX3_liveIn_5 (by decide) ?_
  refine z_icmp_ge (tgt := 41) C dX3_liveIn_7 (by decide) ?_ ?_
  · refine z_iload_n C dX3_liveIn_41 2 rfl ?_
    exact z_iret C dX3_liveIn_42
  · refine z_iload_n C dX3_liveIn_10 1 rfl ?_
    refine z_aload_n C dX3_liveIn_11 0 rfl ?_
    refine z_getR C fd_X3_9 dX3_liveIn_12 ?_
    refine z_iload_n C dX3_liveIn_15 3 rfl ?_
    refine z_iald C sA_5 dX3_liveIn_16 (fun v1 => ?_)
    refine z_aload_n C dX3_liveIn_17 0 rfl ?_
    refine z_getR C fd_X3_15 dX3_liveIn_18 ?_
    refine z_iload_n C dX3_liveIn_21 3 rfl ?_
    refine z_iald C sA_6 dX3_liveIn_22 (fun v2 => ?_)
    refine z_callNz (As := [.int x1, .int v1, .int v2]) (st := []) C zy_X9_isWithin zs_X9_isWithin mn_X3_56 (by decide) (fun _ _ h => m_X9_isWithin h) rfl rfl (Nat.le_of_ble_eq_true rfl) dX3_liveIn_23 (fun v3 σ3 => ?_)
    refine z_if_eq (tgt := 35) C dX3_liveIn_26 (by decide) ?_ ?_
    · refine z_iinc (v := 1) (lv1 := [(3, .int (x3 + 1)), (0, .ref (ga (kG K) 4)), (1, .int x1), (2, .int x2)]) C dX3_liveIn_35 3 rfl (by decide) (by decide) rfl ?_
      refine z_goto (tgt := 4) C dX3_liveIn_38 (by decide) ?_
      exact z_sub [1, 2, 3, 0] rfl (ih x2 (x3 + 1) σ3)
    · refine z_iload_n C dX3_liveIn_29 2 rfl ?_
      refine z_iconst (v := 1) C dX3_liveIn_30 (by decide) ?_
      refine z_iload_n C dX3_liveIn_31 3 rfl ?_
      refine z_ishl C dX3_liveIn_32 ?_
      refine z_ior C dX3_liveIn_33 ?_
      refine z_istore_n (lv1 := [(2, .int (x2 ||| ((1 : Int32) <<< (x3 &&& 31)))), (0, .ref (ga (kG K) 4)), (1, .int x1), (3, .int x3)]) C dX3_liveIn_34 (by decide) rfl ?_
      refine z_iinc (v := 1) (lv1 := [(3, .int (x3 + 1)), (2, .int (x2 ||| ((1 : Int32) <<< (x3 &&& 31)))), (0, .ref (ga (kG K) 4)), (1, .int x1)]) C dX3_liveIn_35 3 rfl (by decide) (by decide) rfl ?_
      refine z_goto (tgt := 4) C dX3_liveIn_38 (by decide) ?_
      exact z_sub [2, 3, 1, 0] rfl (ih (x2 ||| ((1 : Int32) <<< (x3 &&& 31))) (x3 + 1) σ3)
theorem b_X3_liveIn (K : zK) (C : zOk zshA K RX3 cX3_liveIn (some .int) 4 1) (x1 : Int32) (σ : zS) : Zf zshA K (f_X3_liveIn x1 σ) 0 [(0, .ref (ga (kG K) 4)), (1, .int x1)] [] σ := by
  unfold f_X3_liveIn
  refine z_iconst (v := 0) C dX3_liveIn_0 (by decide) ?_
  refine z_istore_n (lv1 := [(2, .int 0), (0, .ref (ga (kG K) 4)), (1, .int x1)]) C dX3_liveIn_1 (by decide) rfl ?_
  refine z_iconst (v := 0) C dX3_liveIn_2 (by decide) ?_
  refine z_istore_n (lv1 := [(3, .int 0), (2, .int 0), (0, .ref (ga (kG K) 4)), (1, .int x1)]) C dX3_liveIn_3 (by decide) rfl ?_
  exact z_sub [2, 3, 1, 0] rfl (b_X3_liveIn_L4 K C x1 zfu 0 0 σ)
theorem m_X3_liveIn {l : Launch} {G : zG} {x1 : Int32} {σ σ1 : zS} {r : Int32} (h : f_X3_liveIn x1 σ = some (r, σ1)) : zM l G zshA yX3_liveIn cX3_liveIn 4 (some .int) 1 [.ref (ga G 4), .int x1] (zov (some .int) G r) σ σ1 :=
  z_met (by decide) (Nat.le_of_ble_eq_true rfl) h (fun K _ hG C => by subst hG; exact b_X3_liveIn K C x1 σ)
theorem b_X3_waysFrom (K : zK) (C : zOk zshA K RX3 cX3_waysFrom (some .int) 3 0) (x1 : Int32) (x2 : Int32) (σ : zS) : Zf zshA K (f_X3_waysFrom x1 x2 σ) 0 [(0, .ref (ga (kG K) 4)), (1, .int x1), (2, .int x2)] [] σ := by
  unfold f_X3_waysFrom
  refine z_iload_n C dX3_waysFrom_0 2 rfl ?_
  refine z_if_eq (tgt := 20) C dX3_waysFrom_1 (by decide) ?_ ?_
  · refine z_aload_n C dX3_waysFrom_20 0 rfl ?_
    refine z_getR C fd_X3_43 dX3_waysFrom_21 ?_
    refine z_iload_n C dX3_waysFrom_24 1 rfl ?_
    refine z_iald C sA_15 dX3_waysFrom_25 (fun v1 => ?_)
    exact z_iret C dX3_waysFrom_26
  · refine z_aload_n C dX3_waysFrom_4 0 rfl ?_
    refine z_getR C fd_X3_43 dX3_waysFrom_5 ?_
    refine z_iload_n C dX3_waysFrom_8 1 rfl ?_
    refine z_iald C sA_15 dX3_waysFrom_9 (fun v1 => ?_)
    refine z_aload_n C dX3_waysFrom_10 0 rfl ?_
    refine z_getR C fd_X3_46 dX3_waysFrom_11 ?_
    refine z_iload_n C dX3_waysFrom_14 1 rfl ?_
    refine z_iald C sA_16 dX3_waysFrom_15 (fun v2 => ?_)
    refine z_ior C dX3_waysFrom_16 ?_
    refine z_goto (tgt := 26) C dX3_waysFrom_17 (by decide) ?_
    exact z_iret C dX3_waysFrom_26
theorem m_X3_waysFrom {l : Launch} {G : zG} {x1 : Int32} {x2 : Int32} {σ σ1 : zS} {r : Int32} (h : f_X3_waysFrom x1 x2 σ = some (r, σ1)) : zM l G zshA yX3_waysFrom cX3_waysFrom 3 (some .int) 0 [.ref (ga G 4), .int x1, .int x2] (zov (some .int) G r) σ σ1 :=
  z_met (by decide) (Nat.le_of_ble_eq_true rfl) h (fun K _ hG C => by subst hG; exact b_X3_waysFrom K C x1 x2 σ)
theorem b_X4_fewestLegs_L37 (K : zK) (C : zOk zshA K RX4 cX4_fewestLegs (some .int) 10 1) (x2 : Int32) (x3 : Int32) (x4 : Int32) (x5 : Int32) (x6 : Int32) (x7 : Int32) (k12 : Int32 → Int32 → Int32 → zS → Option (Int32 × zS)) (hk12 : ∀ (x5 : Int32) (x6 : Int32) (x7 : Int32) (σ : zS), Zf zshA K (k12 x5 x6 x7 σ) 12 [(0, .ref (ga (kG K) 36)), (2, .int x2), (3, .int x3), (4, .int x4), (5, .int x5), (6, .int x6), (7, .int x7)] [] σ) : ∀ (n : Nat) (x8 : Int32) (x9 : Int32) (σ : zS), Zf zshA K (f_X4_fewestLegs_L37 k12 x2 x3 x4 x5 x6 x7 n x8 x9 σ) 37 [(0, .ref (ga (kG K) 36)), (2, .int x2), (3, .int x3), (4, .int x4), (5, .int x5), (6, .int x6), (7, .int x7), (8, .int x8), (9, .int x9)] [] σ := by
  intro n
  induction n with
  | zero => intro x8 x9 σ; rw [f_X4_fewestLegs_L37]; exact z_none
  | succ n ih =>
  intro x8 x9 σ
  rw [f_X4_fewestLegs_L37]
  refine z_iload C dX4_fewestLegs_37 8 rfl ?_
  refine z_bipush (v := 10) C dX4_fewestLegs_39 (by decide) ?_
  refine z_icmp_ge (tgt := 76) C dX4_fewestLegs_41 (by decide) ?_ ?_
  · refine z_iload C dX4_fewestLegs_76 7 rfl ?_
    refine z_iload_n C dX4_fewestLegs_78 2 rfl ?_
    refine z_iand C dX4_fewestLegs_79 ?_
    refine z_iload C dX4_fewestLegs_80 4 rfl ?_
    refine z_iconst (v := (-1)) C dX4_fewestLegs_82 (by decide) ?_
    refine z_ixor C dX4_fewestLegs_83 ?_
    refine z_iand C dX4_fewestLegs_84 ?_
    refine z_istore (lv1 := [(6, .int ((x8 &&& x3) &&& (x5 ^^^ (-1)))), (0, .ref (ga (kG K) 36)), (2, .int x2), (3, .int x3), (4, .int x4), (5, .int x5), (7, .int x7), (8, .int x8), (9, .int x9)]) C dX4_fewestLegs_85 (by decide) rfl ?_
    refine z_iload C dX4_fewestLegs_87 0 rfl ?_
    refine z_if_ne (tgt := 94) C dX4_fewestLegs_89 (by decide) ?_ ?_
    · refine z_iconst (v := (-1)) C dX4_fewestLegs_92 (by decide) ?_
      exact z_iret C dX4_fewestLegs_93
    · refine z_iload C dX4_fewestLegs_94 5 rfl ?_
      refine z_iload C dX4_fewestLegs_96 0 rfl ?_
      refine z_ior C dX4_fewestLegs_98 ?_
      refine z_istore (lv1 := [(5, .int (x5 ||| ((x8 &&& x3) &&& (x5 ^^^ (-1))))), (6, .int ((x8 &&& x3) &&& (x5 ^^^ (-1)))), (0, .ref (ga (kG K) 36)), (2, .int x2), (3, .int x3), (4, .int x4), (7, .int x7), (8, .int x8), (9, .int x9)]) C dX4_fewestLegs_99 (by decide) rfl ?_
      refine z_iinc (v := 1) (lv1 := [(7, .int (x7 + 1)), (5, .int (x5 ||| ((x8 &&& x3) &&& (x5 ^^^ (-1))))), (6, .int ((x8 &&& x3) &&& (x5 ^^^ (-1)))), (0, .ref (ga (kG K) 36)), (2, .int x2), (3, .int x3), (4, .int x4), (8, .int x8), (9, .int x9)]) C dX4_fewestLegs_101 6 rfl (by decide) (by decide) rfl ?_
      refine z_goto (tgt := 12) C dX4_fewestLegs_104 (by decide) ?_
      exact z_sub [3, 4, 5, 6, 1, 2, 0] rfl (hk12 (x5 ||| ((x8 &&& x3) &&& (x5 ^^^ (-1)))) ((x8 &&& x3) &&& (x5 ^^^ (-1))) (x7 + 1) σ)
  · refine z_iload C dX4_fewestLegs_44 5 rfl ?_
    refine z_iload C dX4_fewestLegs_46 8 rfl ?_
    refine z_callNz (As := [.int x6, .int x9]) (st := []) C zy_X9_hasBit zs_X9_hasBit mn_X4_27 (by decide) (fun _ _ h => m_X9_hasBit h) rfl rfl (Nat.le_of_ble_eq_true rfl) dX4_fewestLegs_48 (fun v1 σ1 => ?_)
    refine z_if_eq (tgt := 70) C dX4_fewestLegs_51 (by decide) ?_ ?_
    · refine z_iinc (v := 1) (lv1 := [(9, .int (x9 + 1)), (0, .ref (ga (kG K) 36)), (2, .int x2), (3, .int x3), (4, .int x4), (5, .int x5), (6, .int x6), (7, .int x7), (8, .int x8)]) C dX4_fewestLegs_70 8 rfl (by decide) (by decide) rfl ?_
      refine z_goto (tgt := 37) C dX4_fewestLegs_73 (by decide) ?_
      exact z_sub [1, 2, 3, 4, 5, 6, 7, 8, 0] rfl (ih x8 (x9 + 1) σ1)
    · refine z_iload C dX4_fewestLegs_54 7 rfl ?_
      refine z_aload_n C dX4_fewestLegs_56 0 rfl ?_
      refine z_getR C fd_X4_9 dX4_fewestLegs_57 ?_
      refine z_iload C dX4_fewestLegs_60 8 rfl ?_
      refine z_iload C dX4_fewestLegs_62 3 rfl ?_
      refine z_callVi (q := 4) (As := [.int x9, .int x4]) (st := [.int x8]) C zy_X3_waysFrom zv_X3_waysFrom ml_X4_31 rcA_4 (by decide) (fun _ _ h => m_X3_waysFrom h) rfl rfl (Nat.le_of_ble_eq_true rfl) dX4_fewestLegs_64 (fun v2 σ2 => ?_)
      refine z_ior C dX4_fewestLegs_67 ?_
      refine z_istore (lv1 := [(8, .int (x8 ||| v2)), (0, .ref (ga (kG K) 36)), (2, .int x2), (3, .int x3), (4, .int x4), (5, .int x5), (6, .int x6), (7, .int x7), (9, .int x9)]) C dX4_fewestLegs_68 (by decide) rfl ?_
      refine z_iinc (v := 1) (lv1 := [(9, .int (x9 + 1)), (8, .int (x8 ||| v2)), (0, .ref (ga (kG K) 36)), (2, .int x2), (3, .int x3), (4, .int x4), (5, .int x5), (6, .int x6), (7, .int x7)]) C dX4_fewestLegs_70 8 rfl (by decide) (by decide) rfl ?_
      refine z_goto (tgt := 37) C dX4_fewestLegs_73 (by decide) ?_
      exact z_sub [2, 3, 4, 5, 6, 7, 8, 1, 0] rfl (ih (x8 ||| v2) (x9 + 1) σ2)
theorem b_X4_fewestLegs_L12 (K : zK) (C : zOk zshA K RX4 cX4_fewestLegs (some .int) 10 1) (x2 : Int32) (x3 : Int32) (x4 : Int32) : ∀ (n : Nat) (x5 : Int32) (x6 : Int32) (x7 : Int32) (σ : zS), Zf zshA K (f_X4_fewestLegs_L12 x2 x3 x4 n x5 x6 x7 σ) 12 [(0, .ref (ga (kG K) 36)), (2, .int x2), (3, .int x3), (4, .int x4), (5, .int x5), (6, .int x6), (7, .int x7)] [] σ := by
  intro n
  induction n with
  | zero => intro x5 x6 x7 σ; rw [f_X4_fewestLegs_L12]; exact z_none
  | succ n ih =>
  intro x5 x6 x7 σ
  rw [f_X4_fewestLegs_L12]
  refine z_iload C dX4_fewestLegs_12 6 rfl ?_
  refine z_bipush (v := 10) C dX4_fewestLegs_14 (by decide) ?_
  refine z_icmp_ge (tgt := 107) C dX4_fewestLegs_16 (by decide) ?_ ?_
  · refine z_iconst (v := (-1)) C dX4_fewestLegs_107 (by decide) ?_
    exact z_iret C dX4_fewestLegs_108
  · refine z_iload C dX4_fewestLegs_19 4 rfl ?_
    refine z_iload_n C dX4_fewestLegs_21 1 rfl ?_
    refine z_callNz (As := [.int x5, .int x2]) (st := []) C zy_X9_hasBit zs_X9_hasBit mn_X4_27 (by decide) (fun _ _ h => m_X9_hasBit h) rfl rfl (Nat.le_of_ble_eq_true rfl) dX4_fewestLegs_22 (fun v1 σ1 => ?_)
    refine z_if_eq (tgt := 31) C dX4_fewestLegs_25 (by decide) ?_ ?_
    · refine z_iconst (v := 0) C dX4_fewestLegs_31 (by decide) ?_
      refine z_istore (lv1 := [(8, .int 0), (0, .ref (ga (kG K) 36)), (2, .int x2), (3, .int x3), (4, .int x4), (5, .int x5), (6, .int x6), (7, .int x7)]) C dX4_fewestLegs_32 (by decide) rfl ?_
      refine z_iconst (v := 0) C dX4_fewestLegs_34 (by decide) ?_
      refine z_istore (lv1 := [(9, .int 0), (8, .int 0), (0, .ref (ga (kG K) 36)), (2, .int x2), (3, .int x3), (4, .int x4), (5, .int x5), (6, .int x6), (7, .int x7)]) C dX4_fewestLegs_35 (by decide) rfl ?_
      exact z_sub [2, 3, 4, 5, 6, 7, 8, 1, 0] rfl (b_X4_fewestLegs_L37 K C x2 x3 x4 x5 x6 x7 _ ih zfu 0 0 σ1)
    · refine z_iload C dX4_fewestLegs_28 6 rfl ?_
      exact z_iret C dX4_fewestLegs_30
theorem b_X4_fewestLegs (K : zK) (C : zOk zshA K RX4 cX4_fewestLegs (some .int) 10 1) (x1 : Int32) (x2 : Int32) (x3 : Int32) (x4 : Int32) (σ : zS) : Zf zshA K (f_X4_fewestLegs x1 x2 x3 x4 σ) 0 [(0, .ref (ga (kG K) 36)), (1, .int x1), (2, .int x2), (3, .int x3), (4, .int x4)] [] σ := by
  unfold f_X4_fewestLegs
  refine z_iconst (v := 1) C dX4_fewestLegs_0 (by decide) ?_
  refine z_iload_n C dX4_fewestLegs_1 1 rfl ?_
  refine z_ishl C dX4_fewestLegs_2 ?_
  refine z_istore (lv1 := [(5, .int ((1 : Int32) <<< (x1 &&& 31))), (0, .ref (ga (kG K) 36)), (1, .int x1), (2, .int x2), (3, .int x3), (4, .int x4)]) C dX4_fewestLegs_3 (by decide) rfl ?_
  refine z_iload C dX4_fewestLegs_5 0 rfl ?_
  refine z_istore (lv1 := [(6, .int ((1 : Int32) <<< (x1 &&& 31))), (5, .int ((1 : Int32) <<< (x1 &&& 31))), (0, .ref (ga (kG K) 36)), (1, .int x1), (2, .int x2), (3, .int x3), (4, .int x4)]) C dX4_fewestLegs_7 (by decide) rfl ?_
  refine z_iconst (v := 0) C dX4_fewestLegs_9 (by decide) ?_
  refine z_istore (lv1 := [(7, .int 0), (6, .int ((1 : Int32) <<< (x1 &&& 31))), (5, .int ((1 : Int32) <<< (x1 &&& 31))), (0, .ref (ga (kG K) 36)), (1, .int x1), (2, .int x2), (3, .int x3), (4, .int x4)]) C dX4_fewestLegs_10 (by decide) rfl ?_
  exact z_sub [3, 5, 6, 7, 2, 1, 0] rfl (b_X4_fewestLegs_L12 K C x2 x3 x4 zfu ((1 : Int32) <<< (x1 &&& 31)) ((1 : Int32) <<< (x1 &&& 31)) 0 σ)
theorem m_X4_fewestLegs {l : Launch} {G : zG} {x1 : Int32} {x2 : Int32} {x3 : Int32} {x4 : Int32} {σ σ1 : zS} {r : Int32} (h : f_X4_fewestLegs x1 x2 x3 x4 σ = some (r, σ1)) : zM l G zshA yX4_fewestLegs cX4_fewestLegs 10 (some .int) 1 [.ref (ga G 36), .int x1, .int x2, .int x3, .int x4] (zov (some .int) G r) σ σ1 :=
  z_met (by decide) (Nat.le_of_ble_eq_true rfl) h (fun K _ hG C => by subst hG; exact b_X4_fewestLegs K C x1 x2 x3 x4 σ)
theorem b_X4_nearestOf_L4 (K : zK) (C : zOk zshA K RX4 cX4_nearestOf (some .int) 4 1) (x1 : Int32) : ∀ (n : Nat) (x2 : Int32) (x3 : Int32) (σ : zS), Zf zshA K (f_X4_nearestOf_L4 x1 n x2 x3 σ) 4 [(0, .ref (ga (kG K) 36)), (1, .int x1), (2, .int x2), (3, .int x3)] [] σ := by
  intro n
  induction n with
  | zero => intro x2 x3 σ; rw [f_X4_nearestOf_L4]; exact z_none
  | succ n ih =>
  intro x2 x3 σ
  rw [f_X4_nearestOf_L4]
  refine z_iload_n C dX4_nearestOf_4 3 rfl ?_
  refine z_bipush (v := 10) C dX4_nearestOf_5 (by decide) ?_
  refine z_icmp_ge (tgt := 56) C dX4_nearestOf_7 (by decide) ?_ ?_
  · refine z_iload_n C dX4_nearestOf_56 2 rfl ?_
    exact z_iret C dX4_nearestOf_57
  · refine z_iload_n C dX4_nearestOf_10 1 rfl ?_
    refine z_iload_n C dX4_nearestOf_11 3 rfl ?_
    refine z_callNz (As := [.int x1, .int x3]) (st := []) C zy_X9_hasBit zs_X9_hasBit mn_X4_27 (by decide) (fun _ _ h => m_X9_hasBit h) rfl rfl (Nat.le_of_ble_eq_true rfl) dX4_nearestOf_12 (fun v1 σ1 => ?_)
    refine z_if_eq (tgt := 50) C dX4_nearestOf_15 (by decide) ?_ ?_
    · refine z_iinc (v := 1) (lv1 := [(3, .int (x3 + 1)), (0, .ref (ga (kG K) 36)), (1, .int x1), (2, .int x2)]) C dX4_nearestOf_50 3 rfl (by decide) (by decide) rfl ?_
      refine z_goto (tgt := 4) C dX4_nearestOf_53 (by decide) ?_
      exact z_sub [1, 2, 3, 0] rfl (ih x2 (x3 + 1) σ1)
    · refine z_aload_n C dX4_nearestOf_18 0 rfl ?_
      refine z_getR C fd_X4_23 dX4_nearestOf_19 ?_
      refine z_iload_n C dX4_nearestOf_22 3 rfl ?_
      refine z_iald C sA_37 dX4_nearestOf_23 (fun v2 => ?_)
      refine z_iconst (v := (-1)) C dX4_nearestOf_24 (by decide) ?_
      refine z_icmp_eq (tgt := 50) C dX4_nearestOf_25 (by decide) ?_ ?_
      · refine z_iinc (v := 1) (lv1 := [(3, .int (x3 + 1)), (0, .ref (ga (kG K) 36)), (1, .int x1), (2, .int x2)]) C dX4_nearestOf_50 3 rfl (by decide) (by decide) rfl ?_
        refine z_goto (tgt := 4) C dX4_nearestOf_53 (by decide) ?_
        exact z_sub [1, 2, 3, 0] rfl (ih x2 (x3 + 1) σ1)
      · refine z_iload_n C dX4_nearestOf_28 2 rfl ?_
        refine z_iconst (v := (-1)) C dX4_nearestOf_29 (by decide) ?_
        refine z_icmp_eq (tgt := 48) C dX4_nearestOf_30 (by decide) ?_ ?_
        · refine z_iload_n C dX4_nearestOf_48 3 rfl ?_
          refine z_istore_n (lv1 := [(2, .int x3), (0, .ref (ga (kG K) 36)), (1, .int x1), (3, .int x3)]) C dX4_nearestOf_49 (by decide) rfl ?_
          refine z_iinc (v := 1) (lv1 := [(3, .int (x3 + 1)), (2, .int x3), (0, .ref (ga (kG K) 36)), (1, .int x1)]) C dX4_nearestOf_50 3 rfl (by decide) (by decide) rfl ?_
          refine z_goto (tgt := 4) C dX4_nearestOf_53 (by decide) ?_
          exact z_sub [2, 3, 1, 0] rfl (ih x3 (x3 + 1) σ1)
        · refine z_aload_n C dX4_nearestOf_33 0 rfl ?_
          refine z_getR C fd_X4_23 dX4_nearestOf_34 ?_
          refine z_iload_n C dX4_nearestOf_37 3 rfl ?_
          refine z_iald C sA_37 dX4_nearestOf_38 (fun v3 => ?_)
          refine z_aload_n C dX4_nearestOf_39 0 rfl ?_
          refine z_getR C fd_X4_23 dX4_nearestOf_40 ?_
          refine z_iload_n C dX4_nearestOf_43 2 rfl ?_
          refine z_iald C sA_37 dX4_nearestOf_44 (fun v4 => ?_)
          refine z_icmp_ge (tgt := 50) C dX4_nearestOf_45 (by decide) ?_ ?_
          · refine z_iinc (v := 1) (lv1 := [(3, .int (x3 + 1)), (0, .ref (ga (kG K) 36)), (1, .int x1), (2, .int x2)]) C dX4_nearestOf_50 3 rfl (by decide) (by decide) rfl ?_
            refine z_goto (tgt := 4) C dX4_nearestOf_53 (by decide) ?_
            exact z_sub [1, 2, 3, 0] rfl (ih x2 (x3 + 1) σ1)
          · refine z_iload_n C dX4_nearestOf_48 3 rfl ?_
            refine z_istore_n (lv1 := [(2, .int x3), (0, .ref (ga (kG K) 36)), (1, .int x1), (3, .int x3)]) C dX4_nearestOf_49 (by decide) rfl ?_
            refine z_iinc (v := 1) (lv1 := [(3, .int (x3 + 1)), (2, .int x3), (0, .ref (ga (kG K) 36)), (1, .int x1)]) C dX4_nearestOf_50 3 rfl (by decide) (by decide) rfl ?_
            refine z_goto (tgt := 4) C dX4_nearestOf_53 (by decide) ?_
            exact z_sub [2, 3, 1, 0] rfl (ih x3 (x3 + 1) σ1)
theorem b_X4_nearestOf (K : zK) (C : zOk zshA K RX4 cX4_nearestOf (some .int) 4 1) (x1 : Int32) (σ : zS) : Zf zshA K (f_X4_nearestOf x1 σ) 0 [(0, .ref (ga (kG K) 36)), (1, .int x1)] [] σ := by
  unfold f_X4_nearestOf
  refine z_iconst (v := (-1)) C dX4_nearestOf_0 (by decide) ?_
  refine z_istore_n (lv1 := [(2, .int (-1)), (0, .ref (ga (kG K) 36)), (1, .int x1)]) C dX4_nearestOf_1 (by decide) rfl ?_
  refine z_iconst (v := 0) C dX4_nearestOf_2 (by decide) ?_
  refine z_istore_n (lv1 := [(3, .int 0), (2, .int (-1)), (0, .ref (ga (kG K) 36)), (1, .int x1)]) C dX4_nearestOf_3 (by decide) rfl ?_
  exact z_sub [2, 3, 1, 0] rfl (b_X4_nearestOf_L4 K C x1 zfu (-1) 0 σ)
theorem m_X4_nearestOf {l : Launch} {G : zG} {x1 : Int32} {σ σ1 : zS} {r : Int32} (h : f_X4_nearestOf x1 σ = some (r, σ1)) : zM l G zshA yX4_nearestOf cX4_nearestOf 4 (some .int) 1 [.ref (ga G 36), .int x1] (zov (some .int) G r) σ σ1 :=
  z_met (by decide) (Nat.le_of_ble_eq_true rfl) h (fun K _ hG C => by subst hG; exact b_X4_nearestOf K C x1 σ)
theorem b_X3_milesOf_J32 (K : zK) (C : zOk zshA K RX3 cX3_milesOf (some .int) 6 1) (x4 : Int32) (s0 : Int32) (σ : zS) : Zf zshA K (f_X3_milesOf_J32 x4 s0 σ) 32 [(4, .int x4)] [.int s0] σ := by
  unfold f_X3_milesOf_J32
  refine z_istore (lv1 := [(5, .int s0), (4, .int x4)]) C dX3_milesOf_32 (by decide) rfl ?_
  refine z_iload C dX3_milesOf_34 1 rfl ?_
  refine z_if_eq (tgt := 44) C dX3_milesOf_36 (by decide) ?_ ?_
  · refine z_iload C dX3_milesOf_44 1 rfl ?_
    refine z_iload C dX3_milesOf_46 0 rfl ?_
    refine z_iadd C dX3_milesOf_48 ?_
    exact z_iret C dX3_milesOf_49
  · refine z_iload C dX3_milesOf_39 0 rfl ?_
    refine z_if_ne (tgt := 50) C dX3_milesOf_41 (by decide) ?_ ?_
    · refine z_iload C dX3_milesOf_44 1 rfl ?_
      refine z_iload C dX3_milesOf_46 0 rfl ?_
      refine z_iadd C dX3_milesOf_48 ?_
      exact z_iret C dX3_milesOf_49
    · refine z_iload C dX3_milesOf_50 1 rfl ?_
      refine z_iload C dX3_milesOf_52 0 rfl ?_
      refine z_mmin C ml_X3_68 zma_min_s zma_i zma_min_c (by decide) (Nat.le_of_ble_eq_true rfl) dX3_milesOf_54 ?_
      exact z_iret C dX3_milesOf_57
theorem b_X3_milesOf (K : zK) (C : zOk zshA K RX3 cX3_milesOf (some .int) 6 1) (x1 : Int32) (x2 : Int32) (x3 : Int32) (σ : zS) : Zf zshA K (f_X3_milesOf x1 x2 x3 σ) 0 [(0, .ref (ga (kG K) 4)), (1, .int x1), (2, .int x2), (3, .int x3)] [] σ := by
  unfold f_X3_milesOf
  refine z_aload_n C dX3_milesOf_0 0 rfl ?_
  refine z_getR C fd_X3_37 dX3_milesOf_1 ?_
  refine z_iload_n C dX3_milesOf_4 1 rfl ?_
  refine z_bipush (v := 10) C dX3_milesOf_5 (by decide) ?_
  refine z_imul C dX3_milesOf_7 ?_
  refine z_iload_n C dX3_milesOf_8 2 rfl ?_
  refine z_iadd C dX3_milesOf_9 ?_
  refine z_iald C sA_13 dX3_milesOf_10 (fun v1 => ?_)
  refine z_istore (lv1 := [(4, .int v1), (0, .ref (ga (kG K) 4)), (1, .int x1), (2, .int x2), (3, .int x3)]) C dX3_milesOf_11 (by decide) rfl ?_
  refine z_iload_n C dX3_milesOf_13 4 rfl ?_
  refine z_if_eq (tgt := 31) C dX3_milesOf_14 (by decide) ?_ ?_
  · refine z_iconst (v := 0) C dX3_milesOf_31 (by decide) ?_
    exact z_sub [0] rfl (b_X3_milesOf_J32 K C v1 0 σ)
  · refine z_aload_n C dX3_milesOf_17 1 rfl ?_
    refine z_getR C fd_X3_40 dX3_milesOf_18 ?_
    refine z_iload_n C dX3_milesOf_21 2 rfl ?_
    refine z_bipush (v := 10) C dX3_milesOf_22 (by decide) ?_
    refine z_imul C dX3_milesOf_24 ?_
    refine z_iload_n C dX3_milesOf_25 3 rfl ?_
    refine z_iadd C dX3_milesOf_26 ?_
    refine z_iald C sA_14 dX3_milesOf_27 (fun v2 => ?_)
    refine z_goto (tgt := 32) C dX3_milesOf_28 (by decide) ?_
    exact z_sub [0] rfl (b_X3_milesOf_J32 K C v1 v2 σ)
theorem m_X3_milesOf {l : Launch} {G : zG} {x1 : Int32} {x2 : Int32} {x3 : Int32} {σ σ1 : zS} {r : Int32} (h : f_X3_milesOf x1 x2 x3 σ = some (r, σ1)) : zM l G zshA yX3_milesOf cX3_milesOf 6 (some .int) 1 [.ref (ga G 4), .int x1, .int x2, .int x3] (zov (some .int) G r) σ σ1 :=
  z_met (by decide) (Nat.le_of_ble_eq_true rfl) h (fun K _ hG C => by subst hG; exact b_X3_milesOf K C x1 x2 x3 σ)
theorem b_X4_goOnFrom_J34 (K : zK) (C : zOk zshA K RX4 cX4_goOnFrom none 6 2) (x1 : Int32) (x2 : Int32) (x3 : Int32) (x4 : Int32) (s0 : Int32) (k3 : Int32 → zS → Option (Int32 × zS)) (hk3 : ∀ (x4 : Int32) (σ : zS), Zf zshA K (k3 x4 σ) 3 [(0, .ref (ga (kG K) 36)), (1, .int x1), (2, .int x2), (3, .int x3), (4, .int x4)] [] σ) (σ : zS) : Zf zshA K (f_X4_goOnFrom_J34 k3 x1 x2 x3 x4 s0 σ) 34 [(0, .ref (ga (kG K) 36)), (1, .int x1), (2, .int x2), (3, .int x3), (4, .int x4)] [.int s0] σ := by
  unfold f_X4_goOnFrom_J34
  refine z_istore (lv1 := [(5, .int s0), (0, .ref (ga (kG K) 36)), (1, .int x1), (2, .int x2), (3, .int x3), (4, .int x4)]) C dX4_goOnFrom_34 (by decide) rfl ?_
  refine z_iload C dX4_goOnFrom_36 0 rfl ?_
  refine z_if_le (tgt := 67) C dX4_goOnFrom_38 (by decide) ?_ ?_
  · refine z_iinc (v := 1) (lv1 := [(4, .int (x4 + 1)), (5, .int s0), (0, .ref (ga (kG K) 36)), (1, .int x1), (2, .int x2), (3, .int x3)]) C dX4_goOnFrom_67 5 rfl (by decide) (by decide) rfl ?_
    refine z_goto (tgt := 3) C dX4_goOnFrom_70 (by decide) ?_
    exact z_sub [2, 3, 4, 5, 0] rfl (hk3 (x4 + 1) σ)
  · refine z_aload_n C dX4_goOnFrom_41 1 rfl ?_
    refine z_getR C fd_X4_23 dX4_goOnFrom_42 ?_
    refine z_iload C dX4_goOnFrom_45 5 rfl ?_
    refine z_aload_n C dX4_goOnFrom_47 1 rfl ?_
    refine z_getR C fd_X4_23 dX4_goOnFrom_48 ?_
    refine z_iload C dX4_goOnFrom_51 5 rfl ?_
    refine z_iald C sA_37 dX4_goOnFrom_53 (fun v1 => ?_)
    refine z_aload_n C dX4_goOnFrom_54 1 rfl ?_
    refine z_getR C fd_X4_23 dX4_goOnFrom_55 ?_
    refine z_iload_n C dX4_goOnFrom_58 2 rfl ?_
    refine z_iald C sA_37 dX4_goOnFrom_59 (fun v2 => ?_)
    refine z_iload C dX4_goOnFrom_60 0 rfl ?_
    refine z_iadd C dX4_goOnFrom_62 ?_
    refine z_callNi (As := [.int v1, .int (v2 + s0)]) (st := [.int x4, .ref (ga (kG K) 37)]) C zy_X9_lesser zs_X9_lesser mn_X4_49 (by decide) (fun _ _ h => m_X9_lesser h) rfl rfl (Nat.le_of_ble_eq_true rfl) dX4_goOnFrom_63 (fun v3 σ3 => ?_)
    refine z_iast C sA_37 dX4_goOnFrom_66 (fun σ4 => ?_)
    refine z_iinc (v := 1) (lv1 := [(4, .int (x4 + 1)), (5, .int s0), (0, .ref (ga (kG K) 36)), (1, .int x1), (2, .int x2), (3, .int x3)]) C dX4_goOnFrom_67 5 rfl (by decide) (by decide) rfl ?_
    refine z_goto (tgt := 3) C dX4_goOnFrom_70 (by decide) ?_
    exact z_sub [2, 3, 4, 5, 0] rfl (hk3 (x4 + 1) σ4)
theorem b_X4_goOnFrom_L3 (K : zK) (C : zOk zshA K RX4 cX4_goOnFrom none 6 2) (x1 : Int32) (x2 : Int32) (x3 : Int32) : ∀ (n : Nat) (x4 : Int32) (σ : zS), Zf zshA K (f_X4_goOnFrom_L3 x1 x2 x3 n x4 σ) 3 [(0, .ref (ga (kG K) 36)), (1, .int x1), (2, .int x2), (3, .int x3), (4, .int x4)] [] σ := by
  intro n
  induction n with
  | zero => intro x4 σ; rw [f_X4_goOnFrom_L3]; exact z_none
  | succ n ih =>
  intro x4 σ
  rw [f_X4_goOnFrom_L3]
  refine z_iload C dX4_goOnFrom_3 4 rfl ?_
  refine z_bipush (v := 10) C dX4_goOnFrom_5 (by decide) ?_
  refine z_icmp_ge (tgt := 73) C dX4_goOnFrom_7 (by decide) ?_ ?_
  · exact z_vret C dX4_goOnFrom_73
  · refine z_iload_n C dX4_goOnFrom_10 2 rfl ?_
    refine z_iload C dX4_goOnFrom_11 4 rfl ?_
    refine z_callNz (As := [.int x2, .int x4]) (st := []) C zy_X9_hasBit zs_X9_hasBit mn_X4_27 (by decide) (fun _ _ h => m_X9_hasBit h) rfl rfl (Nat.le_of_ble_eq_true rfl) dX4_goOnFrom_13 (fun v1 σ1 => ?_)
    refine z_if_eq (tgt := 33) C dX4_goOnFrom_16 (by decide) ?_ ?_
    · refine z_iconst (v := 0) C dX4_goOnFrom_33 (by decide) ?_
      exact z_sub [0, 1, 2, 3, 4] rfl (b_X4_goOnFrom_J34 K C x1 x2 x3 x4 0 _ ih σ1)
    · refine z_aload_n C dX4_goOnFrom_19 0 rfl ?_
      refine z_getR C fd_X4_9 dX4_goOnFrom_20 ?_
      refine z_iload_n C dX4_goOnFrom_23 1 rfl ?_
      refine z_iload C dX4_goOnFrom_24 4 rfl ?_
      refine z_iload_n C dX4_goOnFrom_26 3 rfl ?_
      refine z_callVi (q := 4) (As := [.int x1, .int x4, .int x3]) (st := []) C zy_X3_milesOf zv_X3_milesOf ml_X4_45 rcA_4 (by decide) (fun _ _ h => m_X3_milesOf h) rfl rfl (Nat.le_of_ble_eq_true rfl) dX4_goOnFrom_27 (fun v2 σ2 => ?_)
      refine z_goto (tgt := 34) C dX4_goOnFrom_30 (by decide) ?_
      exact z_sub [0, 1, 2, 3, 4] rfl (b_X4_goOnFrom_J34 K C x1 x2 x3 x4 v2 _ ih σ2)
theorem b_X4_goOnFrom (K : zK) (C : zOk zshA K RX4 cX4_goOnFrom none 6 2) (x1 : Int32) (x2 : Int32) (x3 : Int32) (σ : zS) : Zf zshA K (f_X4_goOnFrom x1 x2 x3 σ) 0 [(0, .ref (ga (kG K) 36)), (1, .int x1), (2, .int x2), (3, .int x3)] [] σ := by
  unfold f_X4_goOnFrom
  refine z_iconst (v := 0) C dX4_goOnFrom_0 (by decide) ?_
  refine z_istore (lv1 := [(4, .int 0), (0, .ref (ga (kG K) 36)), (1, .int x1), (2, .int x2), (3, .int x3)]) C dX4_goOnFrom_1 (by decide) rfl ?_
  exact z_sub [1, 2, 3, 4, 0] rfl (b_X4_goOnFrom_L3 K C x1 x2 x3 zfu 0 σ)
theorem m_X4_goOnFrom {l : Launch} {G : zG} {x1 : Int32} {x2 : Int32} {x3 : Int32} {σ σ1 : zS} {r : Int32} (h : f_X4_goOnFrom x1 x2 x3 σ = some (r, σ1)) : zM l G zshA yX4_goOnFrom cX4_goOnFrom 6 none 2 [.ref (ga G 36), .int x1, .int x2, .int x3] (zov none G r) σ σ1 :=
  z_met (by decide) (Nat.le_of_ble_eq_true rfl) h (fun K _ hG C => by subst hG; exact b_X4_goOnFrom K C x1 x2 x3 σ)
theorem b_X4_measureMiles_L39 (K : zK) (C : zOk zshA K RX4 cX4_measureMiles none 7 3) (x2 : Int32) (x3 : Int32) : ∀ (n : Nat) (x4 : Int32) (x5 : Int32) (σ : zS), Zf zshA K (f_X4_measureMiles_L39 x2 x3 n x4 x5 σ) 39 [(0, .ref (ga (kG K) 36)), (2, .int x2), (3, .int x3), (4, .int x4), (5, .int x5)] [] σ := by
  intro n
  induction n with
  | zero => intro x4 x5 σ; rw [f_X4_measureMiles_L39]; exact z_none
  | succ n ih =>
  intro x4 x5 σ
  rw [f_X4_measureMiles_L39]
  refine z_iload C dX4_measureMiles_39 4 rfl ?_
  refine z_bipush (v := 10) C dX4_measureMiles_41 (by decide) ?_
  refine z_icmp_ge (tgt := 89) C dX4_measureMiles_43 (by decide) ?_ ?_
  · exact z_vret C dX4_measureMiles_89
  · refine z_aload_n C dX4_measureMiles_46 0 rfl ?_
    refine z_iload C dX4_measureMiles_47 3 rfl ?_
    refine z_callVi (q := 36) (As := [.int x4]) (st := []) C zy_X4_nearestOf zv_X4_nearestOf ml_X4_37 rcA_36 (by decide) (fun _ _ h => m_X4_nearestOf h) rfl rfl (Nat.le_of_ble_eq_true rfl) dX4_measureMiles_49 (fun v1 σ1 => ?_)
    refine z_istore (lv1 := [(6, .int v1), (0, .ref (ga (kG K) 36)), (2, .int x2), (3, .int x3), (4, .int x4), (5, .int x5)]) C dX4_measureMiles_52 (by decide) rfl ?_
    refine z_iload C dX4_measureMiles_54 0 rfl ?_
    refine z_iconst (v := (-1)) C dX4_measureMiles_56 (by decide) ?_
    refine z_icmp_ne (tgt := 61) C dX4_measureMiles_57 (by decide) ?_ ?_
    · exact z_vret C dX4_measureMiles_60
    · refine z_iload C dX4_measureMiles_61 4 rfl ?_
      refine z_iconst (v := 1) C dX4_measureMiles_63 (by decide) ?_
      refine z_iload C dX4_measureMiles_64 0 rfl ?_
      refine z_ishl C dX4_measureMiles_66 ?_
      refine z_iconst (v := (-1)) C dX4_measureMiles_67 (by decide) ?_
      refine z_ixor C dX4_measureMiles_68 ?_
      refine z_iand C dX4_measureMiles_69 ?_
      refine z_istore (lv1 := [(4, .int (x4 &&& (((1 : Int32) <<< (v1 &&& 31)) ^^^ (-1)))), (6, .int v1), (0, .ref (ga (kG K) 36)), (2, .int x2), (3, .int x3), (5, .int x5)]) C dX4_measureMiles_70 (by decide) rfl ?_
      refine z_aload_n C dX4_measureMiles_72 2 rfl ?_
      refine z_iload C dX4_measureMiles_73 1 rfl ?_
      refine z_iload C dX4_measureMiles_75 0 rfl ?_
      refine z_iload_n C dX4_measureMiles_77 3 rfl ?_
      refine z_iand C dX4_measureMiles_78 ?_
      refine z_iload_n C dX4_measureMiles_79 4 rfl ?_
      refine z_callVv (q := 36) (As := [.int v1, .int ((x4 &&& (((1 : Int32) <<< (v1 &&& 31)) ^^^ (-1))) &&& x2), .int x3]) (st := []) C zy_X4_goOnFrom zv_X4_goOnFrom ml_X4_41 rcA_36 (by decide) (fun _ _ h => m_X4_goOnFrom h) rfl rfl (Nat.le_of_ble_eq_true rfl) dX4_measureMiles_80 (fun _ σ2 => ?_)
      refine z_iinc (v := 1) (lv1 := [(5, .int (x5 + 1)), (4, .int (x4 &&& (((1 : Int32) <<< (v1 &&& 31)) ^^^ (-1)))), (6, .int v1), (0, .ref (ga (kG K) 36)), (2, .int x2), (3, .int x3)]) C dX4_measureMiles_83 5 rfl (by decide) (by decide) rfl ?_
      refine z_goto (tgt := 39) C dX4_measureMiles_86 (by decide) ?_
      exact z_sub [3, 4, 5, 1, 0] rfl (ih (x4 &&& (((1 : Int32) <<< (v1 &&& 31)) ^^^ (-1))) (x5 + 1) σ2)
theorem b_X4_measureMiles_L3 (K : zK) (C : zOk zshA K RX4 cX4_measureMiles none 7 3) (x1 : Int32) (x2 : Int32) (x3 : Int32) : ∀ (n : Nat) (x4 : Int32) (σ : zS), Zf zshA K (f_X4_measureMiles_L3 x1 x2 x3 n x4 σ) 3 [(0, .ref (ga (kG K) 36)), (1, .int x1), (2, .int x2), (3, .int x3), (4, .int x4)] [] σ := by
  intro n
  induction n with
  | zero => intro x4 σ; rw [f_X4_measureMiles_L3]; exact z_none
  | succ n ih =>
  intro x4 σ
  rw [f_X4_measureMiles_L3]
  refine z_iload C dX4_measureMiles_3 4 rfl ?_
  refine z_bipush (v := 10) C dX4_measureMiles_5 (by decide) ?_
  refine z_icmp_ge (tgt := 24) C dX4_measureMiles_7 (by decide) ?_ ?_
  · refine z_aload_n C dX4_measureMiles_24 0 rfl ?_
    refine z_getR C fd_X4_23 dX4_measureMiles_25 ?_
    refine z_iload_n C dX4_measureMiles_28 1 rfl ?_
    refine z_iconst (v := 0) C dX4_measureMiles_29 (by decide) ?_
    refine z_iast C sA_37 dX4_measureMiles_30 (fun σ1 => ?_)
    refine z_sipush (v := 1023) C dX4_measureMiles_31 (by decide) ?_
    refine z_istore (lv1 := [(4, .int 1023), (0, .ref (ga (kG K) 36)), (1, .int x1), (2, .int x2), (3, .int x3)]) C dX4_measureMiles_34 (by decide) rfl ?_
    refine z_iconst (v := 0) C dX4_measureMiles_36 (by decide) ?_
    refine z_istore (lv1 := [(5, .int 0), (4, .int 1023), (0, .ref (ga (kG K) 36)), (1, .int x1), (2, .int x2), (3, .int x3)]) C dX4_measureMiles_37 (by decide) rfl ?_
    exact z_sub [2, 4, 5, 1, 0] rfl (b_X4_measureMiles_L39 K C x2 x3 zfu 1023 0 σ1)
  · refine z_aload_n C dX4_measureMiles_10 0 rfl ?_
    refine z_getR C fd_X4_23 dX4_measureMiles_11 ?_
    refine z_iload C dX4_measureMiles_14 4 rfl ?_
    refine z_iconst (v := (-1)) C dX4_measureMiles_16 (by decide) ?_
    refine z_iast C sA_37 dX4_measureMiles_17 (fun σ1 => ?_)
    refine z_iinc (v := 1) (lv1 := [(4, .int (x4 + 1)), (0, .ref (ga (kG K) 36)), (1, .int x1), (2, .int x2), (3, .int x3)]) C dX4_measureMiles_18 4 rfl (by decide) (by decide) rfl ?_
    refine z_goto (tgt := 3) C dX4_measureMiles_21 (by decide) ?_
    exact z_sub [1, 2, 3, 4, 0] rfl (ih (x4 + 1) σ1)
theorem b_X4_measureMiles (K : zK) (C : zOk zshA K RX4 cX4_measureMiles none 7 3) (x1 : Int32) (x2 : Int32) (x3 : Int32) (σ : zS) : Zf zshA K (f_X4_measureMiles x1 x2 x3 σ) 0 [(0, .ref (ga (kG K) 36)), (1, .int x1), (2, .int x2), (3, .int x3)] [] σ := by
  unfold f_X4_measureMiles
  refine z_iconst (v := 0) C dX4_measureMiles_0 (by decide) ?_
  refine z_istore (lv1 := [(4, .int 0), (0, .ref (ga (kG K) 36)), (1, .int x1), (2, .int x2), (3, .int x3)]) C dX4_measureMiles_1 (by decide) rfl ?_
  exact z_sub [1, 2, 3, 4, 0] rfl (b_X4_measureMiles_L3 K C x1 x2 x3 zfu 0 σ)
theorem m_X4_measureMiles {l : Launch} {G : zG} {x1 : Int32} {x2 : Int32} {x3 : Int32} {σ σ1 : zS} {r : Int32} (h : f_X4_measureMiles x1 x2 x3 σ = some (r, σ1)) : zM l G zshA yX4_measureMiles cX4_measureMiles 7 none 3 [.ref (ga G 36), .int x1, .int x2, .int x3] (zov none G r) σ σ1 :=
  z_met (by decide) (Nat.le_of_ble_eq_true rfl) h (fun K _ hG C => by subst hG; exact b_X4_measureMiles K C x1 x2 x3 σ)
theorem b_X9_legs (K : zK) (C : zOk zshA K RX9 cX9_legs (some .int) 9 4) (x1 : Int32) (x2 : Int32) (x3 : Int32) (x4 : Int32) (x5 : Int32) (σ : zS) : Zf zshA K (f_X9_legs x1 x2 x3 x4 x5 σ) 0 [(0, .ref (ga (kG K) 0)), (1, .int x1), (2, .int x2), (3, .int x3), (4, .int x4), (5, .int x5)] [] σ := by
  unfold f_X9_legs
  refine z_aload_n C dX9_legs_0 0 rfl ?_
  refine z_getR C fd_X9_26 dX9_legs_1 ?_
  refine z_iload_n C dX9_legs_4 1 rfl ?_
  refine z_callVz (q := 17) (As := [.int x1]) (st := []) C zy_X0_has zv_X0_has ml_X9_163 rcA_17 (by decide) (fun _ _ h => m_X0_has h) rfl rfl (Nat.le_of_ble_eq_true rfl) dX9_legs_5 (fun v1 σ1 => ?_)
  refine z_if_eq (tgt := 22) C dX9_legs_8 (by decide) ?_ ?_
  · refine z_bipush (v := (-2)) C dX9_legs_22 (by decide) ?_
    exact z_iret C dX9_legs_24
  · refine z_aload_n C dX9_legs_11 0 rfl ?_
    refine z_getR C fd_X9_19 dX9_legs_12 ?_
    refine z_iload_n C dX9_legs_15 2 rfl ?_
    refine z_callVz (q := 4) (As := [.int x2]) (st := []) C zy_X3_isTold zv_X3_isTold ml_X9_127 rcA_4 (by decide) (fun _ _ h => m_X3_isTold h) rfl rfl (Nat.le_of_ble_eq_true rfl) dX9_legs_16 (fun v2 σ2 => ?_)
    refine z_if_ne (tgt := 25) C dX9_legs_19 (by decide) ?_ ?_
    · refine z_bipush (v := (-2)) C dX9_legs_22 (by decide) ?_
      exact z_iret C dX9_legs_24
    · refine z_iload_n C dX9_legs_25 3 rfl ?_
      refine z_iconst (v := 0) C dX9_legs_26 (by decide) ?_
      refine z_sipush (v := 9999) C dX9_legs_27 (by decide) ?_
      refine z_callSz (As := [.int x3, .int 0, .int 9999]) (st := []) C zy_X9_isWithin zs_X9_isWithin ml_X9_84 (by decide) (fun _ _ h => m_X9_isWithin h) rfl rfl (Nat.le_of_ble_eq_true rfl) dX9_legs_30 (fun v3 σ3 => ?_)
      refine z_if_eq (tgt := 46) C dX9_legs_33 (by decide) ?_ ?_
      · refine z_bipush (v := (-3)) C dX9_legs_46 (by decide) ?_
        exact z_iret C dX9_legs_48
      · refine z_iload C dX9_legs_36 5 rfl ?_
        refine z_iconst (v := 0) C dX9_legs_38 (by decide) ?_
        refine z_iconst (v := 1) C dX9_legs_39 (by decide) ?_
        refine z_callSz (As := [.int x5, .int 0, .int 1]) (st := []) C zy_X9_isWithin zs_X9_isWithin ml_X9_84 (by decide) (fun _ _ h => m_X9_isWithin h) rfl rfl (Nat.le_of_ble_eq_true rfl) dX9_legs_40 (fun v4 σ4 => ?_)
        refine z_if_ne (tgt := 49) C dX9_legs_43 (by decide) ?_ ?_
        · refine z_bipush (v := (-3)) C dX9_legs_46 (by decide) ?_
          exact z_iret C dX9_legs_48
        · refine z_aload_n C dX9_legs_49 0 rfl ?_
          refine z_getR C fd_X9_19 dX9_legs_50 ?_
          refine z_getR C fd_X9_130 dX9_legs_53 ?_
          refine z_iload_n C dX9_legs_56 2 rfl ?_
          refine z_iald C sA_9 dX9_legs_57 (fun v5 => ?_)
          refine z_istore (lv1 := [(6, .int v5), (0, .ref (ga (kG K) 0)), (1, .int x1), (2, .int x2), (3, .int x3), (4, .int x4), (5, .int x5)]) C dX9_legs_58 (by decide) rfl ?_
          refine z_aload_n C dX9_legs_60 1 rfl ?_
          refine z_getR C fd_X9_26 dX9_legs_61 ?_
          refine z_getR C fd_X9_175 dX9_legs_64 ?_
          refine z_iload_n C dX9_legs_67 2 rfl ?_
          refine z_iald C sA_18 dX9_legs_68 (fun v6 => ?_)
          refine z_istore (lv1 := [(7, .int v6), (6, .int v5), (0, .ref (ga (kG K) 0)), (1, .int x1), (2, .int x2), (3, .int x3), (4, .int x4), (5, .int x5)]) C dX9_legs_69 (by decide) rfl ?_
          refine z_aload_n C dX9_legs_71 2 rfl ?_
          refine z_getR C fd_X9_19 dX9_legs_72 ?_
          refine z_iload_n C dX9_legs_75 5 rfl ?_
          refine z_callVi (q := 4) (As := [.int x3]) (st := []) C zy_X3_liveIn zv_X3_liveIn ml_X9_223 rcA_4 (by decide) (fun _ _ h => m_X3_liveIn h) rfl rfl (Nat.le_of_ble_eq_true rfl) dX9_legs_76 (fun v7 σ7 => ?_)
          refine z_istore (lv1 := [(8, .int v7), (7, .int v6), (6, .int v5), (0, .ref (ga (kG K) 0)), (1, .int x1), (2, .int x2), (3, .int x3), (4, .int x4), (5, .int x5)]) C dX9_legs_79 (by decide) rfl ?_
          refine z_iload C dX9_legs_81 8 rfl ?_
          refine z_if_ne (tgt := 102) C dX9_legs_83 (by decide) ?_ ?_
          · refine z_aload_n C dX9_legs_86 3 rfl ?_
            refine z_getR C fd_X9_62 dX9_legs_87 ?_
            refine z_iload C dX9_legs_90 2 rfl ?_
            refine z_iload C dX9_legs_92 1 rfl ?_
            refine z_iload C dX9_legs_94 0 rfl ?_
            refine z_iload C dX9_legs_96 7 rfl ?_
            refine z_callVi (q := 36) (As := [.int v5, .int v6, .int v7, .int x4]) (st := []) C zy_X4_fewestLegs zv_X4_fewestLegs ml_X9_226 rcA_36 (by decide) (fun _ _ h => m_X4_fewestLegs h) rfl rfl (Nat.le_of_ble_eq_true rfl) dX9_legs_98 (fun v8 σ8 => ?_)
            exact z_iret C dX9_legs_101
          · refine z_aload_n C dX9_legs_102 3 rfl ?_
            refine z_getR C fd_X9_62 dX9_legs_103 ?_
            refine z_iload C dX9_legs_106 2 rfl ?_
            refine z_iload C dX9_legs_108 0 rfl ?_
            refine z_iload C dX9_legs_110 7 rfl ?_
            refine z_callVv (q := 36) (As := [.int v5, .int v7, .int x4]) (st := []) C zy_X4_measureMiles zv_X4_measureMiles ml_X9_230 rcA_36 (by decide) (fun _ _ h => m_X4_measureMiles h) rfl rfl (Nat.le_of_ble_eq_true rfl) dX9_legs_112 (fun _ σ8 => ?_)
            refine z_aload_n C dX9_legs_115 3 rfl ?_
            refine z_getR C fd_X9_62 dX9_legs_116 ?_
            refine z_getR C fd_X9_234 dX9_legs_119 ?_
            refine z_iload C dX9_legs_122 1 rfl ?_
            refine z_iald C sA_37 dX9_legs_124 (fun v9 => ?_)
            exact z_iret C dX9_legs_125
theorem m_X9_legs {l : Launch} {G : zG} {x1 : Int32} {x2 : Int32} {x3 : Int32} {x4 : Int32} {x5 : Int32} {σ σ1 : zS} {r : Int32} (h : f_X9_legs x1 x2 x3 x4 x5 σ = some (r, σ1)) : zM l G zshA yX9_legs cX9_legs 9 (some .int) 4 [.ref (ga G 0), .int x1, .int x2, .int x3, .int x4, .int x5] (zov (some .int) G r) σ σ1 :=
  z_met (by decide) (Nat.le_of_ble_eq_true rfl) h (fun K _ hG C => by subst hG; exact b_X9_legs K C x1 x2 x3 x4 x5 σ)
theorem b_X4_yearOfChange_J53 (K : zK) (C : zOk zshA K RX4 cX4_yearOfChange (some .int) 7 1) (x4 : Int32) (x5 : Int32) (s0 : Int32) (σ : zS) : Zf zshA K (f_X4_yearOfChange_J53 x4 x5 s0 σ) 53 [(4, .int x4), (5, .int x5)] [.int s0] σ := by
  unfold f_X4_yearOfChange_J53
  refine z_istore (lv1 := [(6, .int s0), (4, .int x4), (5, .int x5)]) C dX4_yearOfChange_53 (by decide) rfl ?_
  refine z_iload C dX4_yearOfChange_55 0 rfl ?_
  refine z_iload C dX4_yearOfChange_57 1 rfl ?_
  refine z_iload C dX4_yearOfChange_59 2 rfl ?_
  refine z_callNz (As := [.int s0, .int x4, .int x5]) (st := []) C zy_X9_isWithin zs_X9_isWithin mn_X4_77 (by decide) (fun _ _ h => m_X9_isWithin h) rfl rfl (Nat.le_of_ble_eq_true rfl) dX4_yearOfChange_61 (fun v1 σ1 => ?_)
  refine z_if_eq (tgt := 72) C dX4_yearOfChange_64 (by decide) ?_ ?_
  · refine z_iconst (v := (-1)) C dX4_yearOfChange_72 (by decide) ?_
    exact z_iret C dX4_yearOfChange_73
  · refine z_iload C dX4_yearOfChange_67 0 rfl ?_
    refine z_goto (tgt := 73) C dX4_yearOfChange_69 (by decide) ?_
    exact z_iret C dX4_yearOfChange_73
theorem b_X4_yearOfChange (K : zK) (C : zOk zshA K RX4 cX4_yearOfChange (some .int) 7 1) (x1 : Int32) (x2 : Int32) (x3 : Int32) (σ : zS) : Zf zshA K (f_X4_yearOfChange x1 x2 x3 σ) 0 [(0, .ref (ga (kG K) 36)), (1, .int x1), (2, .int x2), (3, .int x3)] [] σ := by
  unfold f_X4_yearOfChange
  refine z_aload_n C dX4_yearOfChange_0 0 rfl ?_
  refine z_getR C fd_X4_19 dX4_yearOfChange_1 ?_
  refine z_iconst (v := 0) C dX4_yearOfChange_4 (by decide) ?_
  refine z_iload_n C dX4_yearOfChange_5 1 rfl ?_
  refine z_callVi (q := 28) (As := [.int 0, .int x1]) (st := []) C zy_X8_bound zv_X8_bound ml_X4_61 rcA_28 (by decide) (fun _ _ h => m_X8_bound h) rfl rfl (Nat.le_of_ble_eq_true rfl) dX4_yearOfChange_6 (fun v1 σ1 => ?_)
  refine z_aload_n C dX4_yearOfChange_9 0 rfl ?_
  refine z_getR C fd_X4_9 dX4_yearOfChange_10 ?_
  refine z_getR C fd_X4_66 dX4_yearOfChange_13 ?_
  refine z_iload_n C dX4_yearOfChange_16 2 rfl ?_
  refine z_iald C sA_10 dX4_yearOfChange_17 (fun v2 => ?_)
  refine z_mmax C ml_X4_69 zma_max_s zma_i zma_max_c (by decide) (Nat.le_of_ble_eq_true rfl) dX4_yearOfChange_18 ?_
  refine z_istore (lv1 := [(4, .int (zmax v1 v2)), (0, .ref (ga (kG K) 36)), (1, .int x1), (2, .int x2), (3, .int x3)]) C dX4_yearOfChange_21 (by decide) rfl ?_
  refine z_aload_n C dX4_yearOfChange_23 1 rfl ?_
  refine z_getR C fd_X4_19 dX4_yearOfChange_24 ?_
  refine z_iconst (v := 5) C dX4_yearOfChange_27 (by decide) ?_
  refine z_iload_n C dX4_yearOfChange_28 2 rfl ?_
  refine z_callVi (q := 28) (As := [.int 5, .int x1]) (st := []) C zy_X8_bound zv_X8_bound ml_X4_61 rcA_28 (by decide) (fun _ _ h => m_X8_bound h) rfl rfl (Nat.le_of_ble_eq_true rfl) dX4_yearOfChange_29 (fun v3 σ3 => ?_)
  refine z_istore (lv1 := [(5, .int v3), (4, .int (zmax v1 v2)), (0, .ref (ga (kG K) 36)), (1, .int x1), (2, .int x2), (3, .int x3)]) C dX4_yearOfChange_32 (by decide) rfl ?_
  refine z_iload_n C dX4_yearOfChange_34 5 rfl ?_
  refine z_iconst (v := (-1)) C dX4_yearOfChange_35 (by decide) ?_
  refine z_icmp_ne (tgt := 44) C dX4_yearOfChange_36 (by decide) ?_ ?_
  · refine z_iload C dX4_yearOfChange_39 1 rfl ?_
    refine z_goto (tgt := 53) C dX4_yearOfChange_41 (by decide) ?_
    exact z_sub [1, 0] rfl (b_X4_yearOfChange_J53 K C (zmax v1 v2) v3 (zmax v1 v2) σ3)
  · refine z_aload_n C dX4_yearOfChange_44 2 rfl ?_
    refine z_getR C fd_X4_9 dX4_yearOfChange_45 ?_
    refine z_getR C fd_X4_74 dX4_yearOfChange_48 ?_
    refine z_iload_n C dX4_yearOfChange_51 5 rfl ?_
    refine z_iald C sA_5 dX4_yearOfChange_52 (fun v4 => ?_)
    exact z_sub [1, 0] rfl (b_X4_yearOfChange_J53 K C (zmax v1 v2) v3 v4 σ3)
theorem m_X4_yearOfChange {l : Launch} {G : zG} {x1 : Int32} {x2 : Int32} {x3 : Int32} {σ σ1 : zS} {r : Int32} (h : f_X4_yearOfChange x1 x2 x3 σ = some (r, σ1)) : zM l G zshA yX4_yearOfChange cX4_yearOfChange 7 (some .int) 1 [.ref (ga G 36), .int x1, .int x2, .int x3] (zov (some .int) G r) σ σ1 :=
  z_met (by decide) (Nat.le_of_ble_eq_true rfl) h (fun K _ hG C => by subst hG; exact b_X4_yearOfChange K C x1 x2 x3 σ)
theorem b_X4_legsIn (K : zK) (C : zOk zshA K RX4 cX4_legsIn (some .int) 5 2) (x1 : Int32) (x2 : Int32) (x3 : Int32) (x4 : Int32) (σ : zS) : Zf zshA K (f_X4_legsIn x1 x2 x3 x4 σ) 0 [(0, .ref (ga (kG K) 36)), (1, .int x1), (2, .int x2), (3, .int x3), (4, .int x4)] [] σ := by
  unfold f_X4_legsIn
  refine z_iload_n C dX4_legsIn_0 1 rfl ?_
  refine z_iconst (v := (-1)) C dX4_legsIn_1 (by decide) ?_
  refine z_icmp_ne (tgt := 7) C dX4_legsIn_2 (by decide) ?_ ?_
  · refine z_iconst (v := (-1)) C dX4_legsIn_5 (by decide) ?_
    exact z_iret C dX4_legsIn_6
  · refine z_aload_n C dX4_legsIn_7 0 rfl ?_
    refine z_aload_n C dX4_legsIn_8 0 rfl ?_
    refine z_getR C fd_X4_9 dX4_legsIn_9 ?_
    refine z_getR C fd_X4_81 dX4_legsIn_12 ?_
    refine z_iload_n C dX4_legsIn_15 3 rfl ?_
    refine z_iald C sA_9 dX4_legsIn_16 (fun v1 => ?_)
    refine z_aload_n C dX4_legsIn_17 0 rfl ?_
    refine z_getR C fd_X4_15 dX4_legsIn_18 ?_
    refine z_getR C fd_X4_84 dX4_legsIn_21 ?_
    refine z_iload_n C dX4_legsIn_24 2 rfl ?_
    refine z_iald C sA_18 dX4_legsIn_25 (fun v2 => ?_)
    refine z_aload_n C dX4_legsIn_26 0 rfl ?_
    refine z_getR C fd_X4_9 dX4_legsIn_27 ?_
    refine z_iload_n C dX4_legsIn_30 1 rfl ?_
    refine z_callVi (q := 4) (As := [.int x1]) (st := [.int v2, .int v1, .ref (ga (kG K) 36)]) C zy_X3_liveIn zv_X3_liveIn ml_X4_89 rcA_4 (by decide) (fun _ _ h => m_X3_liveIn h) rfl rfl (Nat.le_of_ble_eq_true rfl) dX4_legsIn_31 (fun v3 σ3 => ?_)
    refine z_iload C dX4_legsIn_34 4 rfl ?_
    refine z_callVi (q := 36) (As := [.int v1, .int v2, .int v3, .int x4]) (st := []) C zy_X4_fewestLegs zv_X4_fewestLegs ml_X4_92 rcA_36 (by decide) (fun _ _ h => m_X4_fewestLegs h) rfl rfl (Nat.le_of_ble_eq_true rfl) dX4_legsIn_36 (fun v4 σ4 => ?_)
    exact z_iret C dX4_legsIn_39
theorem m_X4_legsIn {l : Launch} {G : zG} {x1 : Int32} {x2 : Int32} {x3 : Int32} {x4 : Int32} {σ σ1 : zS} {r : Int32} (h : f_X4_legsIn x1 x2 x3 x4 σ = some (r, σ1)) : zM l G zshA yX4_legsIn cX4_legsIn 5 (some .int) 2 [.ref (ga G 36), .int x1, .int x2, .int x3, .int x4] (zov (some .int) G r) σ σ1 :=
  z_met (by decide) (Nat.le_of_ble_eq_true rfl) h (fun K _ hG C => by subst hG; exact b_X4_legsIn K C x1 x2 x3 x4 σ)
theorem b_X4_firstYear_L6 (K : zK) (C : zOk zshA K RX4 cX4_firstYear (some .int) 7 3) (x1 : Int32) (x2 : Int32) (x3 : Int32) : ∀ (n : Nat) (x4 : Int32) (x5 : Int32) (σ : zS), Zf zshA K (f_X4_firstYear_L6 x1 x2 x3 n x4 x5 σ) 6 [(0, .ref (ga (kG K) 36)), (1, .int x1), (2, .int x2), (3, .int x3), (4, .int x4), (5, .int x5)] [] σ := by
  intro n
  induction n with
  | zero => intro x4 x5 σ; rw [f_X4_firstYear_L6]; exact z_none
  | succ n ih =>
  intro x4 x5 σ
  rw [f_X4_firstYear_L6]
  refine z_iload C dX4_firstYear_6 5 rfl ?_
  refine z_bipush (v := 10) C dX4_firstYear_8 (by decide) ?_
  refine z_icmp_ge (tgt := 51) C dX4_firstYear_10 (by decide) ?_ ?_
  · refine z_iload C dX4_firstYear_51 4 rfl ?_
    exact z_iret C dX4_firstYear_53
  · refine z_aload_n C dX4_firstYear_13 0 rfl ?_
    refine z_iload_n C dX4_firstYear_14 1 rfl ?_
    refine z_iload_n C dX4_firstYear_15 2 rfl ?_
    refine z_iload C dX4_firstYear_16 5 rfl ?_
    refine z_callVi (q := 36) (As := [.int x1, .int x2, .int x5]) (st := []) C zy_X4_yearOfChange zv_X4_yearOfChange ml_X4_53 rcA_36 (by decide) (fun _ _ h => m_X4_yearOfChange h) rfl rfl (Nat.le_of_ble_eq_true rfl) dX4_firstYear_18 (fun v1 σ1 => ?_)
    refine z_istore (lv1 := [(6, .int v1), (0, .ref (ga (kG K) 36)), (1, .int x1), (2, .int x2), (3, .int x3), (4, .int x4), (5, .int x5)]) C dX4_firstYear_21 (by decide) rfl ?_
    refine z_aload_n C dX4_firstYear_23 1 rfl ?_
    refine z_iload C dX4_firstYear_24 0 rfl ?_
    refine z_iload_n C dX4_firstYear_26 2 rfl ?_
    refine z_iload_n C dX4_firstYear_27 3 rfl ?_
    refine z_iload_n C dX4_firstYear_28 4 rfl ?_
    refine z_callVi (q := 36) (As := [.int v1, .int x1, .int x2, .int x3]) (st := []) C zy_X4_legsIn zv_X4_legsIn ml_X4_57 rcA_36 (by decide) (fun _ _ h => m_X4_legsIn h) rfl rfl (Nat.le_of_ble_eq_true rfl) dX4_firstYear_29 (fun v2 σ2 => ?_)
    refine z_iconst (v := (-1)) C dX4_firstYear_32 (by decide) ?_
    refine z_icmp_eq (tgt := 45) C dX4_firstYear_33 (by decide) ?_ ?_
    · refine z_iinc (v := 1) (lv1 := [(5, .int (x5 + 1)), (6, .int v1), (0, .ref (ga (kG K) 36)), (1, .int x1), (2, .int x2), (3, .int x3), (4, .int x4)]) C dX4_firstYear_45 6 rfl (by decide) (by decide) rfl ?_
      refine z_goto (tgt := 6) C dX4_firstYear_48 (by decide) ?_
      exact z_sub [2, 3, 4, 5, 6, 0] rfl (ih x4 (x5 + 1) σ2)
    · refine z_iload C dX4_firstYear_36 5 rfl ?_
      refine z_iload C dX4_firstYear_38 0 rfl ?_
      refine z_callNi (As := [.int x4, .int v1]) (st := []) C zy_X9_lesser zs_X9_lesser mn_X4_49 (by decide) (fun _ _ h => m_X9_lesser h) rfl rfl (Nat.le_of_ble_eq_true rfl) dX4_firstYear_40 (fun v3 σ3 => ?_)
      refine z_istore (lv1 := [(4, .int v3), (6, .int v1), (0, .ref (ga (kG K) 36)), (1, .int x1), (2, .int x2), (3, .int x3), (5, .int x5)]) C dX4_firstYear_43 (by decide) rfl ?_
      refine z_iinc (v := 1) (lv1 := [(5, .int (x5 + 1)), (4, .int v3), (6, .int v1), (0, .ref (ga (kG K) 36)), (1, .int x1), (2, .int x2), (3, .int x3)]) C dX4_firstYear_45 6 rfl (by decide) (by decide) rfl ?_
      refine z_goto (tgt := 6) C dX4_firstYear_48 (by decide) ?_
      exact z_sub [3, 4, 5, 6, 1, 0] rfl (ih v3 (x5 + 1) σ3)
theorem b_X4_firstYear (K : zK) (C : zOk zshA K RX4 cX4_firstYear (some .int) 7 3) (x1 : Int32) (x2 : Int32) (x3 : Int32) (σ : zS) : Zf zshA K (f_X4_firstYear x1 x2 x3 σ) 0 [(0, .ref (ga (kG K) 36)), (1, .int x1), (2, .int x2), (3, .int x3)] [] σ := by
  unfold f_X4_firstYear
  refine z_iconst (v := (-1)) C dX4_firstYear_0 (by decide) ?_
  refine z_istore (lv1 := [(4, .int (-1)), (0, .ref (ga (kG K) 36)), (1, .int x1), (2, .int x2), (3, .int x3)]) C dX4_firstYear_1 (by decide) rfl ?_
  refine z_iconst (v := (-1)) C dX4_firstYear_3 (by decide) ?_
  refine z_istore (lv1 := [(5, .int (-1)), (4, .int (-1)), (0, .ref (ga (kG K) 36)), (1, .int x1), (2, .int x2), (3, .int x3)]) C dX4_firstYear_4 (by decide) rfl ?_
  exact z_sub [2, 3, 4, 5, 1, 0] rfl (b_X4_firstYear_L6 K C x1 x2 x3 zfu (-1) (-1) σ)
theorem m_X4_firstYear {l : Launch} {G : zG} {x1 : Int32} {x2 : Int32} {x3 : Int32} {σ σ1 : zS} {r : Int32} (h : f_X4_firstYear x1 x2 x3 σ = some (r, σ1)) : zM l G zshA yX4_firstYear cX4_firstYear 7 (some .int) 3 [.ref (ga G 36), .int x1, .int x2, .int x3] (zov (some .int) G r) σ σ1 :=
  z_met (by decide) (Nat.le_of_ble_eq_true rfl) h (fun K _ hG C => by subst hG; exact b_X4_firstYear K C x1 x2 x3 σ)
theorem b_X4_legsInAnyYear_L6 (K : zK) (C : zOk zshA K RX4 cX4_legsInAnyYear (some .int) 7 3) (x1 : Int32) (x2 : Int32) (x3 : Int32) : ∀ (n : Nat) (x4 : Int32) (x5 : Int32) (σ : zS), Zf zshA K (f_X4_legsInAnyYear_L6 x1 x2 x3 n x4 x5 σ) 6 [(0, .ref (ga (kG K) 36)), (1, .int x1), (2, .int x2), (3, .int x3), (4, .int x4), (5, .int x5)] [] σ := by
  intro n
  induction n with
  | zero => intro x4 x5 σ; rw [f_X4_legsInAnyYear_L6]; exact z_none
  | succ n ih =>
  intro x4 x5 σ
  rw [f_X4_legsInAnyYear_L6]
  refine z_iload C dX4_legsInAnyYear_6 5 rfl ?_
  refine z_bipush (v := 10) C dX4_legsInAnyYear_8 (by decide) ?_
  refine z_icmp_ge (tgt := 51) C dX4_legsInAnyYear_10 (by decide) ?_ ?_
  · refine z_iload C dX4_legsInAnyYear_51 4 rfl ?_
    exact z_iret C dX4_legsInAnyYear_53
  · refine z_aload_n C dX4_legsInAnyYear_13 0 rfl ?_
    refine z_aload_n C dX4_legsInAnyYear_14 0 rfl ?_
    refine z_iload_n C dX4_legsInAnyYear_15 1 rfl ?_
    refine z_iload_n C dX4_legsInAnyYear_16 2 rfl ?_
    refine z_iload C dX4_legsInAnyYear_17 5 rfl ?_
    refine z_callVi (q := 36) (As := [.int x1, .int x2, .int x5]) (st := [.ref (ga (kG K) 36)]) C zy_X4_yearOfChange zv_X4_yearOfChange ml_X4_53 rcA_36 (by decide) (fun _ _ h => m_X4_yearOfChange h) rfl rfl (Nat.le_of_ble_eq_true rfl) dX4_legsInAnyYear_19 (fun v1 σ1 => ?_)
    refine z_iload_n C dX4_legsInAnyYear_22 1 rfl ?_
    refine z_iload_n C dX4_legsInAnyYear_23 2 rfl ?_
    refine z_iload_n C dX4_legsInAnyYear_24 3 rfl ?_
    refine z_callVi (q := 36) (As := [.int v1, .int x1, .int x2, .int x3]) (st := []) C zy_X4_legsIn zv_X4_legsIn ml_X4_57 rcA_36 (by decide) (fun _ _ h => m_X4_legsIn h) rfl rfl (Nat.le_of_ble_eq_true rfl) dX4_legsInAnyYear_25 (fun v2 σ2 => ?_)
    refine z_istore (lv1 := [(6, .int v2), (0, .ref (ga (kG K) 36)), (1, .int x1), (2, .int x2), (3, .int x3), (4, .int x4), (5, .int x5)]) C dX4_legsInAnyYear_28 (by decide) rfl ?_
    refine z_iload C dX4_legsInAnyYear_30 0 rfl ?_
    refine z_iconst (v := (-1)) C dX4_legsInAnyYear_32 (by decide) ?_
    refine z_icmp_eq (tgt := 45) C dX4_legsInAnyYear_33 (by decide) ?_ ?_
    · refine z_iinc (v := 1) (lv1 := [(5, .int (x5 + 1)), (6, .int v2), (0, .ref (ga (kG K) 36)), (1, .int x1), (2, .int x2), (3, .int x3), (4, .int x4)]) C dX4_legsInAnyYear_45 6 rfl (by decide) (by decide) rfl ?_
      refine z_goto (tgt := 6) C dX4_legsInAnyYear_48 (by decide) ?_
      exact z_sub [2, 3, 4, 5, 6, 0] rfl (ih x4 (x5 + 1) σ2)
    · refine z_iload C dX4_legsInAnyYear_36 5 rfl ?_
      refine z_iload C dX4_legsInAnyYear_38 0 rfl ?_
      refine z_callNi (As := [.int x4, .int v2]) (st := []) C zy_X9_lesser zs_X9_lesser mn_X4_49 (by decide) (fun _ _ h => m_X9_lesser h) rfl rfl (Nat.le_of_ble_eq_true rfl) dX4_legsInAnyYear_40 (fun v3 σ3 => ?_)
      refine z_istore (lv1 := [(4, .int v3), (6, .int v2), (0, .ref (ga (kG K) 36)), (1, .int x1), (2, .int x2), (3, .int x3), (5, .int x5)]) C dX4_legsInAnyYear_43 (by decide) rfl ?_
      refine z_iinc (v := 1) (lv1 := [(5, .int (x5 + 1)), (4, .int v3), (6, .int v2), (0, .ref (ga (kG K) 36)), (1, .int x1), (2, .int x2), (3, .int x3)]) C dX4_legsInAnyYear_45 6 rfl (by decide) (by decide) rfl ?_
      refine z_goto (tgt := 6) C dX4_legsInAnyYear_48 (by decide) ?_
      exact z_sub [3, 4, 5, 6, 1, 0] rfl (ih v3 (x5 + 1) σ3)
theorem b_X4_legsInAnyYear (K : zK) (C : zOk zshA K RX4 cX4_legsInAnyYear (some .int) 7 3) (x1 : Int32) (x2 : Int32) (x3 : Int32) (σ : zS) : Zf zshA K (f_X4_legsInAnyYear x1 x2 x3 σ) 0 [(0, .ref (ga (kG K) 36)), (1, .int x1), (2, .int x2), (3, .int x3)] [] σ := by
  unfold f_X4_legsInAnyYear
  refine z_iconst (v := (-1)) C dX4_legsInAnyYear_0 (by decide) ?_
  refine z_istore (lv1 := [(4, .int (-1)), (0, .ref (ga (kG K) 36)), (1, .int x1), (2, .int x2), (3, .int x3)]) C dX4_legsInAnyYear_1 (by decide) rfl ?_
  refine z_iconst (v := (-1)) C dX4_legsInAnyYear_3 (by decide) ?_
  refine z_istore (lv1 := [(5, .int (-1)), (4, .int (-1)), (0, .ref (ga (kG K) 36)), (1, .int x1), (2, .int x2), (3, .int x3)]) C dX4_legsInAnyYear_4 (by decide) rfl ?_
  exact z_sub [2, 3, 4, 5, 1, 0] rfl (b_X4_legsInAnyYear_L6 K C x1 x2 x3 zfu (-1) (-1) σ)
theorem m_X4_legsInAnyYear {l : Launch} {G : zG} {x1 : Int32} {x2 : Int32} {x3 : Int32} {σ σ1 : zS} {r : Int32} (h : f_X4_legsInAnyYear x1 x2 x3 σ = some (r, σ1)) : zM l G zshA yX4_legsInAnyYear cX4_legsInAnyYear 7 (some .int) 3 [.ref (ga G 36), .int x1, .int x2, .int x3] (zov (some .int) G r) σ σ1 :=
  z_met (by decide) (Nat.le_of_ble_eq_true rfl) h (fun K _ hG C => by subst hG; exact b_X4_legsInAnyYear K C x1 x2 x3 σ)
theorem b_X9_reach (K : zK) (C : zOk zshA K RX9 cX9_reach (some .int) 5 5) (x1 : Int32) (x2 : Int32) (x3 : Int32) (x4 : Int32) (σ : zS) : Zf zshA K (f_X9_reach x1 x2 x3 x4 σ) 0 [(0, .ref (ga (kG K) 0)), (1, .int x1), (2, .int x2), (3, .int x3), (4, .int x4)] [] σ := by
  unfold f_X9_reach
  refine z_aload_n C dX9_reach_0 0 rfl ?_
  refine z_getR C fd_X9_26 dX9_reach_1 ?_
  refine z_iload_n C dX9_reach_4 1 rfl ?_
  refine z_callVz (q := 17) (As := [.int x1]) (st := []) C zy_X0_has zv_X0_has ml_X9_163 rcA_17 (by decide) (fun _ _ h => m_X0_has h) rfl rfl (Nat.le_of_ble_eq_true rfl) dX9_reach_5 (fun v1 σ1 => ?_)
  refine z_if_eq (tgt := 22) C dX9_reach_8 (by decide) ?_ ?_
  · refine z_bipush (v := (-2)) C dX9_reach_22 (by decide) ?_
    exact z_iret C dX9_reach_24
  · refine z_aload_n C dX9_reach_11 0 rfl ?_
    refine z_getR C fd_X9_19 dX9_reach_12 ?_
    refine z_iload_n C dX9_reach_15 2 rfl ?_
    refine z_callVz (q := 4) (As := [.int x2]) (st := []) C zy_X3_isTold zv_X3_isTold ml_X9_127 rcA_4 (by decide) (fun _ _ h => m_X3_isTold h) rfl rfl (Nat.le_of_ble_eq_true rfl) dX9_reach_16 (fun v2 σ2 => ?_)
    refine z_if_ne (tgt := 25) C dX9_reach_19 (by decide) ?_ ?_
    · refine z_bipush (v := (-2)) C dX9_reach_22 (by decide) ?_
      exact z_iret C dX9_reach_24
    · refine z_iload C dX9_reach_25 4 rfl ?_
      refine z_iconst (v := 0) C dX9_reach_27 (by decide) ?_
      refine z_iconst (v := 1) C dX9_reach_28 (by decide) ?_
      refine z_callSz (As := [.int x4, .int 0, .int 1]) (st := []) C zy_X9_isWithin zs_X9_isWithin ml_X9_84 (by decide) (fun _ _ h => m_X9_isWithin h) rfl rfl (Nat.le_of_ble_eq_true rfl) dX9_reach_29 (fun v3 σ3 => ?_)
      refine z_if_ne (tgt := 38) C dX9_reach_32 (by decide) ?_ ?_
      · refine z_bipush (v := (-3)) C dX9_reach_35 (by decide) ?_
        exact z_iret C dX9_reach_37
      · refine z_aload_n C dX9_reach_38 0 rfl ?_
        refine z_getR C fd_X9_44 dX9_reach_39 ?_
        refine z_callVz (q := 28) (As := []) (st := []) C zy_X8_settle zv_X8_settle ml_X9_207 rcA_28 (by decide) (fun _ _ h => m_X8_settle h) rfl rfl (Nat.le_of_ble_eq_true rfl) dX9_reach_42 (fun v4 σ4 => ?_)
        refine z_if_ne (tgt := 50) C dX9_reach_45 (by decide) ?_ ?_
        · refine z_iconst (v := (-1)) C dX9_reach_48 (by decide) ?_
          exact z_iret C dX9_reach_49
        · refine z_iload C dX9_reach_50 4 rfl ?_
          refine z_if_ne (tgt := 68) C dX9_reach_52 (by decide) ?_ ?_
          · refine z_aload_n C dX9_reach_55 0 rfl ?_
            refine z_getR C fd_X9_62 dX9_reach_56 ?_
            refine z_iload_n C dX9_reach_59 1 rfl ?_
            refine z_iload_n C dX9_reach_60 2 rfl ?_
            refine z_iload_n C dX9_reach_61 3 rfl ?_
            refine z_callVi (q := 36) (As := [.int x1, .int x2, .int x3]) (st := []) C zy_X4_firstYear zv_X4_firstYear ml_X9_237 rcA_36 (by decide) (fun _ _ h => m_X4_firstYear h) rfl rfl (Nat.le_of_ble_eq_true rfl) dX9_reach_62 (fun v5 σ5 => ?_)
            refine z_goto (tgt := 78) C dX9_reach_65 (by decide) ?_
            exact z_iret C dX9_reach_78
          · refine z_aload_n C dX9_reach_68 0 rfl ?_
            refine z_getR C fd_X9_62 dX9_reach_69 ?_
            refine z_iload_n C dX9_reach_72 1 rfl ?_
            refine z_iload_n C dX9_reach_73 2 rfl ?_
            refine z_iload_n C dX9_reach_74 3 rfl ?_
            refine z_callVi (q := 36) (As := [.int x1, .int x2, .int x3]) (st := []) C zy_X4_legsInAnyYear zv_X4_legsInAnyYear ml_X9_241 rcA_36 (by decide) (fun _ _ h => m_X4_legsInAnyYear h) rfl rfl (Nat.le_of_ble_eq_true rfl) dX9_reach_75 (fun v5 σ5 => ?_)
            exact z_iret C dX9_reach_78
theorem m_X9_reach {l : Launch} {G : zG} {x1 : Int32} {x2 : Int32} {x3 : Int32} {x4 : Int32} {σ σ1 : zS} {r : Int32} (h : f_X9_reach x1 x2 x3 x4 σ = some (r, σ1)) : zM l G zshA yX9_reach cX9_reach 5 (some .int) 5 [.ref (ga G 0), .int x1, .int x2, .int x3, .int x4] (zov (some .int) G r) σ σ1 :=
  z_met (by decide) (Nat.le_of_ble_eq_true rfl) h (fun K _ hG C => by subst hG; exact b_X9_reach K C x1 x2 x3 x4 σ)
theorem b_X4_mustHaveSailed_L15 (K : zK) (C : zOk zshA K RX4 cX4_mustHaveSailed (some .boolean) 5 4) (x1 : Int32) (x2 : Int32) : ∀ (n : Nat) (x3 : Int32) (x4 : Int32) (σ : zS), Zf zshA K (f_X4_mustHaveSailed_L15 x1 x2 n x3 x4 σ) 15 [(0, .ref (ga (kG K) 36)), (1, .int x1), (2, .int x2), (3, .int x3), (4, .int x4)] [] σ := by
  intro n
  induction n with
  | zero => intro x3 x4 σ; rw [f_X4_mustHaveSailed_L15]; exact z_none
  | succ n ih =>
  intro x3 x4 σ
  rw [f_X4_mustHaveSailed_L15]
  refine z_iload C dX4_mustHaveSailed_15 4 rfl ?_
  refine z_bipush (v := 9) C dX4_mustHaveSailed_17 (by decide) ?_
  refine z_icmp_ge (tgt := 73) C dX4_mustHaveSailed_19 (by decide) ?_ ?_
  · refine z_iload_n C dX4_mustHaveSailed_73 3 rfl ?_
    exact z_zrb C dX4_mustHaveSailed_74
  · refine z_iload_n C dX4_mustHaveSailed_22 2 rfl ?_
    refine z_iload C dX4_mustHaveSailed_23 4 rfl ?_
    refine z_callNz (As := [.int x2, .int x4]) (st := []) C zy_X9_hasBit zs_X9_hasBit mn_X4_27 (by decide) (fun _ _ h => m_X9_hasBit h) rfl rfl (Nat.le_of_ble_eq_true rfl) dX4_mustHaveSailed_25 (fun v1 σ1 => ?_)
    refine z_if_eq (tgt := 67) C dX4_mustHaveSailed_28 (by decide) ?_ ?_
    · refine z_iinc (v := 1) (lv1 := [(4, .int (x4 + 1)), (0, .ref (ga (kG K) 36)), (1, .int x1), (2, .int x2), (3, .int x3)]) C dX4_mustHaveSailed_67 4 rfl (by decide) (by decide) rfl ?_
      refine z_goto (tgt := 15) C dX4_mustHaveSailed_70 (by decide) ?_
      exact z_sub [1, 2, 3, 4, 0] rfl (ih x3 (x4 + 1) σ1)
    · refine z_aload_n C dX4_mustHaveSailed_31 0 rfl ?_
      refine z_iload_n C dX4_mustHaveSailed_32 1 rfl ?_
      refine z_iload C dX4_mustHaveSailed_33 4 rfl ?_
      refine z_iconst (v := 0) C dX4_mustHaveSailed_35 (by decide) ?_
      refine z_callVi (q := 36) (As := [.int x1, .int x4, .int 0]) (st := []) C zy_X4_firstYear zv_X4_firstYear ml_X4_110 rcA_36 (by decide) (fun _ _ h => m_X4_firstYear h) rfl rfl (Nat.le_of_ble_eq_true rfl) dX4_mustHaveSailed_36 (fun v2 σ2 => ?_)
      refine z_iconst (v := (-1)) C dX4_mustHaveSailed_39 (by decide) ?_
      refine z_icmp_eq (tgt := 45) C dX4_mustHaveSailed_40 (by decide) ?_ ?_
      · refine z_iload_n C dX4_mustHaveSailed_45 3 rfl ?_
        refine z_if_ne (tgt := 61) C dX4_mustHaveSailed_46 (by decide) ?_ ?_
        · refine z_aload_n C dX4_mustHaveSailed_49 0 rfl ?_
          refine z_iload_n C dX4_mustHaveSailed_50 1 rfl ?_
          refine z_iload C dX4_mustHaveSailed_51 4 rfl ?_
          refine z_iconst (v := 1) C dX4_mustHaveSailed_53 (by decide) ?_
          refine z_callVi (q := 36) (As := [.int x1, .int x4, .int 1]) (st := []) C zy_X4_firstYear zv_X4_firstYear ml_X4_110 rcA_36 (by decide) (fun _ _ h => m_X4_firstYear h) rfl rfl (Nat.le_of_ble_eq_true rfl) dX4_mustHaveSailed_54 (fun v3 σ3 => ?_)
          refine z_iconst (v := (-1)) C dX4_mustHaveSailed_57 (by decide) ?_
          refine z_icmp_eq (tgt := 65) C dX4_mustHaveSailed_58 (by decide) ?_ ?_
          · refine z_iconst (v := 0) C dX4_mustHaveSailed_65 (by decide) ?_
            refine z_istore_n (lv1 := [(3, .int 0), (0, .ref (ga (kG K) 36)), (1, .int x1), (2, .int x2), (4, .int x4)]) C dX4_mustHaveSailed_66 (by decide) rfl ?_
            refine z_iinc (v := 1) (lv1 := [(4, .int (x4 + 1)), (3, .int 0), (0, .ref (ga (kG K) 36)), (1, .int x1), (2, .int x2)]) C dX4_mustHaveSailed_67 4 rfl (by decide) (by decide) rfl ?_
            refine z_goto (tgt := 15) C dX4_mustHaveSailed_70 (by decide) ?_
            exact z_sub [2, 3, 4, 1, 0] rfl (ih 0 (x4 + 1) σ3)
          · refine z_iconst (v := 1) C dX4_mustHaveSailed_61 (by decide) ?_
            refine z_goto (tgt := 66) C dX4_mustHaveSailed_62 (by decide) ?_
            refine z_istore_n (lv1 := [(3, .int 1), (0, .ref (ga (kG K) 36)), (1, .int x1), (2, .int x2), (4, .int x4)]) C dX4_mustHaveSailed_66 (by decide) rfl ?_
            refine z_iinc (v := 1) (lv1 := [(4, .int (x4 + 1)), (3, .int 1), (0, .ref (ga (kG K) 36)), (1, .int x1), (2, .int x2)]) C dX4_mustHaveSailed_67 4 rfl (by decide) (by decide) rfl ?_
            refine z_goto (tgt := 15) C dX4_mustHaveSailed_70 (by decide) ?_
            exact z_sub [2, 3, 4, 1, 0] rfl (ih 1 (x4 + 1) σ3)
        · refine z_iconst (v := 1) C dX4_mustHaveSailed_61 (by decide) ?_
          refine z_goto (tgt := 66) C dX4_mustHaveSailed_62 (by decide) ?_
          refine z_istore_n (lv1 := [(3, .int 1), (0, .ref (ga (kG K) 36)), (1, .int x1), (2, .int x2), (4, .int x4)]) C dX4_mustHaveSailed_66 (by decide) rfl ?_
          refine z_iinc (v := 1) (lv1 := [(4, .int (x4 + 1)), (3, .int 1), (0, .ref (ga (kG K) 36)), (1, .int x1), (2, .int x2)]) C dX4_mustHaveSailed_67 4 rfl (by decide) (by decide) rfl ?_
          refine z_goto (tgt := 15) C dX4_mustHaveSailed_70 (by decide) ?_
          exact z_sub [2, 3, 4, 1, 0] rfl (ih 1 (x4 + 1) σ2)
      · refine z_iconst (v := 0) C dX4_mustHaveSailed_43 (by decide) ?_
        exact z_zret C (by decide) dX4_mustHaveSailed_44
theorem b_X4_mustHaveSailed (K : zK) (C : zOk zshA K RX4 cX4_mustHaveSailed (some .boolean) 5 4) (x1 : Int32) (σ : zS) : Zf zshA K (f_X4_mustHaveSailed x1 σ) 0 [(0, .ref (ga (kG K) 36)), (1, .int x1)] [] σ := by
  unfold f_X4_mustHaveSailed
  refine z_aload_n C dX4_mustHaveSailed_0 0 rfl ?_
  refine z_getR C fd_X4_19 dX4_mustHaveSailed_1 ?_
  refine z_getR C fd_X4_107 dX4_mustHaveSailed_4 ?_
  refine z_iload_n C dX4_mustHaveSailed_7 1 rfl ?_
  refine z_iald C sA_31 dX4_mustHaveSailed_8 (fun v1 => ?_)
  refine z_istore_n (lv1 := [(2, .int v1), (0, .ref (ga (kG K) 36)), (1, .int x1)]) C dX4_mustHaveSailed_9 (by decide) rfl ?_
  refine z_iconst (v := 0) C dX4_mustHaveSailed_10 (by decide) ?_
  refine z_istore_n (lv1 := [(3, .int 0), (2, .int v1), (0, .ref (ga (kG K) 36)), (1, .int x1)]) C dX4_mustHaveSailed_11 (by decide) rfl ?_
  refine z_iconst (v := 0) C dX4_mustHaveSailed_12 (by decide) ?_
  refine z_istore (lv1 := [(4, .int 0), (3, .int 0), (2, .int v1), (0, .ref (ga (kG K) 36)), (1, .int x1)]) C dX4_mustHaveSailed_13 (by decide) rfl ?_
  exact z_sub [3, 4, 2, 1, 0] rfl (b_X4_mustHaveSailed_L15 K C x1 v1 zfu 0 0 σ)
theorem m_X4_mustHaveSailed {l : Launch} {G : zG} {x1 : Int32} {σ σ1 : zS} {r : Int32} (h : f_X4_mustHaveSailed x1 σ = some (r, σ1)) : zM l G zshA yX4_mustHaveSailed cX4_mustHaveSailed 5 (some .boolean) 4 [.ref (ga G 36), .int x1] (zov (some .boolean) G r) σ σ1 :=
  z_met (by decide) (Nat.le_of_ble_eq_true rfl) h (fun K _ hG C => by subst hG; exact b_X4_mustHaveSailed K C x1 σ)
theorem b_X4_comeByBoat_L16 (K : zK) (C : zOk zshA K RX4 cX4_comeByBoat (some .int) 3 5) : ∀ (n : Nat) (x1 : Int32) (x2 : Int32) (σ : zS), Zf zshA K (f_X4_comeByBoat_L16 n x1 x2 σ) 16 [(0, .ref (ga (kG K) 36)), (1, .int x1), (2, .int x2)] [] σ := by
  intro n
  induction n with
  | zero => intro x1 x2 σ; rw [f_X4_comeByBoat_L16]; exact z_none
  | succ n ih =>
  intro x1 x2 σ
  rw [f_X4_comeByBoat_L16]
  refine z_iload_n C dX4_comeByBoat_16 2 rfl ?_
  refine z_aload_n C dX4_comeByBoat_17 0 rfl ?_
  refine z_getR C fd_X4_15 dX4_comeByBoat_18 ?_
  refine z_getI C fd_X4_99 dX4_comeByBoat_21 ?_
  refine z_icmp_ge (tgt := 47) C dX4_comeByBoat_24 (by decide) ?_ ?_
  · refine z_iload_n C dX4_comeByBoat_47 1 rfl ?_
    exact z_iret C dX4_comeByBoat_48
  · refine z_aload_n C dX4_comeByBoat_27 0 rfl ?_
    refine z_iload_n C dX4_comeByBoat_28 2 rfl ?_
    refine z_callVz (q := 36) (As := [.int x2]) (st := []) C zy_X4_mustHaveSailed zv_X4_mustHaveSailed ml_X4_103 rcA_36 (by decide) (fun _ _ h => m_X4_mustHaveSailed h) rfl rfl (Nat.le_of_ble_eq_true rfl) dX4_comeByBoat_29 (fun v1 σ1 => ?_)
    refine z_if_eq (tgt := 41) C dX4_comeByBoat_32 (by decide) ?_ ?_
    · refine z_iinc (v := 1) (lv1 := [(2, .int (x2 + 1)), (0, .ref (ga (kG K) 36)), (1, .int x1)]) C dX4_comeByBoat_41 2 rfl (by decide) (by decide) rfl ?_
      refine z_goto (tgt := 16) C dX4_comeByBoat_44 (by decide) ?_
      exact z_sub [1, 2, 0] rfl (ih x1 (x2 + 1) σ1)
    · refine z_iload_n C dX4_comeByBoat_35 1 rfl ?_
      refine z_iconst (v := 1) C dX4_comeByBoat_36 (by decide) ?_
      refine z_iload_n C dX4_comeByBoat_37 2 rfl ?_
      refine z_ishl C dX4_comeByBoat_38 ?_
      refine z_ior C dX4_comeByBoat_39 ?_
      refine z_istore_n (lv1 := [(1, .int (x1 ||| ((1 : Int32) <<< (x2 &&& 31)))), (0, .ref (ga (kG K) 36)), (2, .int x2)]) C dX4_comeByBoat_40 (by decide) rfl ?_
      refine z_iinc (v := 1) (lv1 := [(2, .int (x2 + 1)), (1, .int (x1 ||| ((1 : Int32) <<< (x2 &&& 31)))), (0, .ref (ga (kG K) 36))]) C dX4_comeByBoat_41 2 rfl (by decide) (by decide) rfl ?_
      refine z_goto (tgt := 16) C dX4_comeByBoat_44 (by decide) ?_
      exact z_sub [2, 1, 0] rfl (ih (x1 ||| ((1 : Int32) <<< (x2 &&& 31))) (x2 + 1) σ1)
theorem b_X4_comeByBoat (K : zK) (C : zOk zshA K RX4 cX4_comeByBoat (some .int) 3 5) (σ : zS) : Zf zshA K (f_X4_comeByBoat σ) 0 [(0, .ref (ga (kG K) 36))] [] σ := by
  unfold f_X4_comeByBoat
  refine z_aload_n C dX4_comeByBoat_0 0 rfl ?_
  refine z_getR C fd_X4_19 dX4_comeByBoat_1 ?_
  refine z_callVz (q := 28) (As := []) (st := []) C zy_X8_settle zv_X8_settle ml_X4_95 rcA_28 (by decide) (fun _ _ h => m_X8_settle h) rfl rfl (Nat.le_of_ble_eq_true rfl) dX4_comeByBoat_4 (fun v1 σ1 => ?_)
  refine z_if_ne (tgt := 12) C dX4_comeByBoat_7 (by decide) ?_ ?_
  · refine z_iconst (v := 0) C dX4_comeByBoat_10 (by decide) ?_
    exact z_iret C dX4_comeByBoat_11
  · refine z_iconst (v := 0) C dX4_comeByBoat_12 (by decide) ?_
    refine z_istore_n (lv1 := [(1, .int 0), (0, .ref (ga (kG K) 36))]) C dX4_comeByBoat_13 (by decide) rfl ?_
    refine z_iconst (v := 0) C dX4_comeByBoat_14 (by decide) ?_
    refine z_istore_n (lv1 := [(2, .int 0), (1, .int 0), (0, .ref (ga (kG K) 36))]) C dX4_comeByBoat_15 (by decide) rfl ?_
    exact z_sub [2, 1, 0] rfl (b_X4_comeByBoat_L16 K C zfu 0 0 σ1)
theorem m_X4_comeByBoat {l : Launch} {G : zG} {σ σ1 : zS} {r : Int32} (h : f_X4_comeByBoat σ = some (r, σ1)) : zM l G zshA yX4_comeByBoat cX4_comeByBoat 3 (some .int) 5 [.ref (ga G 36)] (zov (some .int) G r) σ σ1 :=
  z_met (by decide) (Nat.le_of_ble_eq_true rfl) h (fun K _ hG C => by subst hG; exact b_X4_comeByBoat K C σ)
theorem b_X9_boats (K : zK) (C : zOk zshA K RX9 cX9_boats (some .int) 1 6) (σ : zS) : Zf zshA K (f_X9_boats σ) 0 [(0, .ref (ga (kG K) 0))] [] σ := by
  unfold f_X9_boats
  refine z_aload_n C dX9_boats_0 0 rfl ?_
  refine z_getR C fd_X9_62 dX9_boats_1 ?_
  refine z_callVi (q := 36) (As := []) (st := []) C zy_X4_comeByBoat zv_X4_comeByBoat ml_X9_244 rcA_36 (by decide) (fun _ _ h => m_X4_comeByBoat h) rfl rfl (Nat.le_of_ble_eq_true rfl) dX9_boats_4 (fun v1 σ1 => ?_)
  exact z_iret C dX9_boats_7
theorem m_X9_boats {l : Launch} {G : zG} {σ σ1 : zS} {r : Int32} (h : f_X9_boats σ = some (r, σ1)) : zM l G zshA yX9_boats cX9_boats 1 (some .int) 6 [.ref (ga G 0)] (zov (some .int) G r) σ σ1 :=
  z_met (by decide) (Nat.le_of_ble_eq_true rfl) h (fun K _ hG C => by subst hG; exact b_X9_boats K C σ)
