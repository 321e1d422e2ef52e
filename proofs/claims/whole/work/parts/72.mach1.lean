theorem b_X9_rim_J34 (K : zK) (C : zOk zshA K RX9 cX9_rim (some .int) 5 2) (x1 : Int32) (x2 : Int32) (x3 : Int32) (s0 : Int32) (σ : zS) : Zf zshA K (f_X9_rim_J34 x1 x2 x3 s0 σ) 34 [(0, .ref (ga (kG K) 0)), (1, .int x1), (2, .int x2), (3, .int x3)] [.int s0] σ := by
  unfold f_X9_rim_J34
  refine z_istore (lv1 := [(4, .int s0), (0, .ref (ga (kG K) 0)), (1, .int x1), (2, .int x2), (3, .int x3)]) C dX9_rim_34 (by decide) rfl ?_
  refine z_iload_n C dX9_rim_36 3 rfl ?_
  refine z_iconst (v := 0) C dX9_rim_37 (by decide) ?_
  refine z_sipush (v := 999) C dX9_rim_38 (by decide) ?_
  refine z_callSz (As := [.int x2, .int 0, .int 999]) (st := []) C zy_X9_isWithin zs_X9_isWithin ml_X9_84 (by decide) (fun _ _ h => m_X9_isWithin h) rfl rfl (Nat.le_of_ble_eq_true rfl) dX9_rim_41 (fun v1 σ1 => ?_)
  refine z_if_eq (tgt := 52) C dX9_rim_44 (by decide) ?_ ?_
  · refine z_bipush (v := (-3)) C dX9_rim_52 (by decide) ?_
    exact z_iret C dX9_rim_54
  · refine z_iload C dX9_rim_47 0 rfl ?_
    refine z_if_ne (tgt := 55) C dX9_rim_49 (by decide) ?_ ?_
    · refine z_bipush (v := (-3)) C dX9_rim_52 (by decide) ?_
      exact z_iret C dX9_rim_54
    · refine z_aload_n C dX9_rim_55 1 rfl ?_
      refine z_getR C fd_X9_26 dX9_rim_56 ?_
      refine z_getR C fd_X9_166 dX9_rim_59 ?_
      refine z_iload_n C dX9_rim_62 2 rfl ?_
      refine z_iload_n C dX9_rim_63 3 rfl ?_
      refine z_iast C sA_23 dX9_rim_64 (fun σ2 => ?_)
      refine z_aload_n C dX9_rim_65 1 rfl ?_
      refine z_getR C fd_X9_26 dX9_rim_66 ?_
      refine z_getR C fd_X9_169 dX9_rim_69 ?_
      refine z_iload_n C dX9_rim_72 2 rfl ?_
      refine z_iload_n C dX9_rim_73 4 rfl ?_
      refine z_iast C sA_24 dX9_rim_74 (fun σ3 => ?_)
      refine z_iconst (v := 1) C dX9_rim_75 (by decide) ?_
      exact z_iret C dX9_rim_76
theorem b_X9_rim (K : zK) (C : zOk zshA K RX9 cX9_rim (some .int) 5 2) (x1 : Int32) (x2 : Int32) (x3 : Int32) (σ : zS) : Zf zshA K (f_X9_rim x1 x2 x3 σ) 0 [(0, .ref (ga (kG K) 0)), (1, .int x1), (2, .int x2), (3, .int x3)] [] σ := by
  unfold f_X9_rim
  refine z_aload_n C dX9_rim_0 0 rfl ?_
  refine z_getR C fd_X9_26 dX9_rim_1 ?_
  refine z_iload_n C dX9_rim_4 1 rfl ?_
  refine z_callVz (q := 17) (As := [.int x1]) (st := []) C zy_X0_has zv_X0_has ml_X9_163 rcA_17 (by decide) (fun _ _ h => m_X0_has h) rfl rfl (Nat.le_of_ble_eq_true rfl) dX9_rim_5 (fun v1 σ1 => ?_)
  refine z_if_ne (tgt := 14) C dX9_rim_8 (by decide) ?_ ?_
  · refine z_bipush (v := (-2)) C dX9_rim_11 (by decide) ?_
    exact z_iret C dX9_rim_13
  · refine z_iload_n C dX9_rim_14 3 rfl ?_
    refine z_if_eq (tgt := 29) C dX9_rim_15 (by decide) ?_ ?_
    · refine z_iconst (v := 1) C dX9_rim_29 (by decide) ?_
      refine z_goto (tgt := 34) C dX9_rim_30 (by decide) ?_
      exact z_sub [0, 1, 2, 3] rfl (b_X9_rim_J34 K C x1 x2 x3 1 σ1)
    · refine z_iload_n C dX9_rim_18 3 rfl ?_
      refine z_iconst (v := 1) C dX9_rim_19 (by decide) ?_
      refine z_iload_n C dX9_rim_20 2 rfl ?_
      refine z_iconst (v := 1) C dX9_rim_21 (by decide) ?_
      refine z_isub C dX9_rim_22 ?_
      refine z_callSz (As := [.int x3, .int 1, .int (x2 - 1)]) (st := []) C zy_X9_isWithin zs_X9_isWithin ml_X9_84 (by decide) (fun _ _ h => m_X9_isWithin h) rfl rfl (Nat.le_of_ble_eq_true rfl) dX9_rim_23 (fun v2 σ2 => ?_)
      refine z_if_eq (tgt := 33) C dX9_rim_26 (by decide) ?_ ?_
      · refine z_iconst (v := 0) C dX9_rim_33 (by decide) ?_
        exact z_sub [0, 1, 2, 3] rfl (b_X9_rim_J34 K C x1 x2 x3 0 σ2)
      · refine z_iconst (v := 1) C dX9_rim_29 (by decide) ?_
        refine z_goto (tgt := 34) C dX9_rim_30 (by decide) ?_
        exact z_sub [0, 1, 2, 3] rfl (b_X9_rim_J34 K C x1 x2 x3 1 σ2)
theorem m_X9_rim {l : Launch} {G : zG} {x1 : Int32} {x2 : Int32} {x3 : Int32} {σ σ1 : zS} {r : Int32} (h : f_X9_rim x1 x2 x3 σ = some (r, σ1)) : zM l G zshA yX9_rim cX9_rim 5 (some .int) 2 [.ref (ga G 0), .int x1, .int x2, .int x3] (zov (some .int) G r) σ σ1 :=
  z_met (by decide) (Nat.le_of_ble_eq_true rfl) h (fun K _ hG C => by subst hG; exact b_X9_rim K C x1 x2 x3 σ)
theorem b_X9_measure (K : zK) (C : zOk zshA K RX9 cX9_measure (some .int) 5 2) (x1 : Int32) (x2 : Int32) (x3 : Int32) (σ : zS) : Zf zshA K (f_X9_measure x1 x2 x3 σ) 0 [(0, .ref (ga (kG K) 0)), (1, .int x1), (2, .int x2), (3, .int x3)] [] σ := by
  unfold f_X9_measure
  refine z_aload_n C dX9_measure_0 0 rfl ?_
  refine z_getR C fd_X9_26 dX9_measure_1 ?_
  refine z_iload_n C dX9_measure_4 1 rfl ?_
  refine z_callVz (q := 17) (As := [.int x1]) (st := []) C zy_X0_has zv_X0_has ml_X9_163 rcA_17 (by decide) (fun _ _ h => m_X0_has h) rfl rfl (Nat.le_of_ble_eq_true rfl) dX9_measure_5 (fun v1 σ1 => ?_)
  refine z_if_ne (tgt := 14) C dX9_measure_8 (by decide) ?_ ?_
  · refine z_bipush (v := (-2)) C dX9_measure_11 (by decide) ?_
    exact z_iret C dX9_measure_13
  · refine z_iload_n C dX9_measure_14 2 rfl ?_
    refine z_iload_n C dX9_measure_15 3 rfl ?_
    refine z_callSz (As := [.int x2, .int x3]) (st := []) C zy_X9_areMeasured zs_X9_areMeasured ml_X9_148 (by decide) (fun _ _ h => m_X9_areMeasured h) rfl rfl (Nat.le_of_ble_eq_true rfl) dX9_measure_16 (fun v2 σ2 => ?_)
    refine z_if_ne (tgt := 25) C dX9_measure_19 (by decide) ?_ ?_
    · refine z_bipush (v := (-3)) C dX9_measure_22 (by decide) ?_
      exact z_iret C dX9_measure_24
    · refine z_aload_n C dX9_measure_25 0 rfl ?_
      refine z_getR C fd_X9_26 dX9_measure_26 ?_
      refine z_getR C fd_X9_172 dX9_measure_29 ?_
      refine z_iload_n C dX9_measure_32 1 rfl ?_
      refine z_iald C sA_20 dX9_measure_33 (fun v3 => ?_)
      refine z_istore (lv1 := [(4, .int v3), (0, .ref (ga (kG K) 0)), (1, .int x1), (2, .int x2), (3, .int x3)]) C dX9_measure_34 (by decide) rfl ?_
      refine z_aload_n C dX9_measure_36 1 rfl ?_
      refine z_getR C fd_X9_26 dX9_measure_37 ?_
      refine z_iload_n C dX9_measure_40 2 rfl ?_
      refine z_iload_n C dX9_measure_41 3 rfl ?_
      refine z_iload_n C dX9_measure_42 4 rfl ?_
      refine z_callVv (q := 17) (As := [.int x1, .int x2, .int x3]) (st := []) C zy_X0_setMeasured zv_X0_setMeasured ml_X9_159 rcA_17 (by decide) (fun _ _ h => m_X0_setMeasured h) rfl rfl (Nat.le_of_ble_eq_true rfl) dX9_measure_43 (fun _ σ4 => ?_)
      refine z_iload C dX9_measure_46 0 rfl ?_
      exact z_iret C dX9_measure_48
theorem m_X9_measure {l : Launch} {G : zG} {x1 : Int32} {x2 : Int32} {x3 : Int32} {σ σ1 : zS} {r : Int32} (h : f_X9_measure x1 x2 x3 σ = some (r, σ1)) : zM l G zshA yX9_measure cX9_measure 5 (some .int) 2 [.ref (ga G 0), .int x1, .int x2, .int x3] (zov (some .int) G r) σ σ1 :=
  z_met (by decide) (Nat.le_of_ble_eq_true rfl) h (fun K _ hG C => by subst hG; exact b_X9_measure K C x1 x2 x3 σ)
theorem b_X9_of (K : zK) (C : zOk zshA K RX9 cX9_of (some .int) 3 2) (x1 : Int32) (x2 : Int32) (σ : zS) : Zf zshA K (f_X9_of x1 x2 σ) 0 [(0, .ref (ga (kG K) 0)), (1, .int x1), (2, .int x2)] [] σ := by
  unfold f_X9_of
  refine z_aload_n C dX9_of_0 0 rfl ?_
  refine z_getR C fd_X9_26 dX9_of_1 ?_
  refine z_iload_n C dX9_of_4 1 rfl ?_
  refine z_callVz (q := 17) (As := [.int x1]) (st := []) C zy_X0_has zv_X0_has ml_X9_163 rcA_17 (by decide) (fun _ _ h => m_X0_has h) rfl rfl (Nat.le_of_ble_eq_true rfl) dX9_of_5 (fun v1 σ1 => ?_)
  refine z_if_ne (tgt := 14) C dX9_of_8 (by decide) ?_ ?_
  · refine z_bipush (v := (-2)) C dX9_of_11 (by decide) ?_
    exact z_iret C dX9_of_13
  · refine z_iload_n C dX9_of_14 2 rfl ?_
    refine z_case 0 (fun hc15_0 => ?_) (fun hc15_0 => ?_)
    · refine z_tabIn (tgt := 68) C dX9_of_15 0 hc15_0 (by decide) (by decide) rfl (by decide) ?_
      refine z_aload_n C dX9_of_68 0 rfl ?_
      refine z_getR C fd_X9_26 dX9_of_69 ?_
      refine z_getR C fd_X9_175 dX9_of_72 ?_
      refine z_iload_n C dX9_of_75 1 rfl ?_
      refine z_iald C sA_18 dX9_of_76 (fun v2 => ?_)
      exact z_iret C dX9_of_77
    refine z_case 1 (fun hc15_1 => ?_) (fun hc15_1 => ?_)
    · refine z_tabIn (tgt := 78) C dX9_of_15 1 hc15_1 (by decide) (by decide) rfl (by decide) ?_
      refine z_aload_n C dX9_of_78 0 rfl ?_
      refine z_getR C fd_X9_26 dX9_of_79 ?_
      refine z_getR C fd_X9_178 dX9_of_82 ?_
      refine z_iload_n C dX9_of_85 1 rfl ?_
      refine z_iconst (v := 3) C dX9_of_86 (by decide) ?_
      refine z_imul C dX9_of_87 ?_
      refine z_iload_n C dX9_of_88 2 rfl ?_
      refine z_iadd C dX9_of_89 ?_
      refine z_iconst (v := 1) C dX9_of_90 (by decide) ?_
      refine z_isub C dX9_of_91 ?_
      refine z_iald C sA_19 dX9_of_92 (fun v2 => ?_)
      exact z_iret C dX9_of_93
    refine z_case 2 (fun hc15_2 => ?_) (fun hc15_2 => ?_)
    · refine z_tabIn (tgt := 78) C dX9_of_15 2 hc15_2 (by decide) (by decide) rfl (by decide) ?_
      refine z_aload_n C dX9_of_78 0 rfl ?_
      refine z_getR C fd_X9_26 dX9_of_79 ?_
      refine z_getR C fd_X9_178 dX9_of_82 ?_
      refine z_iload_n C dX9_of_85 1 rfl ?_
      refine z_iconst (v := 3) C dX9_of_86 (by decide) ?_
      refine z_imul C dX9_of_87 ?_
      refine z_iload_n C dX9_of_88 2 rfl ?_
      refine z_iadd C dX9_of_89 ?_
      refine z_iconst (v := 1) C dX9_of_90 (by decide) ?_
      refine z_isub C dX9_of_91 ?_
      refine z_iald C sA_19 dX9_of_92 (fun v2 => ?_)
      exact z_iret C dX9_of_93
    refine z_case 3 (fun hc15_3 => ?_) (fun hc15_3 => ?_)
    · refine z_tabIn (tgt := 78) C dX9_of_15 3 hc15_3 (by decide) (by decide) rfl (by decide) ?_
      refine z_aload_n C dX9_of_78 0 rfl ?_
      refine z_getR C fd_X9_26 dX9_of_79 ?_
      refine z_getR C fd_X9_178 dX9_of_82 ?_
      refine z_iload_n C dX9_of_85 1 rfl ?_
      refine z_iconst (v := 3) C dX9_of_86 (by decide) ?_
      refine z_imul C dX9_of_87 ?_
      refine z_iload_n C dX9_of_88 2 rfl ?_
      refine z_iadd C dX9_of_89 ?_
      refine z_iconst (v := 1) C dX9_of_90 (by decide) ?_
      refine z_isub C dX9_of_91 ?_
      refine z_iald C sA_19 dX9_of_92 (fun v2 => ?_)
      exact z_iret C dX9_of_93
    refine z_case 4 (fun hc15_4 => ?_) (fun hc15_4 => ?_)
    · refine z_tabIn (tgt := 94) C dX9_of_15 4 hc15_4 (by decide) (by decide) rfl (by decide) ?_
      refine z_aload_n C dX9_of_94 0 rfl ?_
      refine z_getR C fd_X9_26 dX9_of_95 ?_
      refine z_getR C fd_X9_172 dX9_of_98 ?_
      refine z_iload_n C dX9_of_101 1 rfl ?_
      refine z_iald C sA_20 dX9_of_102 (fun v2 => ?_)
      exact z_iret C dX9_of_103
    refine z_case 5 (fun hc15_5 => ?_) (fun hc15_5 => ?_)
    · refine z_tabIn (tgt := 104) C dX9_of_15 5 hc15_5 (by decide) (by decide) rfl (by decide) ?_
      refine z_aload_n C dX9_of_104 0 rfl ?_
      refine z_getR C fd_X9_26 dX9_of_105 ?_
      refine z_getR C fd_X9_181 dX9_of_108 ?_
      refine z_iload_n C dX9_of_111 1 rfl ?_
      refine z_iald C sA_21 dX9_of_112 (fun v2 => ?_)
      exact z_iret C dX9_of_113
    refine z_case 6 (fun hc15_6 => ?_) (fun hc15_6 => ?_)
    · refine z_tabIn (tgt := 114) C dX9_of_15 6 hc15_6 (by decide) (by decide) rfl (by decide) ?_
      refine z_aload_n C dX9_of_114 0 rfl ?_
      refine z_getR C fd_X9_26 dX9_of_115 ?_
      refine z_getR C fd_X9_184 dX9_of_118 ?_
      refine z_iload_n C dX9_of_121 1 rfl ?_
      refine z_iald C sA_22 dX9_of_122 (fun v2 => ?_)
      exact z_iret C dX9_of_123
    refine z_case 7 (fun hc15_7 => ?_) (fun hc15_7 => ?_)
    · refine z_tabIn (tgt := 124) C dX9_of_15 7 hc15_7 (by decide) (by decide) rfl (by decide) ?_
      refine z_aload_n C dX9_of_124 0 rfl ?_
      refine z_getR C fd_X9_26 dX9_of_125 ?_
      refine z_getR C fd_X9_166 dX9_of_128 ?_
      refine z_iload_n C dX9_of_131 1 rfl ?_
      refine z_iald C sA_23 dX9_of_132 (fun v2 => ?_)
      exact z_iret C dX9_of_133
    refine z_case 8 (fun hc15_8 => ?_) (fun hc15_8 => ?_)
    · refine z_tabIn (tgt := 134) C dX9_of_15 8 hc15_8 (by decide) (by decide) rfl (by decide) ?_
      refine z_aload_n C dX9_of_134 0 rfl ?_
      refine z_getR C fd_X9_26 dX9_of_135 ?_
      refine z_getR C fd_X9_169 dX9_of_138 ?_
      refine z_iload_n C dX9_of_141 1 rfl ?_
      refine z_iald C sA_24 dX9_of_142 (fun v2 => ?_)
      exact z_iret C dX9_of_143
    refine z_case 9 (fun hc15_9 => ?_) (fun hc15_9 => ?_)
    · refine z_tabIn (tgt := 144) C dX9_of_15 9 hc15_9 (by decide) (by decide) rfl (by decide) ?_
      refine z_aload_n C dX9_of_144 0 rfl ?_
      refine z_getR C fd_X9_26 dX9_of_145 ?_
      refine z_getR C fd_X9_187 dX9_of_148 ?_
      refine z_iload_n C dX9_of_151 1 rfl ?_
      refine z_iald C sA_25 dX9_of_152 (fun v2 => ?_)
      exact z_iret C dX9_of_153
    refine z_tabD (tgt := 154) C [0, 1, 2, 3, 4, 5, 6, 7, 8, 9] (List.forall_mem_cons.mpr ⟨ztoi hc15_0 rfl, (List.forall_mem_cons.mpr ⟨ztoi hc15_1 rfl, (List.forall_mem_cons.mpr ⟨ztoi hc15_2 rfl, (List.forall_mem_cons.mpr ⟨ztoi hc15_3 rfl, (List.forall_mem_cons.mpr ⟨ztoi hc15_4 rfl, (List.forall_mem_cons.mpr ⟨ztoi hc15_5 rfl, (List.forall_mem_cons.mpr ⟨ztoi hc15_6 rfl, (List.forall_mem_cons.mpr ⟨ztoi hc15_7 rfl, (List.forall_mem_cons.mpr ⟨ztoi hc15_8 rfl, (List.forall_mem_cons.mpr ⟨ztoi hc15_9 rfl, (fun _ h => absurd h List.not_mem_nil)⟩)⟩)⟩)⟩)⟩)⟩)⟩)⟩)⟩)⟩) dX9_of_15 (by decide +kernel) (by decide) ?_
    refine z_bipush (v := (-3)) C dX9_of_154 (by decide) ?_
    exact z_iret C dX9_of_156
theorem m_X9_of {l : Launch} {G : zG} {x1 : Int32} {x2 : Int32} {σ σ1 : zS} {r : Int32} (h : f_X9_of x1 x2 σ = some (r, σ1)) : zM l G zshA yX9_of cX9_of 3 (some .int) 2 [.ref (ga G 0), .int x1, .int x2] (zov (some .int) G r) σ σ1 :=
  z_met (by decide) (Nat.le_of_ble_eq_true rfl) h (fun K _ hG C => by subst hG; exact b_X9_of K C x1 x2 σ)
theorem b_X9_cut (K : zK) (C : zOk zshA K RX9 cX9_cut (some .int) 2 0) (x0 : Int32) (x1 : Int32) (σ : zS) : Zf zshA K (f_X9_cut x0 x1 σ) 0 [(0, .int x0), (1, .int x1)] [] σ := by
  unfold f_X9_cut
  refine z_iload_n C dX9_cut_0 1 rfl ?_
  refine z_if_le (tgt := 10) C dX9_cut_1 (by decide) ?_ ?_
  · refine z_iconst (v := 0) C dX9_cut_10 (by decide) ?_
    exact z_iret C dX9_cut_11
  · refine z_iload_n C dX9_cut_4 0 rfl ?_
    refine z_iload_n C dX9_cut_5 1 rfl ?_
    refine z_idiv C dX9_cut_6 (fun v1 => ?_)
    refine z_goto (tgt := 11) C dX9_cut_7 (by decide) ?_
    exact z_iret C dX9_cut_11
theorem m_X9_cut {l : Launch} {G : zG} {x0 : Int32} {x1 : Int32} {σ σ1 : zS} {r : Int32} (h : f_X9_cut x0 x1 σ = some (r, σ1)) : zM l G zshA yX9_cut cX9_cut 2 (some .int) 0 [.int x0, .int x1] (zov (some .int) G r) σ σ1 :=
  z_met (by decide) (Nat.le_of_ble_eq_true rfl) h (fun K _ hG C => by subst hG; exact b_X9_cut K C x0 x1 σ)
theorem b_X2_offBetween_L5 (K : zK) (C : zOk zshA K RX2 cX2_offBetween (some .int) 7 1) (x1 : Int32) (x2 : Int32) : ∀ (n : Nat) (x3 : Int32) (x4 : Int32) (σ : zS), Zf zshA K (f_X2_offBetween_L5 x1 x2 n x3 x4 σ) 5 [(0, .ref (ga (kG K) 27)), (1, .int x1), (2, .int x2), (3, .int x3), (4, .int x4)] [] σ := by
  intro n
  induction n with
  | zero => intro x3 x4 σ; rw [f_X2_offBetween_L5]; exact z_none
  | succ n ih =>
  intro x3 x4 σ
  rw [f_X2_offBetween_L5]
  refine z_iload C dX2_offBetween_5 4 rfl ?_
  refine z_iconst (v := 3) C dX2_offBetween_7 (by decide) ?_
  refine z_icmp_ge (tgt := 62) C dX2_offBetween_8 (by decide) ?_ ?_
  · refine z_bipush (v := 10) C dX2_offBetween_62 (by decide) ?_
    refine z_iload_n C dX2_offBetween_64 3 rfl ?_
    refine z_imul C dX2_offBetween_65 ?_
    refine z_aload_n C dX2_offBetween_66 0 rfl ?_
    refine z_getR C fd_X2_15 dX2_offBetween_67 ?_
    refine z_getR C fd_X2_40 dX2_offBetween_70 ?_
    refine z_iload_n C dX2_offBetween_73 1 rfl ?_
    refine z_iald C sA_20 dX2_offBetween_74 (fun v1 => ?_)
    refine z_aload_n C dX2_offBetween_75 0 rfl ?_
    refine z_getR C fd_X2_9 dX2_offBetween_76 ?_
    refine z_getR C fd_X2_43 dX2_offBetween_79 ?_
    refine z_iload_n C dX2_offBetween_82 2 rfl ?_
    refine z_iald C sA_12 dX2_offBetween_83 (fun v2 => ?_)
    refine z_iadd C dX2_offBetween_84 ?_
    refine z_callNi (As := [.int (10 * x3), .int (v1 + v2)]) (st := []) C zy_X9_cut zs_X9_cut mn_X2_46 (by decide) (fun _ _ h => m_X9_cut h) rfl rfl (Nat.le_of_ble_eq_true rfl) dX2_offBetween_85 (fun v3 σ3 => ?_)
    exact z_iret C dX2_offBetween_88
  · refine z_aload_n C dX2_offBetween_11 0 rfl ?_
    refine z_getR C fd_X2_15 dX2_offBetween_12 ?_
    refine z_getR C fd_X2_19 dX2_offBetween_15 ?_
    refine z_iload_n C dX2_offBetween_18 1 rfl ?_
    refine z_iconst (v := 3) C dX2_offBetween_19 (by decide) ?_
    refine z_imul C dX2_offBetween_20 ?_
    refine z_iload C dX2_offBetween_21 4 rfl ?_
    refine z_iadd C dX2_offBetween_23 ?_
    refine z_iald C sA_19 dX2_offBetween_24 (fun v1 => ?_)
    refine z_istore (lv1 := [(5, .int v1), (0, .ref (ga (kG K) 27)), (1, .int x1), (2, .int x2), (3, .int x3), (4, .int x4)]) C dX2_offBetween_25 (by decide) rfl ?_
    refine z_aload_n C dX2_offBetween_27 1 rfl ?_
    refine z_getR C fd_X2_9 dX2_offBetween_28 ?_
    refine z_getR C fd_X2_25 dX2_offBetween_31 ?_
    refine z_iload_n C dX2_offBetween_34 3 rfl ?_
    refine z_iconst (v := 3) C dX2_offBetween_35 (by decide) ?_
    refine z_imul C dX2_offBetween_36 ?_
    refine z_iload C dX2_offBetween_37 5 rfl ?_
    refine z_iadd C dX2_offBetween_39 ?_
    refine z_iald C sA_11 dX2_offBetween_40 (fun v2 => ?_)
    refine z_istore (lv1 := [(6, .int v2), (5, .int v1), (0, .ref (ga (kG K) 27)), (1, .int x1), (2, .int x2), (3, .int x3), (4, .int x4)]) C dX2_offBetween_41 (by decide) rfl ?_
    refine z_iload_n C dX2_offBetween_43 5 rfl ?_
    refine z_iload C dX2_offBetween_44 1 rfl ?_
    refine z_iload C dX2_offBetween_46 0 rfl ?_
    refine z_isub C dX2_offBetween_48 ?_
    refine z_mabs C ml_X2_30 zma_abs_s zma_i zma_abs_c (by decide) (Nat.le_of_ble_eq_true rfl) dX2_offBetween_49 ?_
    refine z_mmax C ml_X2_36 zma_max_s zma_i zma_max_c (by decide) (Nat.le_of_ble_eq_true rfl) dX2_offBetween_52 ?_
    refine z_istore_n (lv1 := [(3, .int (zmax x3 (zabs (v1 - v2)))), (6, .int v2), (5, .int v1), (0, .ref (ga (kG K) 27)), (1, .int x1), (2, .int x2), (4, .int x4)]) C dX2_offBetween_55 (by decide) rfl ?_
    refine z_iinc (v := 1) (lv1 := [(4, .int (x4 + 1)), (3, .int (zmax x3 (zabs (v1 - v2)))), (6, .int v2), (5, .int v1), (0, .ref (ga (kG K) 27)), (1, .int x1), (2, .int x2)]) C dX2_offBetween_56 6 rfl (by decide) (by decide) rfl ?_
    refine z_goto (tgt := 5) C dX2_offBetween_59 (by decide) ?_
    exact z_sub [4, 5, 6, 1, 0] rfl (ih (zmax x3 (zabs (v1 - v2))) (x4 + 1) σ)
theorem b_X2_offBetween (K : zK) (C : zOk zshA K RX2 cX2_offBetween (some .int) 7 1) (x1 : Int32) (x2 : Int32) (σ : zS) : Zf zshA K (f_X2_offBetween x1 x2 σ) 0 [(0, .ref (ga (kG K) 27)), (1, .int x1), (2, .int x2)] [] σ := by
  unfold f_X2_offBetween
  refine z_iconst (v := 0) C dX2_offBetween_0 (by decide) ?_
  refine z_istore_n (lv1 := [(3, .int 0), (0, .ref (ga (kG K) 27)), (1, .int x1), (2, .int x2)]) C dX2_offBetween_1 (by decide) rfl ?_
  refine z_iconst (v := 0) C dX2_offBetween_2 (by decide) ?_
  refine z_istore (lv1 := [(4, .int 0), (3, .int 0), (0, .ref (ga (kG K) 27)), (1, .int x1), (2, .int x2)]) C dX2_offBetween_3 (by decide) rfl ?_
  exact z_sub [2, 3, 4, 1, 0] rfl (b_X2_offBetween_L5 K C x1 x2 zfu 0 0 σ)
theorem m_X2_offBetween {l : Launch} {G : zG} {x1 : Int32} {x2 : Int32} {σ σ1 : zS} {r : Int32} (h : f_X2_offBetween x1 x2 σ = some (r, σ1)) : zM l G zshA yX2_offBetween cX2_offBetween 7 (some .int) 1 [.ref (ga G 27), .int x1, .int x2] (zov (some .int) G r) σ σ1 :=
  z_met (by decide) (Nat.le_of_ble_eq_true rfl) h (fun K _ hG C => by subst hG; exact b_X2_offBetween K C x1 x2 σ)
theorem b_X9_off (K : zK) (C : zOk zshA K RX9 cX9_off (some .int) 3 2) (x1 : Int32) (x2 : Int32) (σ : zS) : Zf zshA K (f_X9_off x1 x2 σ) 0 [(0, .ref (ga (kG K) 0)), (1, .int x1), (2, .int x2)] [] σ := by
  unfold f_X9_off
  refine z_aload_n C dX9_off_0 0 rfl ?_
  refine z_getR C fd_X9_26 dX9_off_1 ?_
  refine z_iload_n C dX9_off_4 1 rfl ?_
  refine z_callVz (q := 17) (As := [.int x1]) (st := []) C zy_X0_has zv_X0_has ml_X9_163 rcA_17 (by decide) (fun _ _ h => m_X0_has h) rfl rfl (Nat.le_of_ble_eq_true rfl) dX9_off_5 (fun v1 σ1 => ?_)
  refine z_if_eq (tgt := 22) C dX9_off_8 (by decide) ?_ ?_
  · refine z_bipush (v := (-2)) C dX9_off_22 (by decide) ?_
    exact z_iret C dX9_off_24
  · refine z_aload_n C dX9_off_11 0 rfl ?_
    refine z_getR C fd_X9_19 dX9_off_12 ?_
    refine z_iload_n C dX9_off_15 2 rfl ?_
    refine z_callVz (q := 4) (As := [.int x2]) (st := []) C zy_X3_isTold zv_X3_isTold ml_X9_127 rcA_4 (by decide) (fun _ _ h => m_X3_isTold h) rfl rfl (Nat.le_of_ble_eq_true rfl) dX9_off_16 (fun v2 σ2 => ?_)
    refine z_if_ne (tgt := 25) C dX9_off_19 (by decide) ?_ ?_
    · refine z_bipush (v := (-2)) C dX9_off_22 (by decide) ?_
      exact z_iret C dX9_off_24
    · refine z_aload_n C dX9_off_25 0 rfl ?_
      refine z_getR C fd_X9_35 dX9_off_26 ?_
      refine z_iload_n C dX9_off_29 1 rfl ?_
      refine z_iload_n C dX9_off_30 2 rfl ?_
      refine z_callVi (q := 27) (As := [.int x1, .int x2]) (st := []) C zy_X2_offBetween zv_X2_offBetween ml_X9_190 rcA_27 (by decide) (fun _ _ h => m_X2_offBetween h) rfl rfl (Nat.le_of_ble_eq_true rfl) dX9_off_31 (fun v3 σ3 => ?_)
      exact z_iret C dX9_off_34
theorem m_X9_off {l : Launch} {G : zG} {x1 : Int32} {x2 : Int32} {σ σ1 : zS} {r : Int32} (h : f_X9_off x1 x2 σ = some (r, σ1)) : zM l G zshA yX9_off cX9_off 3 (some .int) 2 [.ref (ga G 0), .int x1, .int x2] (zov (some .int) G r) σ σ1 :=
  z_met (by decide) (Nat.le_of_ble_eq_true rfl) h (fun K _ hG C => by subst hG; exact b_X9_off K C x1 x2 σ)
theorem b_X2_canBeOf_L4 (K : zK) (C : zOk zshA K RX2 cX2_canBeOf (some .int) 4 2) (x1 : Int32) : ∀ (n : Nat) (x2 : Int32) (x3 : Int32) (σ : zS), Zf zshA K (f_X2_canBeOf_L4 x1 n x2 x3 σ) 4 [(0, .ref (ga (kG K) 27)), (1, .int x1), (2, .int x2), (3, .int x3)] [] σ := by
  intro n
  induction n with
  | zero => intro x2 x3 σ; rw [f_X2_canBeOf_L4]; exact z_none
  | succ n ih =>
  intro x2 x3 σ
  rw [f_X2_canBeOf_L4]
  refine z_iload_n C dX2_canBeOf_4 3 rfl ?_
  refine z_bipush (v := 9) C dX2_canBeOf_5 (by decide) ?_
  refine z_icmp_ge (tgt := 50) C dX2_canBeOf_7 (by decide) ?_ ?_
  · refine z_iload_n C dX2_canBeOf_50 2 rfl ?_
    exact z_iret C dX2_canBeOf_51
  · refine z_aload_n C dX2_canBeOf_10 0 rfl ?_
    refine z_getR C fd_X2_9 dX2_canBeOf_11 ?_
    refine z_getR C fd_X2_49 dX2_canBeOf_14 ?_
    refine z_iload_n C dX2_canBeOf_17 3 rfl ?_
    refine z_bald C sA_8 dX2_canBeOf_18 (fun v1 => ?_)
    refine z_if_eq (tgt := 44) C dX2_canBeOf_19 (by decide) ?_ ?_
    · refine z_iinc (v := 1) (lv1 := [(3, .int (x3 + 1)), (0, .ref (ga (kG K) 27)), (1, .int x1), (2, .int x2)]) C dX2_canBeOf_44 3 rfl (by decide) (by decide) rfl ?_
      refine z_goto (tgt := 4) C dX2_canBeOf_47 (by decide) ?_
      exact z_sub [1, 2, 3, 0] rfl (ih x2 (x3 + 1) σ)
    · refine z_aload_n C dX2_canBeOf_22 0 rfl ?_
      refine z_iload_n C dX2_canBeOf_23 1 rfl ?_
      refine z_iload_n C dX2_canBeOf_24 3 rfl ?_
      refine z_callVi (q := 27) (As := [.int x1, .int x3]) (st := []) C zy_X2_offBetween zv_X2_offBetween ml_X2_53 rcA_27 (by decide) (fun _ _ h => m_X2_offBetween h) rfl rfl (Nat.le_of_ble_eq_true rfl) dX2_canBeOf_25 (fun v2 σ2 => ?_)
      refine z_aload_n C dX2_canBeOf_28 0 rfl ?_
      refine z_getR C fd_X2_9 dX2_canBeOf_29 ?_
      refine z_getI C fd_X2_56 dX2_canBeOf_32 ?_
      refine z_icmp_gt (tgt := 44) C dX2_canBeOf_35 (by decide) ?_ ?_
      · refine z_iinc (v := 1) (lv1 := [(3, .int (x3 + 1)), (0, .ref (ga (kG K) 27)), (1, .int x1), (2, .int x2)]) C dX2_canBeOf_44 3 rfl (by decide) (by decide) rfl ?_
        refine z_goto (tgt := 4) C dX2_canBeOf_47 (by decide) ?_
        exact z_sub [1, 2, 3, 0] rfl (ih x2 (x3 + 1) σ2)
      · refine z_iload_n C dX2_canBeOf_38 2 rfl ?_
        refine z_iconst (v := 1) C dX2_canBeOf_39 (by decide) ?_
        refine z_iload_n C dX2_canBeOf_40 3 rfl ?_
        refine z_ishl C dX2_canBeOf_41 ?_
        refine z_ior C dX2_canBeOf_42 ?_
        refine z_istore_n (lv1 := [(2, .int (x2 ||| ((1 : Int32) <<< (x3 &&& 31)))), (0, .ref (ga (kG K) 27)), (1, .int x1), (3, .int x3)]) C dX2_canBeOf_43 (by decide) rfl ?_
        refine z_iinc (v := 1) (lv1 := [(3, .int (x3 + 1)), (2, .int (x2 ||| ((1 : Int32) <<< (x3 &&& 31)))), (0, .ref (ga (kG K) 27)), (1, .int x1)]) C dX2_canBeOf_44 3 rfl (by decide) (by decide) rfl ?_
        refine z_goto (tgt := 4) C dX2_canBeOf_47 (by decide) ?_
        exact z_sub [2, 3, 1, 0] rfl (ih (x2 ||| ((1 : Int32) <<< (x3 &&& 31))) (x3 + 1) σ2)
theorem b_X2_canBeOf (K : zK) (C : zOk zshA K RX2 cX2_canBeOf (some .int) 4 2) (x1 : Int32) (σ : zS) : Zf zshA K (f_X2_canBeOf x1 σ) 0 [(0, .ref (ga (kG K) 27)), (1, .int x1)] [] σ := by
  unfold f_X2_canBeOf
  refine z_iconst (v := 0) C dX2_canBeOf_0 (by decide) ?_
  refine z_istore_n (lv1 := [(2, .int 0), (0, .ref (ga (kG K) 27)), (1, .int x1)]) C dX2_canBeOf_1 (by decide) rfl ?_
  refine z_iconst (v := 0) C dX2_canBeOf_2 (by decide) ?_
  refine z_istore_n (lv1 := [(3, .int 0), (2, .int 0), (0, .ref (ga (kG K) 27)), (1, .int x1)]) C dX2_canBeOf_3 (by decide) rfl ?_
  exact z_sub [2, 3, 1, 0] rfl (b_X2_canBeOf_L4 K C x1 zfu 0 0 σ)
theorem m_X2_canBeOf {l : Launch} {G : zG} {x1 : Int32} {σ σ1 : zS} {r : Int32} (h : f_X2_canBeOf x1 σ = some (r, σ1)) : zM l G zshA yX2_canBeOf cX2_canBeOf 4 (some .int) 2 [.ref (ga G 27), .int x1] (zov (some .int) G r) σ σ1 :=
  z_met (by decide) (Nat.le_of_ble_eq_true rfl) h (fun K _ hG C => by subst hG; exact b_X2_canBeOf K C x1 σ)
theorem b_X9_can (K : zK) (C : zOk zshA K RX9 cX9_can (some .int) 2 3) (x1 : Int32) (σ : zS) : Zf zshA K (f_X9_can x1 σ) 0 [(0, .ref (ga (kG K) 0)), (1, .int x1)] [] σ := by
  unfold f_X9_can
  refine z_aload_n C dX9_can_0 0 rfl ?_
  refine z_getR C fd_X9_26 dX9_can_1 ?_
  refine z_iload_n C dX9_can_4 1 rfl ?_
  refine z_callVz (q := 17) (As := [.int x1]) (st := []) C zy_X0_has zv_X0_has ml_X9_163 rcA_17 (by decide) (fun _ _ h => m_X0_has h) rfl rfl (Nat.le_of_ble_eq_true rfl) dX9_can_5 (fun v1 σ1 => ?_)
  refine z_if_eq (tgt := 22) C dX9_can_8 (by decide) ?_ ?_
  · refine z_bipush (v := (-2)) C dX9_can_22 (by decide) ?_
    exact z_iret C dX9_can_24
  · refine z_aload_n C dX9_can_11 0 rfl ?_
    refine z_getR C fd_X9_35 dX9_can_12 ?_
    refine z_iload_n C dX9_can_15 1 rfl ?_
    refine z_callVi (q := 27) (As := [.int x1]) (st := []) C zy_X2_canBeOf zv_X2_canBeOf ml_X9_194 rcA_27 (by decide) (fun _ _ h => m_X2_canBeOf h) rfl rfl (Nat.le_of_ble_eq_true rfl) dX9_can_16 (fun v2 σ2 => ?_)
    refine z_goto (tgt := 24) C dX9_can_19 (by decide) ?_
    exact z_iret C dX9_can_24
theorem m_X9_can {l : Launch} {G : zG} {x1 : Int32} {σ σ1 : zS} {r : Int32} (h : f_X9_can x1 σ = some (r, σ1)) : zM l G zshA yX9_can cX9_can 2 (some .int) 3 [.ref (ga G 0), .int x1] (zov (some .int) G r) σ σ1 :=
  z_met (by decide) (Nat.le_of_ble_eq_true rfl) h (fun K _ hG C => by subst hG; exact b_X9_can K C x1 σ)
theorem b_J6_bitCount_0f7a4 (K : zK) (C : zOk zshA K RJ6 cJ6_bitCount_0f7a4 (some .int) 1 0) (x0 : Int32) (σ : zS) : Zf zshA K (f_J6_bitCount_0f7a4 x0 σ) 0 [(0, .int x0)] [] σ := by
  unfold f_J6_bitCount_0f7a4
  refine z_iload_n C dJ6_bitCount_0f7a4_0 0 rfl ?_
  refine z_iload_n C dJ6_bitCount_0f7a4_1 0 rfl ?_
  refine z_iconst (v := 1) C dJ6_bitCount_0f7a4_2 (by decide) ?_
  refine z_iushr C dJ6_bitCount_0f7a4_3 ?_
  refine z_ldcw (v := 1431655765) C dJ6_bitCount_0f7a4_4 ko_J6_265 ?_
  refine z_iand C dJ6_bitCount_0f7a4_7 ?_
  refine z_isub C dJ6_bitCount_0f7a4_8 ?_
  refine z_istore_n (lv1 := [(0, .int (x0 - ((((Int32.toUInt32 x0) >>> (Int32.toUInt32 (1 : Int32) &&& Int32.toUInt32 31)).toInt32) &&& 1431655765)))]) C dJ6_bitCount_0f7a4_9 (by decide) rfl ?_
  refine z_iload_n C dJ6_bitCount_0f7a4_10 0 rfl ?_
  refine z_ldcw (v := 858993459) C dJ6_bitCount_0f7a4_11 ko_J6_266 ?_
  refine z_iand C dJ6_bitCount_0f7a4_14 ?_
  refine z_iload_n C dJ6_bitCount_0f7a4_15 0 rfl ?_
  refine z_iconst (v := 2) C dJ6_bitCount_0f7a4_16 (by decide) ?_
  refine z_iushr C dJ6_bitCount_0f7a4_17 ?_
  refine z_ldcw (v := 858993459) C dJ6_bitCount_0f7a4_18 ko_J6_266 ?_
  refine z_iand C dJ6_bitCount_0f7a4_21 ?_
  refine z_iadd C dJ6_bitCount_0f7a4_22 ?_
  refine z_istore_n (lv1 := [(0, .int (((x0 - ((((Int32.toUInt32 x0) >>> (Int32.toUInt32 (1 : Int32) &&& Int32.toUInt32 31)).toInt32) &&& 1431655765)) &&& 858993459) + ((((Int32.toUInt32 (x0 - ((((Int32.toUInt32 x0) >>> (Int32.toUInt32 (1 : Int32) &&& Int32.toUInt32 31)).toInt32) &&& 1431655765))) >>> (Int32.toUInt32 (2 : Int32) &&& Int32.toUInt32 31)).toInt32) &&& 858993459)))]) C dJ6_bitCount_0f7a4_23 (by decide) rfl ?_
  refine z_iload_n C dJ6_bitCount_0f7a4_24 0 rfl ?_
  refine z_iload_n C dJ6_bitCount_0f7a4_25 0 rfl ?_
  refine z_iconst (v := 4) C dJ6_bitCount_0f7a4_26 (by decide) ?_
  refine z_iushr C dJ6_bitCount_0f7a4_27 ?_
  refine z_iadd C dJ6_bitCount_0f7a4_28 ?_
  refine z_ldcw (v := 252645135) C dJ6_bitCount_0f7a4_29 ko_J6_267 ?_
  refine z_iand C dJ6_bitCount_0f7a4_32 ?_
  refine z_istore_n (lv1 := [(0, .int (((((x0 - ((((Int32.toUInt32 x0) >>> (Int32.toUInt32 (1 : Int32) &&& Int32.toUInt32 31)).toInt32) &&& 1431655765)) &&& 858993459) + ((((Int32.toUInt32 (x0 - ((((Int32.toUInt32 x0) >>> (Int32.toUInt32 (1 : Int32) &&& Int32.toUInt32 31)).toInt32) &&& 1431655765))) >>> (Int32.toUInt32 (2 : Int32) &&& Int32.toUInt32 31)).toInt32) &&& 858993459)) + (((Int32.toUInt32 (((x0 - ((((Int32.toUInt32 x0) >>> (Int32.toUInt32 (1 : Int32) &&& Int32.toUInt32 31)).toInt32) &&& 1431655765)) &&& 858993459) + ((((Int32.toUInt32 (x0 - ((((Int32.toUInt32 x0) >>> (Int32.toUInt32 (1 : Int32) &&& Int32.toUInt32 31)).toInt32) &&& 1431655765))) >>> (Int32.toUInt32 (2 : Int32) &&& Int32.toUInt32 31)).toInt32) &&& 858993459))) >>> (Int32.toUInt32 (4 : Int32) &&& Int32.toUInt32 31)).toInt32)) &&& 252645135))]) C dJ6_bitCount_0f7a4_33 (by decide) rfl ?_
  refine z_iload_n C dJ6_bitCount_0f7a4_34 0 rfl ?_
  refine z_iload_n C dJ6_bitCount_0f7a4_35 0 rfl ?_
  refine z_bipush (v := 8) C dJ6_bitCount_0f7a4_36 (by decide) ?_
  refine z_iushr C dJ6_bitCount_0f7a4_38 ?_
  refine z_iadd C dJ6_bitCount_0f7a4_39 ?_
  refine z_istore_n (lv1 := [(0, .int ((((((x0 - ((((Int32.toUInt32 x0) >>> (Int32.toUInt32 (1 : Int32) &&& Int32.toUInt32 31)).toInt32) &&& 1431655765)) &&& 858993459) + ((((Int32.toUInt32 (x0 - ((((Int32.toUInt32 x0) >>> (Int32.toUInt32 (1 : Int32) &&& Int32.toUInt32 31)).toInt32) &&& 1431655765))) >>> (Int32.toUInt32 (2 : Int32) &&& Int32.toUInt32 31)).toInt32) &&& 858993459)) + (((Int32.toUInt32 (((x0 - ((((Int32.toUInt32 x0) >>> (Int32.toUInt32 (1 : Int32) &&& Int32.toUInt32 31)).toInt32) &&& 1431655765)) &&& 858993459) + ((((Int32.toUInt32 (x0 - ((((Int32.toUInt32 x0) >>> (Int32.toUInt32 (1 : Int32) &&& Int32.toUInt32 31)).toInt32) &&& 1431655765))) >>> (Int32.toUInt32 (2 : Int32) &&& Int32.toUInt32 31)).toInt32) &&& 858993459))) >>> (Int32.toUInt32 (4 : Int32) &&& Int32.toUInt32 31)).toInt32)) &&& 252645135) + (((Int32.toUInt32 (((((x0 - ((((Int32.toUInt32 x0) >>> (Int32.toUInt32 (1 : Int32) &&& Int32.toUInt32 31)).toInt32) &&& 1431655765)) &&& 858993459) + ((((Int32.toUInt32 (x0 - ((((Int32.toUInt32 x0) >>> (Int32.toUInt32 (1 : Int32) &&& Int32.toUInt32 31)).toInt32) &&& 1431655765))) >>> (Int32.toUInt32 (2 : Int32) &&& Int32.toUInt32 31)).toInt32) &&& 858993459)) + (((Int32.toUInt32 (((x0 - ((((Int32.toUInt32 x0) >>> (Int32.toUInt32 (1 : Int32) &&& Int32.toUInt32 31)).toInt32) &&& 1431655765)) &&& 858993459) + ((((Int32.toUInt32 (x0 - ((((Int32.toUInt32 x0) >>> (Int32.toUInt32 (1 : Int32) &&& Int32.toUInt32 31)).toInt32) &&& 1431655765))) >>> (Int32.toUInt32 (2 : Int32) &&& Int32.toUInt32 31)).toInt32) &&& 858993459))) >>> (Int32.toUInt32 (4 : Int32) &&& Int32.toUInt32 31)).toInt32)) &&& 252645135)) >>> (Int32.toUInt32 (8 : Int32) &&& Int32.toUInt32 31)).toInt32)))]) C dJ6_bitCount_0f7a4_40 (by decide) rfl ?_
  refine z_iload_n C dJ6_bitCount_0f7a4_41 0 rfl ?_
  refine z_iload_n C dJ6_bitCount_0f7a4_42 0 rfl ?_
  refine z_bipush (v := 16) C dJ6_bitCount_0f7a4_43 (by decide) ?_
  refine z_iushr C dJ6_bitCount_0f7a4_45 ?_
  refine z_iadd C dJ6_bitCount_0f7a4_46 ?_
  refine z_istore_n (lv1 := [(0, .int (((((((x0 - ((((Int32.toUInt32 x0) >>> (Int32.toUInt32 (1 : Int32) &&& Int32.toUInt32 31)).toInt32) &&& 1431655765)) &&& 858993459) + ((((Int32.toUInt32 (x0 - ((((Int32.toUInt32 x0) >>> (Int32.toUInt32 (1 : Int32) &&& Int32.toUInt32 31)).toInt32) &&& 1431655765))) >>> (Int32.toUInt32 (2 : Int32) &&& Int32.toUInt32 31)).toInt32) &&& 858993459)) + (((Int32.toUInt32 (((x0 - ((((Int32.toUInt32 x0) >>> (Int32.toUInt32 (1 : Int32) &&& Int32.toUInt32 31)).toInt32) &&& 1431655765)) &&& 858993459) + ((((Int32.toUInt32 (x0 - ((((Int32.toUInt32 x0) >>> (Int32.toUInt32 (1 : Int32) &&& Int32.toUInt32 31)).toInt32) &&& 1431655765))) >>> (Int32.toUInt32 (2 : Int32) &&& Int32.toUInt32 31)).toInt32) &&& 858993459))) >>> (Int32.toUInt32 (4 : Int32) &&& Int32.toUInt32 31)).toInt32)) &&& 252645135) + (((Int32.toUInt32 (((((x0 - ((((Int32.toUInt32 x0) >>> (Int32.toUInt32 (1 : Int32) &&& Int32.toUInt32 31)).toInt32) &&& 1431655765)) &&& 858993459) + ((((Int32.toUInt32 (x0 - ((((Int32.toUInt32 x0) >>> (Int32.toUInt32 (1 : Int32) &&& Int32.toUInt32 31)).toInt32) &&& 1431655765))) >>> (Int32.toUInt32 (2 : Int32) &&& Int32.toUInt32 31)).toInt32) &&& 858993459)) + (((Int32.toUInt32 (((x0 - ((((Int32.toUInt32 x0) >>> (Int32.toUInt32 (1 : Int32) &&& Int32.toUInt32 31)).toInt32) &&& 1431655765)) &&& 858993459) + ((((Int32.toUInt32 (x0 - ((((Int32.toUInt32 x0) >>> (Int32.toUInt32 (1 : Int32) &&& Int32.toUInt32 31)).toInt32) &&& 1431655765))) >>> (Int32.toUInt32 (2 : Int32) &&& Int32.toUInt32 31)).toInt32) &&& 858993459))) >>> (Int32.toUInt32 (4 : Int32) &&& Int32.toUInt32 31)).toInt32)) &&& 252645135)) >>> (Int32.toUInt32 (8 : Int32) &&& Int32.toUInt32 31)).toInt32)) + (((Int32.toUInt32 ((((((x0 - ((((Int32.toUInt32 x0) >>> (Int32.toUInt32 (1 : Int32) &&& Int32.toUInt32 31)).toInt32) &&& 1431655765)) &&& 858993459) + ((((Int32.toUInt32 (x0 - ((((Int32.toUInt32 x0) >>> (Int32.toUInt32 (1 : Int32) &&& Int32.toUInt32 31)).toInt32) &&& 1431655765))) >>> (Int32.toUInt32 (2 : Int32) &&& Int32.toUInt32 31)).toInt32) &&& 858993459)) + (((Int32.toUInt32 (((x0 - ((((Int32.toUInt32 x0) >>> (Int32.toUInt32 (1 : Int32) &&& Int32.toUInt32 31)).toInt32) &&& 1431655765)) &&& 858993459) + ((((Int32.toUInt32 (x0 - ((((Int32.toUInt32 x0) >>> (Int32.toUInt32 (1 : Int32) &&& Int32.toUInt32 31)).toInt32) &&& 1431655765))) >>> (Int32.toUInt32 (2 : Int32) &&& Int32.toUInt32 31)).toInt32) &&& 858993459))) >>> (Int32.toUInt32 (4 : Int32) &&& Int32.toUInt32 31)).toInt32)) &&& 252645135) + (((Int32.toUInt32 (((((x0 - ((((Int32.toUInt32 x0) >>> (Int32.toUInt32 (1 : Int32) &&& Int32.toUInt32 31)).toInt32) &&& 1431655765)) &&& 858993459) + ((((Int32.toUInt32 (x0 - ((((Int32.toUInt32 x0) >>> (Int32.toUInt32 (1 : Int32) &&& Int32.toUInt32 31)).toInt32) &&& 1431655765))) >>> (Int32.toUInt32 (2 : Int32) &&& Int32.toUInt32 31)).toInt32) &&& 858993459)) + (((Int32.toUInt32 (((x0 - ((((Int32.toUInt32 x0) >>> (Int32.toUInt32 (1 : Int32) &&& Int32.toUInt32 31)).toInt32) &&& 1431655765)) &&& 858993459) + ((((Int32.toUInt32 (x0 - ((((Int32.toUInt32 x0) >>> (Int32.toUInt32 (1 : Int32) &&& Int32.toUInt32 31)).toInt32) &&& 1431655765))) >>> (Int32.toUInt32 (2 : Int32) &&& Int32.toUInt32 31)).toInt32) &&& 858993459))) >>> (Int32.toUInt32 (4 : Int32) &&& Int32.toUInt32 31)).toInt32)) &&& 252645135)) >>> (Int32.toUInt32 (8 : Int32) &&& Int32.toUInt32 31)).toInt32))) >>> (Int32.toUInt32 (16 : Int32) &&& Int32.toUInt32 31)).toInt32)))]) C dJ6_bitCount_0f7a4_47 (by decide) rfl ?_
  refine z_iload_n C dJ6_bitCount_0f7a4_48 0 rfl ?_
  refine z_bipush (v := 63) C dJ6_bitCount_0f7a4_49 (by decide) ?_
  refine z_iand C dJ6_bitCount_0f7a4_51 ?_
  exact z_iret C dJ6_bitCount_0f7a4_52
theorem m_J6_bitCount_0f7a4 {l : Launch} {G : zG} {x0 : Int32} {σ σ1 : zS} {r : Int32} (h : f_J6_bitCount_0f7a4 x0 σ = some (r, σ1)) : zM l G zshA yJ6_bitCount_0f7a4 cJ6_bitCount_0f7a4 1 (some .int) 0 [.int x0] (zov (some .int) G r) σ σ1 :=
  z_met (by decide) (Nat.le_of_ble_eq_true rfl) h (fun K _ hG C => by subst hG; exact b_J6_bitCount_0f7a4 K C x0 σ)
theorem b_X9_hasBit (K : zK) (C : zOk zshA K RX9 cX9_hasBit (some .boolean) 2 0) (x0 : Int32) (x1 : Int32) (σ : zS) : Zf zshA K (f_X9_hasBit x0 x1 σ) 0 [(0, .int x0), (1, .int x1)] [] σ := by
  unfold f_X9_hasBit
  refine z_iload_n C dX9_hasBit_0 0 rfl ?_
  refine z_iload_n C dX9_hasBit_1 1 rfl ?_
  refine z_ishr C dX9_hasBit_2 ?_
  refine z_iconst (v := 1) C dX9_hasBit_3 (by decide) ?_
  refine z_iand C dX9_hasBit_4 ?_
  refine z_if_eq (tgt := 12) C dX9_hasBit_5 (by decide) ?_ ?_
  · refine z_iconst (v := 0) C dX9_hasBit_12 (by decide) ?_
    exact z_zret C (by decide) dX9_hasBit_13
  · refine z_iconst (v := 1) C dX9_hasBit_8 (by decide) ?_
    refine z_goto (tgt := 13) C dX9_hasBit_9 (by decide) ?_
    exact z_zret C (by decide) dX9_hasBit_13
theorem m_X9_hasBit {l : Launch} {G : zG} {x0 : Int32} {x1 : Int32} {σ σ1 : zS} {r : Int32} (h : f_X9_hasBit x0 x1 σ = some (r, σ1)) : zM l G zshA yX9_hasBit cX9_hasBit 2 (some .boolean) 0 [.int x0, .int x1] (zov (some .boolean) G r) σ σ1 :=
  z_met (by decide) (Nat.le_of_ble_eq_true rfl) h (fun K _ hG C => by subst hG; exact b_X9_hasBit K C x0 x1 σ)
theorem b_X2_nameOf_L21 (K : zK) (C : zOk zshA K RX2 cX2_nameOf (some .int) 5 3) (x1 : Int32) (x2 : Int32) : ∀ (n : Nat) (x3 : Int32) (x4 : Int32) (σ : zS), Zf zshA K (f_X2_nameOf_L21 x1 x2 n x3 x4 σ) 21 [(0, .ref (ga (kG K) 27)), (1, .int x1), (2, .int x2), (3, .int x3), (4, .int x4)] [] σ := by
  intro n
  induction n with
  | zero => intro x3 x4 σ; rw [f_X2_nameOf_L21]; exact z_none
  | succ n ih =>
  intro x3 x4 σ
  rw [f_X2_nameOf_L21]
  refine z_iload C dX2_nameOf_21 4 rfl ?_
  refine z_bipush (v := 9) C dX2_nameOf_23 (by decide) ?_
  refine z_icmp_ge (tgt := 81) C dX2_nameOf_25 (by decide) ?_ ?_
  · refine z_iload_n C dX2_nameOf_81 3 rfl ?_
    exact z_iret C dX2_nameOf_82
  · refine z_iload_n C dX2_nameOf_28 2 rfl ?_
    refine z_iload C dX2_nameOf_29 4 rfl ?_
    refine z_callNz (As := [.int x2, .int x4]) (st := []) C zy_X9_hasBit zs_X9_hasBit mn_X2_68 (by decide) (fun _ _ h => m_X9_hasBit h) rfl rfl (Nat.le_of_ble_eq_true rfl) dX2_nameOf_31 (fun v1 σ1 => ?_)
    refine z_if_eq (tgt := 43) C dX2_nameOf_34 (by decide) ?_ ?_
    · refine z_aload_n C dX2_nameOf_43 0 rfl ?_
      refine z_getR C fd_X2_9 dX2_nameOf_44 ?_
      refine z_getR C fd_X2_49 dX2_nameOf_47 ?_
      refine z_iload C dX2_nameOf_50 4 rfl ?_
      refine z_bald C sA_8 dX2_nameOf_52 (fun v2 => ?_)
      refine z_if_eq (tgt := 75) C dX2_nameOf_53 (by decide) ?_ ?_
      · refine z_iinc (v := 1) (lv1 := [(4, .int (x4 + 1)), (0, .ref (ga (kG K) 27)), (1, .int x1), (2, .int x2), (3, .int x3)]) C dX2_nameOf_75 4 rfl (by decide) (by decide) rfl ?_
        refine z_goto (tgt := 21) C dX2_nameOf_78 (by decide) ?_
        exact z_sub [1, 2, 3, 4, 0] rfl (ih x3 (x4 + 1) σ1)
      · refine z_aload_n C dX2_nameOf_56 0 rfl ?_
        refine z_iload_n C dX2_nameOf_57 1 rfl ?_
        refine z_iload C dX2_nameOf_58 4 rfl ?_
        refine z_callVi (q := 27) (As := [.int x1, .int x4]) (st := []) C zy_X2_offBetween zv_X2_offBetween ml_X2_53 rcA_27 (by decide) (fun _ _ h => m_X2_offBetween h) rfl rfl (Nat.le_of_ble_eq_true rfl) dX2_nameOf_60 (fun v3 σ3 => ?_)
        refine z_aload_n C dX2_nameOf_63 0 rfl ?_
        refine z_getR C fd_X2_9 dX2_nameOf_64 ?_
        refine z_getI C fd_X2_72 dX2_nameOf_67 ?_
        refine z_icmp_ge (tgt := 75) C dX2_nameOf_70 (by decide) ?_ ?_
        · refine z_iinc (v := 1) (lv1 := [(4, .int (x4 + 1)), (0, .ref (ga (kG K) 27)), (1, .int x1), (2, .int x2), (3, .int x3)]) C dX2_nameOf_75 4 rfl (by decide) (by decide) rfl ?_
          refine z_goto (tgt := 21) C dX2_nameOf_78 (by decide) ?_
          exact z_sub [1, 2, 3, 4, 0] rfl (ih x3 (x4 + 1) σ3)
        · refine z_iconst (v := (-1)) C dX2_nameOf_73 (by decide) ?_
          exact z_iret C dX2_nameOf_74
    · refine z_iload C dX2_nameOf_37 4 rfl ?_
      refine z_istore_n (lv1 := [(3, .int x4), (0, .ref (ga (kG K) 27)), (1, .int x1), (2, .int x2), (4, .int x4)]) C dX2_nameOf_39 (by decide) rfl ?_
      refine z_goto (tgt := 75) C dX2_nameOf_40 (by decide) ?_
      refine z_iinc (v := 1) (lv1 := [(4, .int (x4 + 1)), (3, .int x4), (0, .ref (ga (kG K) 27)), (1, .int x1), (2, .int x2)]) C dX2_nameOf_75 4 rfl (by decide) (by decide) rfl ?_
      refine z_goto (tgt := 21) C dX2_nameOf_78 (by decide) ?_
      exact z_sub [2, 3, 4, 1, 0] rfl (ih x4 (x4 + 1) σ1)
theorem b_X2_nameOf (K : zK) (C : zOk zshA K RX2 cX2_nameOf (some .int) 5 3) (x1 : Int32) (σ : zS) : Zf zshA K (f_X2_nameOf x1 σ) 0 [(0, .ref (ga (kG K) 27)), (1, .int x1)] [] σ := by
  unfold f_X2_nameOf
  refine z_aload_n C dX2_nameOf_0 0 rfl ?_
  refine z_iload_n C dX2_nameOf_1 1 rfl ?_
  refine z_callVi (q := 27) (As := [.int x1]) (st := []) C zy_X2_canBeOf zv_X2_canBeOf ml_X2_60 rcA_27 (by decide) (fun _ _ h => m_X2_canBeOf h) rfl rfl (Nat.le_of_ble_eq_true rfl) dX2_nameOf_2 (fun v1 σ1 => ?_)
  refine z_istore_n (lv1 := [(2, .int v1), (0, .ref (ga (kG K) 27)), (1, .int x1)]) C dX2_nameOf_5 (by decide) rfl ?_
  refine z_iload_n C dX2_nameOf_6 0 rfl ?_
  refine z_callSi (As := [.int v1]) (st := []) C zy_J6_bitCount_0f7a4 zs_J6_bitCount_0f7a4 ml_X2_63 (by decide) (fun _ _ h => m_J6_bitCount_0f7a4 h) rfl rfl (Nat.le_of_ble_eq_true rfl) dX2_nameOf_7 (fun v2 σ2 => ?_)
  refine z_iconst (v := 1) C dX2_nameOf_10 (by decide) ?_
  refine z_icmp_eq (tgt := 16) C dX2_nameOf_11 (by decide) ?_ ?_
  · refine z_iconst (v := (-1)) C dX2_nameOf_16 (by decide) ?_
    refine z_istore_n (lv1 := [(3, .int (-1)), (2, .int v1), (0, .ref (ga (kG K) 27)), (1, .int x1)]) C dX2_nameOf_17 (by decide) rfl ?_
    refine z_iconst (v := 0) C dX2_nameOf_18 (by decide) ?_
    refine z_istore (lv1 := [(4, .int 0), (3, .int (-1)), (2, .int v1), (0, .ref (ga (kG K) 27)), (1, .int x1)]) C dX2_nameOf_19 (by decide) rfl ?_
    exact z_sub [3, 4, 2, 1, 0] rfl (b_X2_nameOf_L21 K C x1 v1 zfu (-1) 0 σ2)
  · refine z_iconst (v := (-1)) C dX2_nameOf_14 (by decide) ?_
    exact z_iret C dX2_nameOf_15
theorem m_X2_nameOf {l : Launch} {G : zG} {x1 : Int32} {σ σ1 : zS} {r : Int32} (h : f_X2_nameOf x1 σ = some (r, σ1)) : zM l G zshA yX2_nameOf cX2_nameOf 5 (some .int) 3 [.ref (ga G 27), .int x1] (zov (some .int) G r) σ σ1 :=
  z_met (by decide) (Nat.le_of_ble_eq_true rfl) h (fun K _ hG C => by subst hG; exact b_X2_nameOf K C x1 σ)
theorem b_X9_named (K : zK) (C : zOk zshA K RX9 cX9_named (some .int) 2 4) (x1 : Int32) (σ : zS) : Zf zshA K (f_X9_named x1 σ) 0 [(0, .ref (ga (kG K) 0)), (1, .int x1)] [] σ := by
  unfold f_X9_named
  refine z_aload_n C dX9_named_0 0 rfl ?_
  refine z_getR C fd_X9_26 dX9_named_1 ?_
  refine z_iload_n C dX9_named_4 1 rfl ?_
  refine z_callVz (q := 17) (As := [.int x1]) (st := []) C zy_X0_has zv_X0_has ml_X9_163 rcA_17 (by decide) (fun _ _ h => m_X0_has h) rfl rfl (Nat.le_of_ble_eq_true rfl) dX9_named_5 (fun v1 σ1 => ?_)
  refine z_if_eq (tgt := 22) C dX9_named_8 (by decide) ?_ ?_
  · refine z_bipush (v := (-2)) C dX9_named_22 (by decide) ?_
    exact z_iret C dX9_named_24
  · refine z_aload_n C dX9_named_11 0 rfl ?_
    refine z_getR C fd_X9_35 dX9_named_12 ?_
    refine z_iload_n C dX9_named_15 1 rfl ?_
    refine z_callVi (q := 27) (As := [.int x1]) (st := []) C zy_X2_nameOf zv_X2_nameOf ml_X9_198 rcA_27 (by decide) (fun _ _ h => m_X2_nameOf h) rfl rfl (Nat.le_of_ble_eq_true rfl) dX9_named_16 (fun v2 σ2 => ?_)
    refine z_goto (tgt := 24) C dX9_named_19 (by decide) ?_
    exact z_iret C dX9_named_24
theorem m_X9_named {l : Launch} {G : zG} {x1 : Int32} {σ σ1 : zS} {r : Int32} (h : f_X9_named x1 σ = some (r, σ1)) : zM l G zshA yX9_named cX9_named 2 (some .int) 4 [.ref (ga G 0), .int x1] (zov (some .int) G r) σ σ1 :=
  z_met (by decide) (Nat.le_of_ble_eq_true rfl) h (fun K _ hG C => by subst hG; exact b_X9_named K C x1 σ)
theorem b_X0_comesFrom_J40 (K : zK) (C : zOk zshA K RX0 cX0_comesFrom (some .boolean) 5 0) (x2 : Int32) (x3 : Int32) (σ : zS) : Zf zshA K (f_X0_comesFrom_J40 x2 x3 σ) 40 [(2, .int x2), (3, .int x3)] [] σ := by
  unfold f_X0_comesFrom_J40
  refine z_iload_n C dX0_comesFrom_40 1 rfl ?_
  refine z_iload_n C dX0_comesFrom_41 0 rfl ?_
  refine z_icmp_ne (tgt := 49) C dX0_comesFrom_42 (by decide) ?_ ?_
  · refine z_iconst (v := 1) C dX0_comesFrom_45 (by decide) ?_
    refine z_goto (tgt := 50) C dX0_comesFrom_46 (by decide) ?_
    exact z_zret C (by decide) dX0_comesFrom_50
  · refine z_iconst (v := 0) C dX0_comesFrom_49 (by decide) ?_
    exact z_zret C (by decide) dX0_comesFrom_50
theorem b_X0_comesFrom_L10 (K : zK) (C : zOk zshA K RX0 cX0_comesFrom (some .boolean) 5 0) (x2 : Int32) : ∀ (n : Nat) (x3 : Int32) (x4 : Int32) (σ : zS), Zf zshA K (f_X0_comesFrom_L10 x2 n x3 x4 σ) 10 [(0, .ref (ga (kG K) 17)), (2, .int x2), (3, .int x3), (4, .int x4)] [] σ := by
  intro n
  induction n with
  | zero => intro x3 x4 σ; rw [f_X0_comesFrom_L10]; exact z_none
  | succ n ih =>
  intro x3 x4 σ
  rw [f_X0_comesFrom_L10]
  refine z_iload_n C dX0_comesFrom_10 2 rfl ?_
  refine z_iconst (v := (-1)) C dX0_comesFrom_11 (by decide) ?_
  refine z_icmp_eq (tgt := 40) C dX0_comesFrom_12 (by decide) ?_ ?_
  · exact z_sub [1, 2] rfl (b_X0_comesFrom_J40 K C x2 x3 σ)
  · refine z_iload_n C dX0_comesFrom_15 2 rfl ?_
    refine z_iload_n C dX0_comesFrom_16 1 rfl ?_
    refine z_icmp_eq (tgt := 40) C dX0_comesFrom_17 (by decide) ?_ ?_
    · exact z_sub [1, 2] rfl (b_X0_comesFrom_J40 K C x2 x3 σ)
    · refine z_iload C dX0_comesFrom_20 3 rfl ?_
      refine z_bipush (v := 12) C dX0_comesFrom_22 (by decide) ?_
      refine z_icmp_ge (tgt := 40) C dX0_comesFrom_24 (by decide) ?_ ?_
      · exact z_sub [1, 2] rfl (b_X0_comesFrom_J40 K C x2 x3 σ)
      · refine z_aload_n C dX0_comesFrom_27 0 rfl ?_
        refine z_getR C fd_X0_33 dX0_comesFrom_28 ?_
        refine z_iload_n C dX0_comesFrom_31 2 rfl ?_
        refine z_iald C sA_25 dX0_comesFrom_32 (fun v1 => ?_)
        refine z_istore_n (lv1 := [(3, .int v1), (0, .ref (ga (kG K) 17)), (2, .int x2), (4, .int x4)]) C dX0_comesFrom_33 (by decide) rfl ?_
        refine z_iinc (v := 1) (lv1 := [(4, .int (x4 + 1)), (3, .int v1), (0, .ref (ga (kG K) 17)), (2, .int x2)]) C dX0_comesFrom_34 3 rfl (by decide) (by decide) rfl ?_
        refine z_goto (tgt := 10) C dX0_comesFrom_37 (by decide) ?_
        exact z_sub [2, 3, 1, 0] rfl (ih v1 (x4 + 1) σ)
theorem b_X0_comesFrom (K : zK) (C : zOk zshA K RX0 cX0_comesFrom (some .boolean) 5 0) (x1 : Int32) (x2 : Int32) (σ : zS) : Zf zshA K (f_X0_comesFrom x1 x2 σ) 0 [(0, .ref (ga (kG K) 17)), (1, .int x1), (2, .int x2)] [] σ := by
  unfold f_X0_comesFrom
  refine z_aload_n C dX0_comesFrom_0 0 rfl ?_
  refine z_getR C fd_X0_33 dX0_comesFrom_1 ?_
  refine z_iload_n C dX0_comesFrom_4 1 rfl ?_
  refine z_iald C sA_25 dX0_comesFrom_5 (fun v1 => ?_)
  refine z_istore_n (lv1 := [(3, .int v1), (0, .ref (ga (kG K) 17)), (1, .int x1), (2, .int x2)]) C dX0_comesFrom_6 (by decide) rfl ?_
  refine z_iconst (v := 0) C dX0_comesFrom_7 (by decide) ?_
  refine z_istore (lv1 := [(4, .int 0), (3, .int v1), (0, .ref (ga (kG K) 17)), (1, .int x1), (2, .int x2)]) C dX0_comesFrom_8 (by decide) rfl ?_
  exact z_sub [2, 4, 1, 0] rfl (b_X0_comesFrom_L10 K C x2 zfu v1 0 σ)
theorem m_X0_comesFrom {l : Launch} {G : zG} {x1 : Int32} {x2 : Int32} {σ σ1 : zS} {r : Int32} (h : f_X0_comesFrom x1 x2 σ = some (r, σ1)) : zM l G zshA yX0_comesFrom cX0_comesFrom 5 (some .boolean) 0 [.ref (ga G 17), .int x1, .int x2] (zov (some .boolean) G r) σ σ1 :=
  z_met (by decide) (Nat.le_of_ble_eq_true rfl) h (fun K _ hG C => by subst hG; exact b_X0_comesFrom K C x1 x2 σ)
theorem b_X9_strike (K : zK) (C : zOk zshA K RX9 cX9_strike (some .int) 3 2) (x1 : Int32) (x2 : Int32) (σ : zS) : Zf zshA K (f_X9_strike x1 x2 σ) 0 [(0, .ref (ga (kG K) 0)), (1, .int x1), (2, .int x2)] [] σ := by
  unfold f_X9_strike
  refine z_aload_n C dX9_strike_0 0 rfl ?_
  refine z_getR C fd_X9_26 dX9_strike_1 ?_
  refine z_iload_n C dX9_strike_4 1 rfl ?_
  refine z_callVz (q := 17) (As := [.int x1]) (st := []) C zy_X0_has zv_X0_has ml_X9_163 rcA_17 (by decide) (fun _ _ h => m_X0_has h) rfl rfl (Nat.le_of_ble_eq_true rfl) dX9_strike_5 (fun v1 σ1 => ?_)
  refine z_if_eq (tgt := 27) C dX9_strike_8 (by decide) ?_ ?_
  · refine z_bipush (v := (-2)) C dX9_strike_27 (by decide) ?_
    exact z_iret C dX9_strike_29
  · refine z_aload_n C dX9_strike_11 0 rfl ?_
    refine z_getR C fd_X9_26 dX9_strike_12 ?_
    refine z_iload_n C dX9_strike_15 2 rfl ?_
    refine z_callVz (q := 17) (As := [.int x2]) (st := []) C zy_X0_has zv_X0_has ml_X9_163 rcA_17 (by decide) (fun _ _ h => m_X0_has h) rfl rfl (Nat.le_of_ble_eq_true rfl) dX9_strike_16 (fun v2 σ2 => ?_)
    refine z_if_eq (tgt := 27) C dX9_strike_19 (by decide) ?_ ?_
    · refine z_bipush (v := (-2)) C dX9_strike_27 (by decide) ?_
      exact z_iret C dX9_strike_29
    · refine z_iload_n C dX9_strike_22 1 rfl ?_
      refine z_iload_n C dX9_strike_23 2 rfl ?_
      refine z_icmp_ne (tgt := 30) C dX9_strike_24 (by decide) ?_ ?_
      · refine z_bipush (v := (-2)) C dX9_strike_27 (by decide) ?_
        exact z_iret C dX9_strike_29
      · refine z_aload_n C dX9_strike_30 0 rfl ?_
        refine z_getR C fd_X9_26 dX9_strike_31 ?_
        refine z_getR C fd_X9_187 dX9_strike_34 ?_
        refine z_iload_n C dX9_strike_37 1 rfl ?_
        refine z_iald C sA_25 dX9_strike_38 (fun v3 => ?_)
        refine z_iconst (v := (-1)) C dX9_strike_39 (by decide) ?_
        refine z_icmp_ne (tgt := 55) C dX9_strike_40 (by decide) ?_ ?_
        · refine z_aload_n C dX9_strike_43 0 rfl ?_
          refine z_getR C fd_X9_26 dX9_strike_44 ?_
          refine z_iload_n C dX9_strike_47 2 rfl ?_
          refine z_iload_n C dX9_strike_48 1 rfl ?_
          refine z_callVz (q := 17) (As := [.int x2, .int x1]) (st := []) C zy_X0_comesFrom zv_X0_comesFrom ml_X9_201 rcA_17 (by decide) (fun _ _ h => m_X0_comesFrom h) rfl rfl (Nat.le_of_ble_eq_true rfl) dX9_strike_49 (fun v4 σ4 => ?_)
          refine z_if_eq (tgt := 58) C dX9_strike_52 (by decide) ?_ ?_
          · refine z_aload_n C dX9_strike_58 0 rfl ?_
            refine z_getR C fd_X9_26 dX9_strike_59 ?_
            refine z_getR C fd_X9_187 dX9_strike_62 ?_
            refine z_iload_n C dX9_strike_65 1 rfl ?_
            refine z_iload_n C dX9_strike_66 2 rfl ?_
            refine z_iast C sA_25 dX9_strike_67 (fun σ5 => ?_)
            refine z_iconst (v := 1) C dX9_strike_68 (by decide) ?_
            exact z_iret C dX9_strike_69
          · refine z_bipush (v := (-4)) C dX9_strike_55 (by decide) ?_
            exact z_iret C dX9_strike_57
        · refine z_bipush (v := (-4)) C dX9_strike_55 (by decide) ?_
          exact z_iret C dX9_strike_57
theorem m_X9_strike {l : Launch} {G : zG} {x1 : Int32} {x2 : Int32} {σ σ1 : zS} {r : Int32} (h : f_X9_strike x1 x2 σ = some (r, σ1)) : zM l G zshA yX9_strike cX9_strike 3 (some .int) 2 [.ref (ga G 0), .int x1, .int x2] (zov (some .int) G r) σ σ1 :=
  z_met (by decide) (Nat.le_of_ble_eq_true rfl) h (fun K _ hG C => by subst hG; exact b_X9_strike K C x1 x2 σ)
theorem b_X9_undo (K : zK) (C : zOk zshA K RX9 cX9_undo (some .int) 3 2) (x1 : Int32) (σ : zS) : Zf zshA K (f_X9_undo x1 σ) 0 [(0, .ref (ga (kG K) 0)), (1, .int x1)] [] σ := by
  unfold f_X9_undo
  refine z_aload_n C dX9_undo_0 0 rfl ?_
  refine z_getR C fd_X9_26 dX9_undo_1 ?_
  refine z_iload_n C dX9_undo_4 1 rfl ?_
  refine z_callVz (q := 17) (As := [.int x1]) (st := []) C zy_X0_has zv_X0_has ml_X9_163 rcA_17 (by decide) (fun _ _ h => m_X0_has h) rfl rfl (Nat.le_of_ble_eq_true rfl) dX9_undo_5 (fun v1 σ1 => ?_)
  refine z_if_ne (tgt := 14) C dX9_undo_8 (by decide) ?_ ?_
  · refine z_bipush (v := (-2)) C dX9_undo_11 (by decide) ?_
    exact z_iret C dX9_undo_13
  · refine z_aload_n C dX9_undo_14 0 rfl ?_
    refine z_getR C fd_X9_26 dX9_undo_15 ?_
    refine z_getR C fd_X9_187 dX9_undo_18 ?_
    refine z_iload_n C dX9_undo_21 1 rfl ?_
    refine z_iald C sA_25 dX9_undo_22 (fun v2 => ?_)
    refine z_istore_n (lv1 := [(2, .int v2), (0, .ref (ga (kG K) 0)), (1, .int x1)]) C dX9_undo_23 (by decide) rfl ?_
    refine z_aload_n C dX9_undo_24 1 rfl ?_
    refine z_getR C fd_X9_26 dX9_undo_25 ?_
    refine z_getR C fd_X9_187 dX9_undo_28 ?_
    refine z_iload_n C dX9_undo_31 2 rfl ?_
    refine z_iconst (v := (-1)) C dX9_undo_32 (by decide) ?_
    refine z_iast C sA_25 dX9_undo_33 (fun σ3 => ?_)
    refine z_iload_n C dX9_undo_34 0 rfl ?_
    exact z_iret C dX9_undo_35
theorem m_X9_undo {l : Launch} {G : zG} {x1 : Int32} {σ σ1 : zS} {r : Int32} (h : f_X9_undo x1 σ = some (r, σ1)) : zM l G zshA yX9_undo cX9_undo 3 (some .int) 2 [.ref (ga G 0), .int x1] (zov (some .int) G r) σ σ1 :=
  z_met (by decide) (Nat.le_of_ble_eq_true rfl) h (fun K _ hG C => by subst hG; exact b_X9_undo K C x1 σ)
theorem b_X9_lesser (K : zK) (C : zOk zshA K RX9 cX9_lesser (some .int) 2 1) (x0 : Int32) (x1 : Int32) (σ : zS) : Zf zshA K (f_X9_lesser x0 x1 σ) 0 [(0, .int x0), (1, .int x1)] [] σ := by
  unfold f_X9_lesser
  refine z_iload_n C dX9_lesser_0 0 rfl ?_
  refine z_iconst (v := (-1)) C dX9_lesser_1 (by decide) ?_
  refine z_icmp_ne (tgt := 9) C dX9_lesser_2 (by decide) ?_ ?_
  · refine z_iload_n C dX9_lesser_5 1 rfl ?_
    refine z_goto (tgt := 14) C dX9_lesser_6 (by decide) ?_
    exact z_iret C dX9_lesser_14
  · refine z_iload_n C dX9_lesser_9 0 rfl ?_
    refine z_iload_n C dX9_lesser_10 1 rfl ?_
    refine z_mmin C ml_X9_294 zma_min_s zma_i zma_min_c (by decide) (Nat.le_of_ble_eq_true rfl) dX9_lesser_11 ?_
    exact z_iret C dX9_lesser_14
theorem m_X9_lesser {l : Launch} {G : zG} {x0 : Int32} {x1 : Int32} {σ σ1 : zS} {r : Int32} (h : f_X9_lesser x0 x1 σ = some (r, σ1)) : zM l G zshA yX9_lesser cX9_lesser 2 (some .int) 1 [.int x0, .int x1] (zov (some .int) G r) σ σ1 :=
  z_met (by decide) (Nat.le_of_ble_eq_true rfl) h (fun K _ hG C => by subst hG; exact b_X9_lesser K C x0 x1 σ)
theorem b_X2_firstOpen_L4 (K : zK) (C : zOk zshA K RX2 cX2_firstOpen (some .int) 4 2) (x1 : Int32) : ∀ (n : Nat) (x2 : Int32) (x3 : Int32) (σ : zS), Zf zshA K (f_X2_firstOpen_L4 x1 n x2 x3 σ) 4 [(0, .ref (ga (kG K) 27)), (1, .int x1), (2, .int x2), (3, .int x3)] [] σ := by
  intro n
  induction n with
  | zero => intro x2 x3 σ; rw [f_X2_firstOpen_L4]; exact z_none
  | succ n ih =>
  intro x2 x3 σ
  rw [f_X2_firstOpen_L4]
  refine z_iload_n C dX2_firstOpen_4 3 rfl ?_
  refine z_bipush (v := 9) C dX2_firstOpen_5 (by decide) ?_
  refine z_icmp_ge (tgt := 38) C dX2_firstOpen_7 (by decide) ?_ ?_
  · refine z_iload_n C dX2_firstOpen_38 2 rfl ?_
    refine z_iconst (v := (-1)) C dX2_firstOpen_39 (by decide) ?_
    refine z_icmp_ne (tgt := 47) C dX2_firstOpen_40 (by decide) ?_ ?_
    · refine z_iconst (v := 0) C dX2_firstOpen_43 (by decide) ?_
      refine z_goto (tgt := 48) C dX2_firstOpen_44 (by decide) ?_
      exact z_iret C dX2_firstOpen_48
    · refine z_iload_n C dX2_firstOpen_47 2 rfl ?_
      exact z_iret C dX2_firstOpen_48
  · refine z_iload_n C dX2_firstOpen_10 1 rfl ?_
    refine z_iload_n C dX2_firstOpen_11 3 rfl ?_
    refine z_callNz (As := [.int x1, .int x3]) (st := []) C zy_X9_hasBit zs_X9_hasBit mn_X2_68 (by decide) (fun _ _ h => m_X9_hasBit h) rfl rfl (Nat.le_of_ble_eq_true rfl) dX2_firstOpen_12 (fun v1 σ1 => ?_)
    refine z_if_eq (tgt := 32) C dX2_firstOpen_15 (by decide) ?_ ?_
    · refine z_iinc (v := 1) (lv1 := [(3, .int (x3 + 1)), (0, .ref (ga (kG K) 27)), (1, .int x1), (2, .int x2)]) C dX2_firstOpen_32 3 rfl (by decide) (by decide) rfl ?_
      refine z_goto (tgt := 4) C dX2_firstOpen_35 (by decide) ?_
      exact z_sub [1, 2, 3, 0] rfl (ih x2 (x3 + 1) σ1)
    · refine z_iload_n C dX2_firstOpen_18 2 rfl ?_
      refine z_aload_n C dX2_firstOpen_19 0 rfl ?_
      refine z_getR C fd_X2_9 dX2_firstOpen_20 ?_
      refine z_getR C fd_X2_75 dX2_firstOpen_23 ?_
      refine z_iload_n C dX2_firstOpen_26 3 rfl ?_
      refine z_iald C sA_10 dX2_firstOpen_27 (fun v2 => ?_)
      refine z_callNi (As := [.int x2, .int v2]) (st := []) C zy_X9_lesser zs_X9_lesser mn_X2_78 (by decide) (fun _ _ h => m_X9_lesser h) rfl rfl (Nat.le_of_ble_eq_true rfl) dX2_firstOpen_28 (fun v3 σ3 => ?_)
      refine z_istore_n (lv1 := [(2, .int v3), (0, .ref (ga (kG K) 27)), (1, .int x1), (3, .int x3)]) C dX2_firstOpen_31 (by decide) rfl ?_
      refine z_iinc (v := 1) (lv1 := [(3, .int (x3 + 1)), (2, .int v3), (0, .ref (ga (kG K) 27)), (1, .int x1)]) C dX2_firstOpen_32 3 rfl (by decide) (by decide) rfl ?_
      refine z_goto (tgt := 4) C dX2_firstOpen_35 (by decide) ?_
      exact z_sub [2, 3, 1, 0] rfl (ih v3 (x3 + 1) σ3)
theorem b_X2_firstOpen (K : zK) (C : zOk zshA K RX2 cX2_firstOpen (some .int) 4 2) (x1 : Int32) (σ : zS) : Zf zshA K (f_X2_firstOpen x1 σ) 0 [(0, .ref (ga (kG K) 27)), (1, .int x1)] [] σ := by
  unfold f_X2_firstOpen
  refine z_iconst (v := (-1)) C dX2_firstOpen_0 (by decide) ?_
  refine z_istore_n (lv1 := [(2, .int (-1)), (0, .ref (ga (kG K) 27)), (1, .int x1)]) C dX2_firstOpen_1 (by decide) rfl ?_
  refine z_iconst (v := 0) C dX2_firstOpen_2 (by decide) ?_
  refine z_istore_n (lv1 := [(3, .int 0), (2, .int (-1)), (0, .ref (ga (kG K) 27)), (1, .int x1)]) C dX2_firstOpen_3 (by decide) rfl ?_
  exact z_sub [2, 3, 1, 0] rfl (b_X2_firstOpen_L4 K C x1 zfu (-1) 0 σ)
theorem m_X2_firstOpen {l : Launch} {G : zG} {x1 : Int32} {σ σ1 : zS} {r : Int32} (h : f_X2_firstOpen x1 σ = some (r, σ1)) : zM l G zshA yX2_firstOpen cX2_firstOpen 4 (some .int) 2 [.ref (ga G 27), .int x1] (zov (some .int) G r) σ σ1 :=
  z_met (by decide) (Nat.le_of_ble_eq_true rfl) h (fun K _ hG C => by subst hG; exact b_X2_firstOpen K C x1 σ)
theorem b_X8_rimFirst (K : zK) (C : zOk zshA K RX8 cX8_rimFirst (some .int) 2 1) (x0 : Int32) (x1 : Int32) (σ : zS) : Zf zshA K (f_X8_rimFirst x0 x1 σ) 0 [(0, .int x0), (1, .int x1)] [] σ := by
  unfold f_X8_rimFirst
  refine z_iload_n C dX8_rimFirst_0 0 rfl ?_
  refine z_if_ne (tgt := 8) C dX8_rimFirst_1 (by decide) ?_ ?_
  · refine z_iconst (v := 0) C dX8_rimFirst_4 (by decide) ?_
    refine z_goto (tgt := 27) C dX8_rimFirst_5 (by decide) ?_
    exact z_iret C dX8_rimFirst_27
  · refine z_iconst (v := 0) C dX8_rimFirst_8 (by decide) ?_
    refine z_sipush (v := 9999) C dX8_rimFirst_9 (by decide) ?_
    refine z_iload_n C dX8_rimFirst_12 0 rfl ?_
    refine z_iconst (v := 1) C dX8_rimFirst_13 (by decide) ?_
    refine z_iadd C dX8_rimFirst_14 ?_
    refine z_iload_n C dX8_rimFirst_15 0 rfl ?_
    refine z_iconst (v := 1) C dX8_rimFirst_16 (by decide) ?_
    refine z_iadd C dX8_rimFirst_17 ?_
    refine z_imul C dX8_rimFirst_18 ?_
    refine z_iload_n C dX8_rimFirst_19 1 rfl ?_
    refine z_callNi (As := [.int ((x0 + 1) * (x0 + 1)), .int x1]) (st := [.int 9999, .int 0]) C zy_X9_cut zs_X9_cut mn_X8_120 (by decide) (fun _ _ h => m_X9_cut h) rfl rfl (Nat.le_of_ble_eq_true rfl) dX8_rimFirst_20 (fun v1 σ1 => ?_)
    refine z_isub C dX8_rimFirst_23 ?_
    refine z_mmax C ml_X8_73 zma_max_s zma_i zma_max_c (by decide) (Nat.le_of_ble_eq_true rfl) dX8_rimFirst_24 ?_
    exact z_iret C dX8_rimFirst_27
theorem m_X8_rimFirst {l : Launch} {G : zG} {x0 : Int32} {x1 : Int32} {σ σ1 : zS} {r : Int32} (h : f_X8_rimFirst x0 x1 σ = some (r, σ1)) : zM l G zshA yX8_rimFirst cX8_rimFirst 2 (some .int) 1 [.int x0, .int x1] (zov (some .int) G r) σ σ1 :=
  z_met (by decide) (Nat.le_of_ble_eq_true rfl) h (fun K _ hG C => by subst hG; exact b_X8_rimFirst K C x0 x1 σ)
theorem b_X8_setOwn (K : zK) (C : zOk zshA K RX8 cX8_setOwn none 4 0) (x1 : Int32) (x2 : Int32) (x3 : Int32) (σ : zS) : Zf zshA K (f_X8_setOwn x1 x2 x3 σ) 0 [(0, .ref (ga (kG K) 28)), (1, .int x1), (2, .int x2), (3, .int x3)] [] σ := by
  unfold f_X8_setOwn
  refine z_aload_n C dX8_setOwn_0 0 rfl ?_
  refine z_getR C fd_X8_23 dX8_setOwn_1 ?_
  refine z_iload_n C dX8_setOwn_4 1 rfl ?_
  refine z_bipush (v := 12) C dX8_setOwn_5 (by decide) ?_
  refine z_imul C dX8_setOwn_7 ?_
  refine z_iload_n C dX8_setOwn_8 2 rfl ?_
  refine z_iadd C dX8_setOwn_9 ?_
  refine z_iload_n C dX8_setOwn_10 3 rfl ?_
  refine z_iast C sA_29 dX8_setOwn_11 (fun σ1 => ?_)
  exact z_vret C dX8_setOwn_12
theorem m_X8_setOwn {l : Launch} {G : zG} {x1 : Int32} {x2 : Int32} {x3 : Int32} {σ σ1 : zS} {r : Int32} (h : f_X8_setOwn x1 x2 x3 σ = some (r, σ1)) : zM l G zshA yX8_setOwn cX8_setOwn 4 none 0 [.ref (ga G 28), .int x1, .int x2, .int x3] (zov none G r) σ σ1 :=
  z_met (by decide) (Nat.le_of_ble_eq_true rfl) h (fun K _ hG C => by subst hG; exact b_X8_setOwn K C x1 x2 x3 σ)
theorem b_X8_rimLast (K : zK) (C : zOk zshA K RX8 cX8_rimLast (some .int) 2 1) (x0 : Int32) (x1 : Int32) (σ : zS) : Zf zshA K (f_X8_rimLast x0 x1 σ) 0 [(0, .int x0), (1, .int x1)] [] σ := by
  unfold f_X8_rimLast
  refine z_iload_n C dX8_rimLast_0 0 rfl ?_
  refine z_if_ne (tgt := 10) C dX8_rimLast_1 (by decide) ?_ ?_
  · refine z_sipush (v := 9999) C dX8_rimLast_4 (by decide) ?_
    refine z_goto (tgt := 29) C dX8_rimLast_7 (by decide) ?_
    exact z_iret C dX8_rimLast_29
  · refine z_iconst (v := 0) C dX8_rimLast_10 (by decide) ?_
    refine z_sipush (v := 9999) C dX8_rimLast_11 (by decide) ?_
    refine z_iload_n C dX8_rimLast_14 0 rfl ?_
    refine z_iconst (v := 1) C dX8_rimLast_15 (by decide) ?_
    refine z_isub C dX8_rimLast_16 ?_
    refine z_iload_n C dX8_rimLast_17 0 rfl ?_
    refine z_iconst (v := 1) C dX8_rimLast_18 (by decide) ?_
    refine z_isub C dX8_rimLast_19 ?_
    refine z_imul C dX8_rimLast_20 ?_
    refine z_iload_n C dX8_rimLast_21 1 rfl ?_
    refine z_callNi (As := [.int ((x0 - 1) * (x0 - 1)), .int x1]) (st := [.int 9999, .int 0]) C zy_X9_cut zs_X9_cut mn_X8_120 (by decide) (fun _ _ h => m_X9_cut h) rfl rfl (Nat.le_of_ble_eq_true rfl) dX8_rimLast_22 (fun v1 σ1 => ?_)
    refine z_isub C dX8_rimLast_25 ?_
    refine z_mmax C ml_X8_73 zma_max_s zma_i zma_max_c (by decide) (Nat.le_of_ble_eq_true rfl) dX8_rimLast_26 ?_
    exact z_iret C dX8_rimLast_29
theorem m_X8_rimLast {l : Launch} {G : zG} {x0 : Int32} {x1 : Int32} {σ σ1 : zS} {r : Int32} (h : f_X8_rimLast x0 x1 σ = some (r, σ1)) : zM l G zshA yX8_rimLast cX8_rimLast 2 (some .int) 1 [.int x0, .int x1] (zov (some .int) G r) σ σ1 :=
  z_met (by decide) (Nat.le_of_ble_eq_true rfl) h (fun K _ hG C => by subst hG; exact b_X8_rimLast K C x0 x1 σ)
theorem b_X8_boundByNumbers_L2 (K : zK) (C : zOk zshA K RX8 cX8_boundByNumbers none 6 3) : ∀ (n : Nat) (x1 : Int32) (σ : zS), Zf zshA K (f_X8_boundByNumbers_L2 n x1 σ) 2 [(0, .ref (ga (kG K) 28)), (1, .int x1)] [] σ := by
  intro n
  induction n with
  | zero => intro x1 σ; rw [f_X8_boundByNumbers_L2]; exact z_none
  | succ n ih =>
  intro x1 σ
  rw [f_X8_boundByNumbers_L2]
  refine z_iload_n C dX8_boundByNumbers_2 1 rfl ?_
  refine z_aload_n C dX8_boundByNumbers_3 0 rfl ?_
  refine z_getR C fd_X8_15 dX8_boundByNumbers_4 ?_
  refine z_getI C fd_X8_40 dX8_boundByNumbers_7 ?_
  refine z_icmp_ge (tgt := 169) C dX8_boundByNumbers_10 (by decide) ?_ ?_
  · exact z_vret C dX8_boundByNumbers_169
  · refine z_aload_n C dX8_boundByNumbers_13 0 rfl ?_
    refine z_getR C fd_X8_15 dX8_boundByNumbers_14 ?_
    refine z_getR C fd_X8_46 dX8_boundByNumbers_17 ?_
    refine z_iload_n C dX8_boundByNumbers_20 1 rfl ?_
    refine z_iald C sA_18 dX8_boundByNumbers_21 (fun v1 => ?_)
    refine z_istore_n (lv1 := [(2, .int v1), (0, .ref (ga (kG K) 28)), (1, .int x1)]) C dX8_boundByNumbers_22 (by decide) rfl ?_
    refine z_aload_n C dX8_boundByNumbers_23 1 rfl ?_
    refine z_getR C fd_X8_9 dX8_boundByNumbers_24 ?_
    refine z_getR C fd_X8_49 dX8_boundByNumbers_27 ?_
    refine z_iload_n C dX8_boundByNumbers_30 0 rfl ?_
    refine z_iald C sA_7 dX8_boundByNumbers_31 (fun v2 => ?_)
    refine z_istore_n (lv1 := [(3, .int v2), (2, .int v1), (0, .ref (ga (kG K) 28)), (1, .int x1)]) C dX8_boundByNumbers_32 (by decide) rfl ?_
    refine z_aload_n C dX8_boundByNumbers_33 2 rfl ?_
    refine z_getR C fd_X8_15 dX8_boundByNumbers_34 ?_
    refine z_getR C fd_X8_54 dX8_boundByNumbers_37 ?_
    refine z_iload_n C dX8_boundByNumbers_40 3 rfl ?_
    refine z_iald C sA_23 dX8_boundByNumbers_41 (fun v3 => ?_)
    refine z_istore (lv1 := [(4, .int v3), (3, .int v2), (2, .int v1), (0, .ref (ga (kG K) 28)), (1, .int x1)]) C dX8_boundByNumbers_42 (by decide) rfl ?_
    refine z_aload_n C dX8_boundByNumbers_44 3 rfl ?_
    refine z_getR C fd_X8_15 dX8_boundByNumbers_45 ?_
    refine z_getR C fd_X8_57 dX8_boundByNumbers_48 ?_
    refine z_iload_n C dX8_boundByNumbers_51 4 rfl ?_
    refine z_iald C sA_24 dX8_boundByNumbers_52 (fun v4 => ?_)
    refine z_istore (lv1 := [(5, .int v4), (4, .int v3), (3, .int v2), (2, .int v1), (0, .ref (ga (kG K) 28)), (1, .int x1)]) C dX8_boundByNumbers_53 (by decide) rfl ?_
    refine z_aload_n C dX8_boundByNumbers_55 4 rfl ?_
    refine z_getR C fd_X8_30 dX8_boundByNumbers_56 ?_
    refine z_iload_n C dX8_boundByNumbers_59 5 rfl ?_
    refine z_aload_n C dX8_boundByNumbers_60 4 rfl ?_
    refine z_getR C fd_X8_19 dX8_boundByNumbers_61 ?_
    refine z_iload_n C dX8_boundByNumbers_64 5 rfl ?_
    refine z_callVi (q := 27) (As := [.int x1]) (st := [.int x1, .ref (ga (kG K) 31)]) C zy_X2_canBeOf zv_X2_canBeOf ml_X8_60 rcA_27 (by decide) (fun _ _ h => m_X2_canBeOf h) rfl rfl (Nat.le_of_ble_eq_true rfl) dX8_boundByNumbers_65 (fun v5 σ5 => ?_)
    refine z_iast C sA_31 dX8_boundByNumbers_68 (fun σ6 => ?_)
    refine z_aload_n C dX8_boundByNumbers_69 4 rfl ?_
    refine z_iconst (v := 0) C dX8_boundByNumbers_70 (by decide) ?_
    refine z_iload_n C dX8_boundByNumbers_71 5 rfl ?_
    refine z_aload_n C dX8_boundByNumbers_72 4 rfl ?_
    refine z_getR C fd_X8_19 dX8_boundByNumbers_73 ?_
    refine z_aload_n C dX8_boundByNumbers_76 4 rfl ?_
    refine z_getR C fd_X8_30 dX8_boundByNumbers_77 ?_
    refine z_iload_n C dX8_boundByNumbers_80 5 rfl ?_
    refine z_iald C sA_31 dX8_boundByNumbers_81 (fun v7 => ?_)
    refine z_callVi (q := 27) (As := [.int v7]) (st := [.int x1, .int 0, .ref (ga (kG K) 28)]) C zy_X2_firstOpen zv_X2_firstOpen ml_X8_66 rcA_27 (by decide) (fun _ _ h => m_X2_firstOpen h) rfl rfl (Nat.le_of_ble_eq_true rfl) dX8_boundByNumbers_82 (fun v8 σ8 => ?_)
    refine z_iload C dX8_boundByNumbers_85 1 rfl ?_
    refine z_iload_n C dX8_boundByNumbers_87 2 rfl ?_
    refine z_callSi (As := [.int v3, .int v2]) (st := [.int v8, .int x1, .int 0, .ref (ga (kG K) 28)]) C zy_X8_rimFirst zs_X8_rimFirst ml_X8_69 (by decide) (fun _ _ h => m_X8_rimFirst h) rfl rfl (Nat.le_of_ble_eq_true rfl) dX8_boundByNumbers_88 (fun v9 σ9 => ?_)
    refine z_mmax C ml_X8_73 zma_max_s zma_i zma_max_c (by decide) (Nat.le_of_ble_eq_true rfl) dX8_boundByNumbers_91 ?_
    refine z_callVv (q := 28) (As := [.int 0, .int x1, .int (zmax v8 v9)]) (st := []) C zy_X8_setOwn zv_X8_setOwn ml_X8_78 rcA_28 (by decide) (fun _ _ h => m_X8_setOwn h) rfl rfl (Nat.le_of_ble_eq_true rfl) dX8_boundByNumbers_94 (fun _ σ10 => ?_)
    refine z_aload_n C dX8_boundByNumbers_97 4 rfl ?_
    refine z_iconst (v := 1) C dX8_boundByNumbers_98 (by decide) ?_
    refine z_iload_n C dX8_boundByNumbers_99 5 rfl ?_
    refine z_iload C dX8_boundByNumbers_100 1 rfl ?_
    refine z_iload_n C dX8_boundByNumbers_102 2 rfl ?_
    refine z_callSi (As := [.int v3, .int v2]) (st := [.int x1, .int 1, .ref (ga (kG K) 28)]) C zy_X8_rimLast zs_X8_rimLast ml_X8_82 (by decide) (fun _ _ h => m_X8_rimLast h) rfl rfl (Nat.le_of_ble_eq_true rfl) dX8_boundByNumbers_103 (fun v11 σ11 => ?_)
    refine z_callVv (q := 28) (As := [.int 1, .int x1, .int v11]) (st := []) C zy_X8_setOwn zv_X8_setOwn ml_X8_78 rcA_28 (by decide) (fun _ _ h => m_X8_setOwn h) rfl rfl (Nat.le_of_ble_eq_true rfl) dX8_boundByNumbers_106 (fun _ σ12 => ?_)
    refine z_aload_n C dX8_boundByNumbers_109 4 rfl ?_
    refine z_iconst (v := 2) C dX8_boundByNumbers_110 (by decide) ?_
    refine z_iload_n C dX8_boundByNumbers_111 5 rfl ?_
    refine z_iload C dX8_boundByNumbers_112 0 rfl ?_
    refine z_iload_n C dX8_boundByNumbers_114 2 rfl ?_
    refine z_callSi (As := [.int v4, .int v2]) (st := [.int x1, .int 2, .ref (ga (kG K) 28)]) C zy_X8_rimFirst zs_X8_rimFirst ml_X8_69 (by decide) (fun _ _ h => m_X8_rimFirst h) rfl rfl (Nat.le_of_ble_eq_true rfl) dX8_boundByNumbers_115 (fun v13 σ13 => ?_)
    refine z_callVv (q := 28) (As := [.int 2, .int x1, .int v13]) (st := []) C zy_X8_setOwn zv_X8_setOwn ml_X8_78 rcA_28 (by decide) (fun _ _ h => m_X8_setOwn h) rfl rfl (Nat.le_of_ble_eq_true rfl) dX8_boundByNumbers_118 (fun _ σ14 => ?_)
    refine z_aload_n C dX8_boundByNumbers_121 4 rfl ?_
    refine z_iconst (v := 3) C dX8_boundByNumbers_122 (by decide) ?_
    refine z_iload_n C dX8_boundByNumbers_123 5 rfl ?_
    refine z_iload C dX8_boundByNumbers_124 0 rfl ?_
    refine z_iload_n C dX8_boundByNumbers_126 2 rfl ?_
    refine z_callSi (As := [.int v4, .int v2]) (st := [.int x1, .int 3, .ref (ga (kG K) 28)]) C zy_X8_rimLast zs_X8_rimLast ml_X8_82 (by decide) (fun _ _ h => m_X8_rimLast h) rfl rfl (Nat.le_of_ble_eq_true rfl) dX8_boundByNumbers_127 (fun v15 σ15 => ?_)
    refine z_callVv (q := 28) (As := [.int 3, .int x1, .int v15]) (st := []) C zy_X8_setOwn zv_X8_setOwn ml_X8_78 rcA_28 (by decide) (fun _ _ h => m_X8_setOwn h) rfl rfl (Nat.le_of_ble_eq_true rfl) dX8_boundByNumbers_130 (fun _ σ16 => ?_)
    refine z_aload_n C dX8_boundByNumbers_133 4 rfl ?_
    refine z_iconst (v := 4) C dX8_boundByNumbers_134 (by decide) ?_
    refine z_iload_n C dX8_boundByNumbers_135 5 rfl ?_
    refine z_aload_n C dX8_boundByNumbers_136 4 rfl ?_
    refine z_getR C fd_X8_9 dX8_boundByNumbers_137 ?_
    refine z_getR C fd_X8_85 dX8_boundByNumbers_140 ?_
    refine z_iload_n C dX8_boundByNumbers_143 3 rfl ?_
    refine z_iald C sA_5 dX8_boundByNumbers_144 (fun v17 => ?_)
    refine z_callVv (q := 28) (As := [.int 4, .int x1, .int v17]) (st := []) C zy_X8_setOwn zv_X8_setOwn ml_X8_78 rcA_28 (by decide) (fun _ _ h => m_X8_setOwn h) rfl rfl (Nat.le_of_ble_eq_true rfl) dX8_boundByNumbers_145 (fun _ σ18 => ?_)
    refine z_aload_n C dX8_boundByNumbers_148 4 rfl ?_
    refine z_iconst (v := 5) C dX8_boundByNumbers_149 (by decide) ?_
    refine z_iload_n C dX8_boundByNumbers_150 5 rfl ?_
    refine z_aload_n C dX8_boundByNumbers_151 4 rfl ?_
    refine z_getR C fd_X8_9 dX8_boundByNumbers_152 ?_
    refine z_getR C fd_X8_88 dX8_boundByNumbers_155 ?_
    refine z_iload_n C dX8_boundByNumbers_158 3 rfl ?_
    refine z_iald C sA_6 dX8_boundByNumbers_159 (fun v19 => ?_)
    refine z_callVv (q := 28) (As := [.int 5, .int x1, .int v19]) (st := []) C zy_X8_setOwn zv_X8_setOwn ml_X8_78 rcA_28 (by decide) (fun _ _ h => m_X8_setOwn h) rfl rfl (Nat.le_of_ble_eq_true rfl) dX8_boundByNumbers_160 (fun _ σ20 => ?_)
    refine z_iinc (v := 1) (lv1 := [(1, .int (x1 + 1)), (5, .int v4), (4, .int v3), (3, .int v2), (2, .int v1), (0, .ref (ga (kG K) 28))]) C dX8_boundByNumbers_163 5 rfl (by decide) (by decide) rfl ?_
    refine z_goto (tgt := 2) C dX8_boundByNumbers_166 (by decide) ?_
    exact z_sub [5, 0] rfl (ih (x1 + 1) σ20)
theorem b_X8_boundByNumbers (K : zK) (C : zOk zshA K RX8 cX8_boundByNumbers none 6 3) (σ : zS) : Zf zshA K (f_X8_boundByNumbers σ) 0 [(0, .ref (ga (kG K) 28))] [] σ := by
  unfold f_X8_boundByNumbers
  refine z_iconst (v := 0) C dX8_boundByNumbers_0 (by decide) ?_
  refine z_istore_n (lv1 := [(1, .int 0), (0, .ref (ga (kG K) 28))]) C dX8_boundByNumbers_1 (by decide) rfl ?_
  exact z_sub [1, 0] rfl (b_X8_boundByNumbers_L2 K C zfu 0 σ)
theorem m_X8_boundByNumbers {l : Launch} {G : zG} {σ σ1 : zS} {r : Int32} (h : f_X8_boundByNumbers σ = some (r, σ1)) : zM l G zshA yX8_boundByNumbers cX8_boundByNumbers 6 none 3 [.ref (ga G 28)] (zov none G r) σ σ1 :=
  z_met (by decide) (Nat.le_of_ble_eq_true rfl) h (fun K _ hG C => by subst hG; exact b_X8_boundByNumbers K C σ)
theorem b_X8_above (K : zK) (C : zOk zshA K RX8 cX8_above (some .int) 3 0) (x1 : Int32) (x2 : Int32) (σ : zS) : Zf zshA K (f_X8_above x1 x2 σ) 0 [(0, .ref (ga (kG K) 28)), (1, .int x1), (2, .int x2)] [] σ := by
  unfold f_X8_above
  refine z_iload_n C dX8_above_0 1 rfl ?_
  refine z_iload_n C dX8_above_1 2 rfl ?_
  refine z_icmp_ne (tgt := 9) C dX8_above_2 (by decide) ?_ ?_
  · refine z_iconst (v := (-1)) C dX8_above_5 (by decide) ?_
    refine z_goto (tgt := 18) C dX8_above_6 (by decide) ?_
    exact z_iret C dX8_above_18
  · refine z_aload_n C dX8_above_9 0 rfl ?_
    refine z_getR C fd_X8_15 dX8_above_10 ?_
    refine z_getR C fd_X8_123 dX8_above_13 ?_
    refine z_iload_n C dX8_above_16 1 rfl ?_
    refine z_iald C sA_25 dX8_above_17 (fun v1 => ?_)
    exact z_iret C dX8_above_18
theorem m_X8_above {l : Launch} {G : zG} {x1 : Int32} {x2 : Int32} {σ σ1 : zS} {r : Int32} (h : f_X8_above x1 x2 σ = some (r, σ1)) : zM l G zshA yX8_above cX8_above 3 (some .int) 0 [.ref (ga G 28), .int x1, .int x2] (zov (some .int) G r) σ σ1 :=
  z_met (by decide) (Nat.le_of_ble_eq_true rfl) h (fun K _ hG C => by subst hG; exact b_X8_above K C x1 x2 σ)
theorem b_X8_bound (K : zK) (C : zOk zshA K RX8 cX8_bound (some .int) 3 0) (x1 : Int32) (x2 : Int32) (σ : zS) : Zf zshA K (f_X8_bound x1 x2 σ) 0 [(0, .ref (ga (kG K) 28)), (1, .int x1), (2, .int x2)] [] σ := by
  unfold f_X8_bound
  refine z_aload_n C dX8_bound_0 0 rfl ?_
  refine z_getR C fd_X8_27 dX8_bound_1 ?_
  refine z_iload_n C dX8_bound_4 1 rfl ?_
  refine z_bipush (v := 12) C dX8_bound_5 (by decide) ?_
  refine z_imul C dX8_bound_7 ?_
  refine z_iload_n C dX8_bound_8 2 rfl ?_
  refine z_iadd C dX8_bound_9 ?_
  refine z_iald C sA_30 dX8_bound_10 (fun v1 => ?_)
  exact z_iret C dX8_bound_11
theorem m_X8_bound {l : Launch} {G : zG} {x1 : Int32} {x2 : Int32} {σ σ1 : zS} {r : Int32} (h : f_X8_bound x1 x2 σ = some (r, σ1)) : zM l G zshA yX8_bound cX8_bound 3 (some .int) 0 [.ref (ga G 28), .int x1, .int x2] (zov (some .int) G r) σ σ1 :=
  z_met (by decide) (Nat.le_of_ble_eq_true rfl) h (fun K _ hG C => by subst hG; exact b_X8_bound K C x1 x2 σ)
theorem b_X8_raise (K : zK) (C : zOk zshA K RX8 cX8_raise none 5 1) (x1 : Int32) (x2 : Int32) (x3 : Int32) (σ : zS) : Zf zshA K (f_X8_raise x1 x2 x3 σ) 0 [(0, .ref (ga (kG K) 28)), (1, .int x1), (2, .int x2), (3, .int x3)] [] σ := by
  unfold f_X8_raise
  refine z_iload_n C dX8_raise_0 1 rfl ?_
  refine z_bipush (v := 12) C dX8_raise_1 (by decide) ?_
  refine z_imul C dX8_raise_3 ?_
  refine z_iload_n C dX8_raise_4 2 rfl ?_
  refine z_iadd C dX8_raise_5 ?_
  refine z_istore (lv1 := [(4, .int ((x1 * 12) + x2)), (0, .ref (ga (kG K) 28)), (1, .int x1), (2, .int x2), (3, .int x3)]) C dX8_raise_6 (by decide) rfl ?_
  refine z_aload_n C dX8_raise_8 1 rfl ?_
  refine z_getR C fd_X8_27 dX8_raise_9 ?_
  refine z_iload C dX8_raise_12 0 rfl ?_
  refine z_aload_n C dX8_raise_14 1 rfl ?_
  refine z_getR C fd_X8_27 dX8_raise_15 ?_
  refine z_iload C dX8_raise_18 0 rfl ?_
  refine z_iald C sA_30 dX8_raise_20 (fun v1 => ?_)
  refine z_iload_n C dX8_raise_21 4 rfl ?_
  refine z_mmax C ml_X8_73 zma_max_s zma_i zma_max_c (by decide) (Nat.le_of_ble_eq_true rfl) dX8_raise_22 ?_
  refine z_iast C sA_30 dX8_raise_25 (fun σ2 => ?_)
  exact z_vret C dX8_raise_26
theorem m_X8_raise {l : Launch} {G : zG} {x1 : Int32} {x2 : Int32} {x3 : Int32} {σ σ1 : zS} {r : Int32} (h : f_X8_raise x1 x2 x3 σ = some (r, σ1)) : zM l G zshA yX8_raise cX8_raise 5 none 1 [.ref (ga G 28), .int x1, .int x2, .int x3] (zov none G r) σ σ1 :=
  z_met (by decide) (Nat.le_of_ble_eq_true rfl) h (fun K _ hG C => by subst hG; exact b_X8_raise K C x1 x2 x3 σ)
theorem b_X8_raiseStruck_L23 (K : zK) (C : zOk zshA K RX8 cX8_raiseStruck none 5 2) (x1 : Int32) (x2 : Int32) (k2 : Int32 → zS → Option (Int32 × zS)) (hk2 : ∀ (x2 : Int32) (σ : zS), Zf zshA K (k2 x2 σ) 2 [(0, .ref (ga (kG K) 28)), (1, .int x1), (2, .int x2)] [] σ) : ∀ (n : Nat) (x3 : Int32) (x4 : Int32) (σ : zS), Zf zshA K (f_X8_raiseStruck_L23 k2 x1 x2 n x3 x4 σ) 23 [(0, .ref (ga (kG K) 28)), (1, .int x1), (2, .int x2), (3, .int x3), (4, .int x4)] [] σ := by
  intro n
  induction n with
  | zero => intro x3 x4 σ; rw [f_X8_raiseStruck_L23]; exact z_none
  | succ n ih =>
  intro x3 x4 σ
  rw [f_X8_raiseStruck_L23]
  refine z_iload_n C dX8_raiseStruck_23 3 rfl ?_
  refine z_iconst (v := (-1)) C dX8_raiseStruck_24 (by decide) ?_
  refine z_icmp_eq (tgt := 60) C dX8_raiseStruck_25 (by decide) ?_ ?_
  · refine z_iinc (v := 1) (lv1 := [(2, .int (x2 + 1)), (0, .ref (ga (kG K) 28)), (1, .int x1), (3, .int x3), (4, .int x4)]) C dX8_raiseStruck_60 2 rfl (by decide) (by decide) rfl ?_
    refine z_goto (tgt := 2) C dX8_raiseStruck_63 (by decide) ?_
    exact z_sub [1, 2, 0] rfl (hk2 (x2 + 1) σ)
  · refine z_iload C dX8_raiseStruck_28 4 rfl ?_
    refine z_bipush (v := 12) C dX8_raiseStruck_30 (by decide) ?_
    refine z_icmp_ge (tgt := 60) C dX8_raiseStruck_32 (by decide) ?_ ?_
    · refine z_iinc (v := 1) (lv1 := [(2, .int (x2 + 1)), (0, .ref (ga (kG K) 28)), (1, .int x1), (3, .int x3), (4, .int x4)]) C dX8_raiseStruck_60 2 rfl (by decide) (by decide) rfl ?_
      refine z_goto (tgt := 2) C dX8_raiseStruck_63 (by decide) ?_
      exact z_sub [1, 2, 0] rfl (hk2 (x2 + 1) σ)
    · refine z_aload_n C dX8_raiseStruck_35 0 rfl ?_
      refine z_iconst (v := 0) C dX8_raiseStruck_36 (by decide) ?_
      refine z_iload_n C dX8_raiseStruck_37 2 rfl ?_
      refine z_aload_n C dX8_raiseStruck_38 0 rfl ?_
      refine z_iconst (v := 0) C dX8_raiseStruck_39 (by decide) ?_
      refine z_iload_n C dX8_raiseStruck_40 3 rfl ?_
      refine z_callVi (q := 28) (As := [.int 0, .int x3]) (st := [.int x2, .int 0, .ref (ga (kG K) 28)]) C zy_X8_bound zv_X8_bound ml_X8_114 rcA_28 (by decide) (fun _ _ h => m_X8_bound h) rfl rfl (Nat.le_of_ble_eq_true rfl) dX8_raiseStruck_41 (fun v1 σ1 => ?_)
      refine z_callVv (q := 28) (As := [.int 0, .int x2, .int v1]) (st := []) C zy_X8_raise zv_X8_raise ml_X8_129 rcA_28 (by decide) (fun _ _ h => m_X8_raise h) rfl rfl (Nat.le_of_ble_eq_true rfl) dX8_raiseStruck_44 (fun _ σ2 => ?_)
      refine z_aload_n C dX8_raiseStruck_47 0 rfl ?_
      refine z_iload_n C dX8_raiseStruck_48 3 rfl ?_
      refine z_iload_n C dX8_raiseStruck_49 1 rfl ?_
      refine z_callVi (q := 28) (As := [.int x3, .int x1]) (st := []) C zy_X8_above zv_X8_above ml_X8_126 rcA_28 (by decide) (fun _ _ h => m_X8_above h) rfl rfl (Nat.le_of_ble_eq_true rfl) dX8_raiseStruck_50 (fun v3 σ3 => ?_)
      refine z_istore_n (lv1 := [(3, .int v3), (0, .ref (ga (kG K) 28)), (1, .int x1), (2, .int x2), (4, .int x4)]) C dX8_raiseStruck_53 (by decide) rfl ?_
      refine z_iinc (v := 1) (lv1 := [(4, .int (x4 + 1)), (3, .int v3), (0, .ref (ga (kG K) 28)), (1, .int x1), (2, .int x2)]) C dX8_raiseStruck_54 4 rfl (by decide) (by decide) rfl ?_
      refine z_goto (tgt := 23) C dX8_raiseStruck_57 (by decide) ?_
      exact z_sub [2, 3, 4, 1, 0] rfl (ih v3 (x4 + 1) σ3)
theorem b_X8_raiseStruck_L2 (K : zK) (C : zOk zshA K RX8 cX8_raiseStruck none 5 2) (x1 : Int32) : ∀ (n : Nat) (x2 : Int32) (σ : zS), Zf zshA K (f_X8_raiseStruck_L2 x1 n x2 σ) 2 [(0, .ref (ga (kG K) 28)), (1, .int x1), (2, .int x2)] [] σ := by
  intro n
  induction n with
  | zero => intro x2 σ; rw [f_X8_raiseStruck_L2]; exact z_none
  | succ n ih =>
  intro x2 σ
  rw [f_X8_raiseStruck_L2]
  refine z_iload_n C dX8_raiseStruck_2 2 rfl ?_
  refine z_aload_n C dX8_raiseStruck_3 0 rfl ?_
  refine z_getR C fd_X8_15 dX8_raiseStruck_4 ?_
  refine z_getI C fd_X8_40 dX8_raiseStruck_7 ?_
  refine z_icmp_ge (tgt := 66) C dX8_raiseStruck_10 (by decide) ?_ ?_
  · exact z_vret C dX8_raiseStruck_66
  · refine z_aload_n C dX8_raiseStruck_13 0 rfl ?_
    refine z_iload_n C dX8_raiseStruck_14 2 rfl ?_
    refine z_iload_n C dX8_raiseStruck_15 1 rfl ?_
    refine z_callVi (q := 28) (As := [.int x2, .int x1]) (st := []) C zy_X8_above zv_X8_above ml_X8_126 rcA_28 (by decide) (fun _ _ h => m_X8_above h) rfl rfl (Nat.le_of_ble_eq_true rfl) dX8_raiseStruck_16 (fun v1 σ1 => ?_)
    refine z_istore_n (lv1 := [(3, .int v1), (0, .ref (ga (kG K) 28)), (1, .int x1), (2, .int x2)]) C dX8_raiseStruck_19 (by decide) rfl ?_
    refine z_iconst (v := 0) C dX8_raiseStruck_20 (by decide) ?_
    refine z_istore (lv1 := [(4, .int 0), (3, .int v1), (0, .ref (ga (kG K) 28)), (1, .int x1), (2, .int x2)]) C dX8_raiseStruck_21 (by decide) rfl ?_
    exact z_sub [2, 3, 4, 1, 0] rfl (b_X8_raiseStruck_L23 K C x1 x2 _ ih zfu v1 0 σ1)
theorem b_X8_raiseStruck (K : zK) (C : zOk zshA K RX8 cX8_raiseStruck none 5 2) (x1 : Int32) (σ : zS) : Zf zshA K (f_X8_raiseStruck x1 σ) 0 [(0, .ref (ga (kG K) 28)), (1, .int x1)] [] σ := by
  unfold f_X8_raiseStruck
  refine z_iconst (v := 0) C dX8_raiseStruck_0 (by decide) ?_
  refine z_istore_n (lv1 := [(2, .int 0), (0, .ref (ga (kG K) 28)), (1, .int x1)]) C dX8_raiseStruck_1 (by decide) rfl ?_
  exact z_sub [1, 2, 0] rfl (b_X8_raiseStruck_L2 K C x1 zfu 0 σ)
theorem m_X8_raiseStruck {l : Launch} {G : zG} {x1 : Int32} {σ σ1 : zS} {r : Int32} (h : f_X8_raiseStruck x1 σ = some (r, σ1)) : zM l G zshA yX8_raiseStruck cX8_raiseStruck 5 none 2 [.ref (ga G 28), .int x1] (zov none G r) σ σ1 :=
  z_met (by decide) (Nat.le_of_ble_eq_true rfl) h (fun K _ hG C => by subst hG; exact b_X8_raiseStruck K C x1 σ)
theorem b_X8_raiseLaid_J95 (K : zK) (C : zOk zshA K RX8 cX8_raiseLaid none 4 2) (x1 : Int32) (x2 : Int32) (s0 : Int32) (k58 : Int32 → zS → Option (Int32 × zS)) (hk58 : ∀ (x2 : Int32) (σ : zS), Zf zshA K (k58 x2 σ) 58 [(0, .ref (ga (kG K) 28)), (1, .int x1), (2, .int x2)] [] σ) (σ : zS) : Zf zshA K (f_X8_raiseLaid_J95 k58 x1 x2 s0 σ) 95 [(0, .ref (ga (kG K) 28)), (1, .int x1), (2, .int x2)] [.int s0] σ := by
  unfold f_X8_raiseLaid_J95
  refine z_istore_n (lv1 := [(3, .int s0), (0, .ref (ga (kG K) 28)), (1, .int x1), (2, .int x2)]) C dX8_raiseLaid_95 (by decide) rfl ?_
  refine z_iload_n C dX8_raiseLaid_96 0 rfl ?_
  refine z_if_eq (tgt := 133) C dX8_raiseLaid_97 (by decide) ?_ ?_
  · refine z_iinc (v := 1) (lv1 := [(2, .int (x2 + 1)), (3, .int s0), (0, .ref (ga (kG K) 28)), (1, .int x1)]) C dX8_raiseLaid_133 3 rfl (by decide) (by decide) rfl ?_
    refine z_goto (tgt := 58) C dX8_raiseLaid_136 (by decide) ?_
    exact z_sub [2, 3, 0] rfl (hk58 (x2 + 1) σ)
  · refine z_aload_n C dX8_raiseLaid_100 1 rfl ?_
    refine z_getR C fd_X8_15 dX8_raiseLaid_101 ?_
    refine z_getR C fd_X8_132 dX8_raiseLaid_104 ?_
    refine z_iload_n C dX8_raiseLaid_107 3 rfl ?_
    refine z_iald C sA_22 dX8_raiseLaid_108 (fun v1 => ?_)
    refine z_aload_n C dX8_raiseLaid_109 1 rfl ?_
    refine z_getR C fd_X8_15 dX8_raiseLaid_110 ?_
    refine z_getR C fd_X8_132 dX8_raiseLaid_113 ?_
    refine z_iload_n C dX8_raiseLaid_116 2 rfl ?_
    refine z_iald C sA_22 dX8_raiseLaid_117 (fun v2 => ?_)
    refine z_icmp_le (tgt := 133) C dX8_raiseLaid_118 (by decide) ?_ ?_
    · refine z_iinc (v := 1) (lv1 := [(2, .int (x2 + 1)), (3, .int s0), (0, .ref (ga (kG K) 28)), (1, .int x1)]) C dX8_raiseLaid_133 3 rfl (by decide) (by decide) rfl ?_
      refine z_goto (tgt := 58) C dX8_raiseLaid_136 (by decide) ?_
      exact z_sub [2, 3, 0] rfl (hk58 (x2 + 1) σ)
    · refine z_aload_n C dX8_raiseLaid_121 1 rfl ?_
      refine z_iconst (v := 4) C dX8_raiseLaid_122 (by decide) ?_
      refine z_iload_n C dX8_raiseLaid_123 2 rfl ?_
      refine z_aload_n C dX8_raiseLaid_124 1 rfl ?_
      refine z_iconst (v := 4) C dX8_raiseLaid_125 (by decide) ?_
      refine z_iload_n C dX8_raiseLaid_126 3 rfl ?_
      refine z_callVi (q := 28) (As := [.int 4, .int x2]) (st := [.int x1, .int 4, .ref (ga (kG K) 28)]) C zy_X8_bound zv_X8_bound ml_X8_114 rcA_28 (by decide) (fun _ _ h => m_X8_bound h) rfl rfl (Nat.le_of_ble_eq_true rfl) dX8_raiseLaid_127 (fun v3 σ3 => ?_)
      refine z_callVv (q := 28) (As := [.int 4, .int x1, .int v3]) (st := []) C zy_X8_raise zv_X8_raise ml_X8_129 rcA_28 (by decide) (fun _ _ h => m_X8_raise h) rfl rfl (Nat.le_of_ble_eq_true rfl) dX8_raiseLaid_130 (fun _ σ4 => ?_)
      refine z_iinc (v := 1) (lv1 := [(2, .int (x2 + 1)), (3, .int s0), (0, .ref (ga (kG K) 28)), (1, .int x1)]) C dX8_raiseLaid_133 3 rfl (by decide) (by decide) rfl ?_
      refine z_goto (tgt := 58) C dX8_raiseLaid_136 (by decide) ?_
      exact z_sub [2, 3, 0] rfl (hk58 (x2 + 1) σ4)
theorem b_X8_raiseLaid_L58 (K : zK) (C : zOk zshA K RX8 cX8_raiseLaid none 4 2) (x1 : Int32) (k45 : Int32 → zS → Option (Int32 × zS)) (hk45 : ∀ (x1 : Int32) (σ : zS), Zf zshA K (k45 x1 σ) 45 [(0, .ref (ga (kG K) 28)), (1, .int x1)] [] σ) : ∀ (n : Nat) (x2 : Int32) (σ : zS), Zf zshA K (f_X8_raiseLaid_L58 k45 x1 n x2 σ) 58 [(0, .ref (ga (kG K) 28)), (1, .int x1), (2, .int x2)] [] σ := by
  intro n
  induction n with
  | zero => intro x2 σ; rw [f_X8_raiseLaid_L58]; exact z_none
  | succ n ih =>
  intro x2 σ
  rw [f_X8_raiseLaid_L58]
  refine z_iload_n C dX8_raiseLaid_58 2 rfl ?_
  refine z_aload_n C dX8_raiseLaid_59 0 rfl ?_
  refine z_getR C fd_X8_15 dX8_raiseLaid_60 ?_
  refine z_getI C fd_X8_40 dX8_raiseLaid_63 ?_
  refine z_icmp_ge (tgt := 139) C dX8_raiseLaid_66 (by decide) ?_ ?_
  · refine z_iinc (v := 1) (lv1 := [(1, .int (x1 + 1)), (0, .ref (ga (kG K) 28)), (2, .int x2)]) C dX8_raiseLaid_139 1 rfl (by decide) (by decide) rfl ?_
    refine z_goto (tgt := 45) C dX8_raiseLaid_142 (by decide) ?_
    exact z_sub [1, 0] rfl (hk45 (x1 + 1) σ)
  · refine z_aload_n C dX8_raiseLaid_69 0 rfl ?_
    refine z_getR C fd_X8_15 dX8_raiseLaid_70 ?_
    refine z_getR C fd_X8_46 dX8_raiseLaid_73 ?_
    refine z_iload_n C dX8_raiseLaid_76 2 rfl ?_
    refine z_iald C sA_18 dX8_raiseLaid_77 (fun v1 => ?_)
    refine z_aload_n C dX8_raiseLaid_78 0 rfl ?_
    refine z_getR C fd_X8_15 dX8_raiseLaid_79 ?_
    refine z_getR C fd_X8_46 dX8_raiseLaid_82 ?_
    refine z_iload_n C dX8_raiseLaid_85 1 rfl ?_
    refine z_iald C sA_18 dX8_raiseLaid_86 (fun v2 => ?_)
    refine z_icmp_ne (tgt := 94) C dX8_raiseLaid_87 (by decide) ?_ ?_
    · refine z_iconst (v := 1) C dX8_raiseLaid_90 (by decide) ?_
      refine z_goto (tgt := 95) C dX8_raiseLaid_91 (by decide) ?_
      exact z_sub [0, 1, 2] rfl (b_X8_raiseLaid_J95 K C x1 x2 1 _ ih σ)
    · refine z_iconst (v := 0) C dX8_raiseLaid_94 (by decide) ?_
      exact z_sub [0, 1, 2] rfl (b_X8_raiseLaid_J95 K C x1 x2 0 _ ih σ)
theorem b_X8_raiseLaid_L45 (K : zK) (C : zOk zshA K RX8 cX8_raiseLaid none 4 2) : ∀ (n : Nat) (x1 : Int32) (σ : zS), Zf zshA K (f_X8_raiseLaid_L45 n x1 σ) 45 [(0, .ref (ga (kG K) 28)), (1, .int x1)] [] σ := by
  intro n
  induction n with
  | zero => intro x1 σ; rw [f_X8_raiseLaid_L45]; exact z_none
  | succ n ih =>
  intro x1 σ
  rw [f_X8_raiseLaid_L45]
  refine z_iload_n C dX8_raiseLaid_45 1 rfl ?_
  refine z_aload_n C dX8_raiseLaid_46 0 rfl ?_
  refine z_getR C fd_X8_15 dX8_raiseLaid_47 ?_
  refine z_getI C fd_X8_40 dX8_raiseLaid_50 ?_
  refine z_icmp_ge (tgt := 145) C dX8_raiseLaid_53 (by decide) ?_ ?_
  · exact z_vret C dX8_raiseLaid_145
  · refine z_iconst (v := 0) C dX8_raiseLaid_56 (by decide) ?_
    refine z_istore_n (lv1 := [(2, .int 0), (0, .ref (ga (kG K) 28)), (1, .int x1)]) C dX8_raiseLaid_57 (by decide) rfl ?_
    exact z_sub [1, 2, 0] rfl (b_X8_raiseLaid_L58 K C x1 _ ih zfu 0 σ)
theorem b_X8_raiseLaid_L2 (K : zK) (C : zOk zshA K RX8 cX8_raiseLaid none 4 2) : ∀ (n : Nat) (x1 : Int32) (σ : zS), Zf zshA K (f_X8_raiseLaid_L2 n x1 σ) 2 [(0, .ref (ga (kG K) 28)), (1, .int x1)] [] σ := by
  intro n
  induction n with
  | zero => intro x1 σ; rw [f_X8_raiseLaid_L2]; exact z_none
  | succ n ih =>
  intro x1 σ
  rw [f_X8_raiseLaid_L2]
  refine z_iload_n C dX8_raiseLaid_2 1 rfl ?_
  refine z_aload_n C dX8_raiseLaid_3 0 rfl ?_
  refine z_getR C fd_X8_15 dX8_raiseLaid_4 ?_
  refine z_getI C fd_X8_40 dX8_raiseLaid_7 ?_
  refine z_icmp_ge (tgt := 43) C dX8_raiseLaid_10 (by decide) ?_ ?_
  · refine z_iconst (v := 0) C dX8_raiseLaid_43 (by decide) ?_
    refine z_istore_n (lv1 := [(1, .int 0), (0, .ref (ga (kG K) 28))]) C dX8_raiseLaid_44 (by decide) rfl ?_
    exact z_sub [1, 0] rfl (b_X8_raiseLaid_L45 K C zfu 0 σ)
  · refine z_aload_n C dX8_raiseLaid_13 0 rfl ?_
    refine z_iconst (v := 2) C dX8_raiseLaid_14 (by decide) ?_
    refine z_iload_n C dX8_raiseLaid_15 1 rfl ?_
    refine z_aload_n C dX8_raiseLaid_16 0 rfl ?_
    refine z_iconst (v := 0) C dX8_raiseLaid_17 (by decide) ?_
    refine z_iload_n C dX8_raiseLaid_18 1 rfl ?_
    refine z_callVi (q := 28) (As := [.int 0, .int x1]) (st := [.int x1, .int 2, .ref (ga (kG K) 28)]) C zy_X8_bound zv_X8_bound ml_X8_114 rcA_28 (by decide) (fun _ _ h => m_X8_bound h) rfl rfl (Nat.le_of_ble_eq_true rfl) dX8_raiseLaid_19 (fun v1 σ1 => ?_)
    refine z_callVv (q := 28) (As := [.int 2, .int x1, .int v1]) (st := []) C zy_X8_raise zv_X8_raise ml_X8_129 rcA_28 (by decide) (fun _ _ h => m_X8_raise h) rfl rfl (Nat.le_of_ble_eq_true rfl) dX8_raiseLaid_22 (fun _ σ2 => ?_)
    refine z_aload_n C dX8_raiseLaid_25 0 rfl ?_
    refine z_iconst (v := 4) C dX8_raiseLaid_26 (by decide) ?_
    refine z_iload_n C dX8_raiseLaid_27 1 rfl ?_
    refine z_aload_n C dX8_raiseLaid_28 0 rfl ?_
    refine z_iconst (v := 2) C dX8_raiseLaid_29 (by decide) ?_
    refine z_iload_n C dX8_raiseLaid_30 1 rfl ?_
    refine z_callVi (q := 28) (As := [.int 2, .int x1]) (st := [.int x1, .int 4, .ref (ga (kG K) 28)]) C zy_X8_bound zv_X8_bound ml_X8_114 rcA_28 (by decide) (fun _ _ h => m_X8_bound h) rfl rfl (Nat.le_of_ble_eq_true rfl) dX8_raiseLaid_31 (fun v3 σ3 => ?_)
    refine z_callVv (q := 28) (As := [.int 4, .int x1, .int v3]) (st := []) C zy_X8_raise zv_X8_raise ml_X8_129 rcA_28 (by decide) (fun _ _ h => m_X8_raise h) rfl rfl (Nat.le_of_ble_eq_true rfl) dX8_raiseLaid_34 (fun _ σ4 => ?_)
    refine z_iinc (v := 1) (lv1 := [(1, .int (x1 + 1)), (0, .ref (ga (kG K) 28))]) C dX8_raiseLaid_37 1 rfl (by decide) (by decide) rfl ?_
    refine z_goto (tgt := 2) C dX8_raiseLaid_40 (by decide) ?_
    exact z_sub [1, 0] rfl (ih (x1 + 1) σ4)
theorem b_X8_raiseLaid (K : zK) (C : zOk zshA K RX8 cX8_raiseLaid none 4 2) (σ : zS) : Zf zshA K (f_X8_raiseLaid σ) 0 [(0, .ref (ga (kG K) 28))] [] σ := by
  unfold f_X8_raiseLaid
  refine z_iconst (v := 0) C dX8_raiseLaid_0 (by decide) ?_
  refine z_istore_n (lv1 := [(1, .int 0), (0, .ref (ga (kG K) 28))]) C dX8_raiseLaid_1 (by decide) rfl ?_
  exact z_sub [1, 0] rfl (b_X8_raiseLaid_L2 K C zfu 0 σ)
theorem m_X8_raiseLaid {l : Launch} {G : zG} {σ σ1 : zS} {r : Int32} (h : f_X8_raiseLaid σ = some (r, σ1)) : zM l G zshA yX8_raiseLaid cX8_raiseLaid 4 none 2 [.ref (ga G 28)] (zov none G r) σ σ1 :=
  z_met (by decide) (Nat.le_of_ble_eq_true rfl) h (fun K _ hG C => by subst hG; exact b_X8_raiseLaid K C σ)
theorem b_X8_lower (K : zK) (C : zOk zshA K RX8 cX8_lower none 5 1) (x1 : Int32) (x2 : Int32) (x3 : Int32) (σ : zS) : Zf zshA K (f_X8_lower x1 x2 x3 σ) 0 [(0, .ref (ga (kG K) 28)), (1, .int x1), (2, .int x2), (3, .int x3)] [] σ := by
  unfold f_X8_lower
  refine z_iload_n C dX8_lower_0 1 rfl ?_
  refine z_bipush (v := 12) C dX8_lower_1 (by decide) ?_
  refine z_imul C dX8_lower_3 ?_
  refine z_iload_n C dX8_lower_4 2 rfl ?_
  refine z_iadd C dX8_lower_5 ?_
  refine z_istore (lv1 := [(4, .int ((x1 * 12) + x2)), (0, .ref (ga (kG K) 28)), (1, .int x1), (2, .int x2), (3, .int x3)]) C dX8_lower_6 (by decide) rfl ?_
  refine z_aload_n C dX8_lower_8 1 rfl ?_
  refine z_getR C fd_X8_27 dX8_lower_9 ?_
  refine z_iload C dX8_lower_12 0 rfl ?_
  refine z_aload_n C dX8_lower_14 1 rfl ?_
  refine z_getR C fd_X8_27 dX8_lower_15 ?_
  refine z_iload C dX8_lower_18 0 rfl ?_
  refine z_iald C sA_30 dX8_lower_20 (fun v1 => ?_)
  refine z_iload_n C dX8_lower_21 4 rfl ?_
  refine z_mmin C ml_X8_117 zma_min_s zma_i zma_min_c (by decide) (Nat.le_of_ble_eq_true rfl) dX8_lower_22 ?_
  refine z_iast C sA_30 dX8_lower_25 (fun σ2 => ?_)
  exact z_vret C dX8_lower_26
theorem m_X8_lower {l : Launch} {G : zG} {x1 : Int32} {x2 : Int32} {x3 : Int32} {σ σ1 : zS} {r : Int32} (h : f_X8_lower x1 x2 x3 σ = some (r, σ1)) : zM l G zshA yX8_lower cX8_lower 5 none 1 [.ref (ga G 28), .int x1, .int x2, .int x3] (zov none G r) σ σ1 :=
  z_met (by decide) (Nat.le_of_ble_eq_true rfl) h (fun K _ hG C => by subst hG; exact b_X8_lower K C x1 x2 x3 σ)
theorem b_X8_lowerStruck_L66 (K : zK) (C : zOk zshA K RX8 cX8_lowerStruck none 5 2) (x1 : Int32) (x2 : Int32) (k45 : Int32 → zS → Option (Int32 × zS)) (hk45 : ∀ (x2 : Int32) (σ : zS), Zf zshA K (k45 x2 σ) 45 [(0, .ref (ga (kG K) 28)), (1, .int x1), (2, .int x2)] [] σ) : ∀ (n : Nat) (x3 : Int32) (x4 : Int32) (σ : zS), Zf zshA K (f_X8_lowerStruck_L66 k45 x1 x2 n x3 x4 σ) 66 [(0, .ref (ga (kG K) 28)), (1, .int x1), (2, .int x2), (3, .int x3), (4, .int x4)] [] σ := by
  intro n
  induction n with
  | zero => intro x3 x4 σ; rw [f_X8_lowerStruck_L66]; exact z_none
  | succ n ih =>
  intro x3 x4 σ
  rw [f_X8_lowerStruck_L66]
  refine z_iload_n C dX8_lowerStruck_66 3 rfl ?_
  refine z_iconst (v := (-1)) C dX8_lowerStruck_67 (by decide) ?_
  refine z_icmp_eq (tgt := 103) C dX8_lowerStruck_68 (by decide) ?_ ?_
  · refine z_iinc (v := 1) (lv1 := [(2, .int (x2 + 1)), (0, .ref (ga (kG K) 28)), (1, .int x1), (3, .int x3), (4, .int x4)]) C dX8_lowerStruck_103 2 rfl (by decide) (by decide) rfl ?_
    refine z_goto (tgt := 45) C dX8_lowerStruck_106 (by decide) ?_
    exact z_sub [1, 2, 0] rfl (hk45 (x2 + 1) σ)
  · refine z_iload C dX8_lowerStruck_71 4 rfl ?_
    refine z_bipush (v := 12) C dX8_lowerStruck_73 (by decide) ?_
    refine z_icmp_ge (tgt := 103) C dX8_lowerStruck_75 (by decide) ?_ ?_
    · refine z_iinc (v := 1) (lv1 := [(2, .int (x2 + 1)), (0, .ref (ga (kG K) 28)), (1, .int x1), (3, .int x3), (4, .int x4)]) C dX8_lowerStruck_103 2 rfl (by decide) (by decide) rfl ?_
      refine z_goto (tgt := 45) C dX8_lowerStruck_106 (by decide) ?_
      exact z_sub [1, 2, 0] rfl (hk45 (x2 + 1) σ)
    · refine z_aload_n C dX8_lowerStruck_78 0 rfl ?_
      refine z_iconst (v := 1) C dX8_lowerStruck_79 (by decide) ?_
      refine z_iload_n C dX8_lowerStruck_80 3 rfl ?_
      refine z_aload_n C dX8_lowerStruck_81 0 rfl ?_
      refine z_iconst (v := 1) C dX8_lowerStruck_82 (by decide) ?_
      refine z_iload_n C dX8_lowerStruck_83 2 rfl ?_
      refine z_callVi (q := 28) (As := [.int 1, .int x2]) (st := [.int x3, .int 1, .ref (ga (kG K) 28)]) C zy_X8_bound zv_X8_bound ml_X8_114 rcA_28 (by decide) (fun _ _ h => m_X8_bound h) rfl rfl (Nat.le_of_ble_eq_true rfl) dX8_lowerStruck_84 (fun v1 σ1 => ?_)
      refine z_callVv (q := 28) (As := [.int 1, .int x3, .int v1]) (st := []) C zy_X8_lower zv_X8_lower ml_X8_135 rcA_28 (by decide) (fun _ _ h => m_X8_lower h) rfl rfl (Nat.le_of_ble_eq_true rfl) dX8_lowerStruck_87 (fun _ σ2 => ?_)
      refine z_aload_n C dX8_lowerStruck_90 0 rfl ?_
      refine z_iload_n C dX8_lowerStruck_91 3 rfl ?_
      refine z_iload_n C dX8_lowerStruck_92 1 rfl ?_
      refine z_callVi (q := 28) (As := [.int x3, .int x1]) (st := []) C zy_X8_above zv_X8_above ml_X8_126 rcA_28 (by decide) (fun _ _ h => m_X8_above h) rfl rfl (Nat.le_of_ble_eq_true rfl) dX8_lowerStruck_93 (fun v3 σ3 => ?_)
      refine z_istore_n (lv1 := [(3, .int v3), (0, .ref (ga (kG K) 28)), (1, .int x1), (2, .int x2), (4, .int x4)]) C dX8_lowerStruck_96 (by decide) rfl ?_
      refine z_iinc (v := 1) (lv1 := [(4, .int (x4 + 1)), (3, .int v3), (0, .ref (ga (kG K) 28)), (1, .int x1), (2, .int x2)]) C dX8_lowerStruck_97 4 rfl (by decide) (by decide) rfl ?_
      refine z_goto (tgt := 66) C dX8_lowerStruck_100 (by decide) ?_
      exact z_sub [2, 3, 4, 1, 0] rfl (ih v3 (x4 + 1) σ3)
theorem b_X8_lowerStruck_L45 (K : zK) (C : zOk zshA K RX8 cX8_lowerStruck none 5 2) (x1 : Int32) : ∀ (n : Nat) (x2 : Int32) (σ : zS), Zf zshA K (f_X8_lowerStruck_L45 x1 n x2 σ) 45 [(0, .ref (ga (kG K) 28)), (1, .int x1), (2, .int x2)] [] σ := by
  intro n
  induction n with
  | zero => intro x2 σ; rw [f_X8_lowerStruck_L45]; exact z_none
  | succ n ih =>
  intro x2 σ
  rw [f_X8_lowerStruck_L45]
  refine z_iload_n C dX8_lowerStruck_45 2 rfl ?_
  refine z_aload_n C dX8_lowerStruck_46 0 rfl ?_
  refine z_getR C fd_X8_15 dX8_lowerStruck_47 ?_
  refine z_getI C fd_X8_40 dX8_lowerStruck_50 ?_
  refine z_icmp_ge (tgt := 109) C dX8_lowerStruck_53 (by decide) ?_ ?_
  · exact z_vret C dX8_lowerStruck_109
  · refine z_aload_n C dX8_lowerStruck_56 0 rfl ?_
    refine z_iload_n C dX8_lowerStruck_57 2 rfl ?_
    refine z_iload_n C dX8_lowerStruck_58 1 rfl ?_
    refine z_callVi (q := 28) (As := [.int x2, .int x1]) (st := []) C zy_X8_above zv_X8_above ml_X8_126 rcA_28 (by decide) (fun _ _ h => m_X8_above h) rfl rfl (Nat.le_of_ble_eq_true rfl) dX8_lowerStruck_59 (fun v1 σ1 => ?_)
    refine z_istore_n (lv1 := [(3, .int v1), (0, .ref (ga (kG K) 28)), (1, .int x1), (2, .int x2)]) C dX8_lowerStruck_62 (by decide) rfl ?_
    refine z_iconst (v := 0) C dX8_lowerStruck_63 (by decide) ?_
    refine z_istore (lv1 := [(4, .int 0), (3, .int v1), (0, .ref (ga (kG K) 28)), (1, .int x1), (2, .int x2)]) C dX8_lowerStruck_64 (by decide) rfl ?_
    exact z_sub [2, 3, 4, 1, 0] rfl (b_X8_lowerStruck_L66 K C x1 x2 _ ih zfu v1 0 σ1)
theorem b_X8_lowerStruck_L2 (K : zK) (C : zOk zshA K RX8 cX8_lowerStruck none 5 2) (x1 : Int32) : ∀ (n : Nat) (x2 : Int32) (σ : zS), Zf zshA K (f_X8_lowerStruck_L2 x1 n x2 σ) 2 [(0, .ref (ga (kG K) 28)), (1, .int x1), (2, .int x2)] [] σ := by
  intro n
  induction n with
  | zero => intro x2 σ; rw [f_X8_lowerStruck_L2]; exact z_none
  | succ n ih =>
  intro x2 σ
  rw [f_X8_lowerStruck_L2]
  refine z_iload_n C dX8_lowerStruck_2 2 rfl ?_
  refine z_aload_n C dX8_lowerStruck_3 0 rfl ?_
  refine z_getR C fd_X8_15 dX8_lowerStruck_4 ?_
  refine z_getI C fd_X8_40 dX8_lowerStruck_7 ?_
  refine z_icmp_ge (tgt := 43) C dX8_lowerStruck_10 (by decide) ?_ ?_
  · refine z_iconst (v := 0) C dX8_lowerStruck_43 (by decide) ?_
    refine z_istore_n (lv1 := [(2, .int 0), (0, .ref (ga (kG K) 28)), (1, .int x1)]) C dX8_lowerStruck_44 (by decide) rfl ?_
    exact z_sub [1, 2, 0] rfl (b_X8_lowerStruck_L45 K C x1 zfu 0 σ)
  · refine z_aload_n C dX8_lowerStruck_13 0 rfl ?_
    refine z_iconst (v := 3) C dX8_lowerStruck_14 (by decide) ?_
    refine z_iload_n C dX8_lowerStruck_15 2 rfl ?_
    refine z_aload_n C dX8_lowerStruck_16 0 rfl ?_
    refine z_iconst (v := 5) C dX8_lowerStruck_17 (by decide) ?_
    refine z_iload_n C dX8_lowerStruck_18 2 rfl ?_
    refine z_callVi (q := 28) (As := [.int 5, .int x2]) (st := [.int x2, .int 3, .ref (ga (kG K) 28)]) C zy_X8_bound zv_X8_bound ml_X8_114 rcA_28 (by decide) (fun _ _ h => m_X8_bound h) rfl rfl (Nat.le_of_ble_eq_true rfl) dX8_lowerStruck_19 (fun v1 σ1 => ?_)
    refine z_callVv (q := 28) (As := [.int 3, .int x2, .int v1]) (st := []) C zy_X8_lower zv_X8_lower ml_X8_135 rcA_28 (by decide) (fun _ _ h => m_X8_lower h) rfl rfl (Nat.le_of_ble_eq_true rfl) dX8_lowerStruck_22 (fun _ σ2 => ?_)
    refine z_aload_n C dX8_lowerStruck_25 0 rfl ?_
    refine z_iconst (v := 1) C dX8_lowerStruck_26 (by decide) ?_
    refine z_iload_n C dX8_lowerStruck_27 2 rfl ?_
    refine z_aload_n C dX8_lowerStruck_28 0 rfl ?_
    refine z_iconst (v := 3) C dX8_lowerStruck_29 (by decide) ?_
    refine z_iload_n C dX8_lowerStruck_30 2 rfl ?_
    refine z_callVi (q := 28) (As := [.int 3, .int x2]) (st := [.int x2, .int 1, .ref (ga (kG K) 28)]) C zy_X8_bound zv_X8_bound ml_X8_114 rcA_28 (by decide) (fun _ _ h => m_X8_bound h) rfl rfl (Nat.le_of_ble_eq_true rfl) dX8_lowerStruck_31 (fun v3 σ3 => ?_)
    refine z_callVv (q := 28) (As := [.int 1, .int x2, .int v3]) (st := []) C zy_X8_lower zv_X8_lower ml_X8_135 rcA_28 (by decide) (fun _ _ h => m_X8_lower h) rfl rfl (Nat.le_of_ble_eq_true rfl) dX8_lowerStruck_34 (fun _ σ4 => ?_)
    refine z_iinc (v := 1) (lv1 := [(2, .int (x2 + 1)), (0, .ref (ga (kG K) 28)), (1, .int x1)]) C dX8_lowerStruck_37 2 rfl (by decide) (by decide) rfl ?_
    refine z_goto (tgt := 2) C dX8_lowerStruck_40 (by decide) ?_
    exact z_sub [1, 2, 0] rfl (ih (x2 + 1) σ4)
theorem b_X8_lowerStruck (K : zK) (C : zOk zshA K RX8 cX8_lowerStruck none 5 2) (x1 : Int32) (σ : zS) : Zf zshA K (f_X8_lowerStruck x1 σ) 0 [(0, .ref (ga (kG K) 28)), (1, .int x1)] [] σ := by
  unfold f_X8_lowerStruck
  refine z_iconst (v := 0) C dX8_lowerStruck_0 (by decide) ?_
  refine z_istore_n (lv1 := [(2, .int 0), (0, .ref (ga (kG K) 28)), (1, .int x1)]) C dX8_lowerStruck_1 (by decide) rfl ?_
  exact z_sub [1, 2, 0] rfl (b_X8_lowerStruck_L2 K C x1 zfu 0 σ)
theorem m_X8_lowerStruck {l : Launch} {G : zG} {x1 : Int32} {σ σ1 : zS} {r : Int32} (h : f_X8_lowerStruck x1 σ = some (r, σ1)) : zM l G zshA yX8_lowerStruck cX8_lowerStruck 5 none 2 [.ref (ga G 28), .int x1] (zov none G r) σ σ1 :=
  z_met (by decide) (Nat.le_of_ble_eq_true rfl) h (fun K _ hG C => by subst hG; exact b_X8_lowerStruck K C x1 σ)
theorem b_X8_hasWay_L4 (K : zK) (C : zOk zshA K RX8 cX8_hasWay (some .boolean) 3 1) : ∀ (n : Nat) (x1 : Int32) (x2 : Int32) (σ : zS), Zf zshA K (f_X8_hasWay_L4 n x1 x2 σ) 4 [(0, .ref (ga (kG K) 28)), (1, .int x1), (2, .int x2)] [] σ := by
  intro n
  induction n with
  | zero => intro x1 x2 σ; rw [f_X8_hasWay_L4]; exact z_none
  | succ n ih =>
  intro x1 x2 σ
  rw [f_X8_hasWay_L4]
  refine z_iload_n C dX8_hasWay_4 1 rfl ?_
  refine z_if_eq (tgt := 76) C dX8_hasWay_5 (by decide) ?_ ?_
  · refine z_iload_n C dX8_hasWay_76 1 rfl ?_
    exact z_zrb C dX8_hasWay_77
  · refine z_iload_n C dX8_hasWay_8 2 rfl ?_
    refine z_aload_n C dX8_hasWay_9 0 rfl ?_
    refine z_getR C fd_X8_15 dX8_hasWay_10 ?_
    refine z_getI C fd_X8_40 dX8_hasWay_13 ?_
    refine z_icmp_ge (tgt := 76) C dX8_hasWay_16 (by decide) ?_ ?_
    · refine z_iload_n C dX8_hasWay_76 1 rfl ?_
      exact z_zrb C dX8_hasWay_77
    · refine z_aload_n C dX8_hasWay_19 0 rfl ?_
      refine z_iconst (v := 0) C dX8_hasWay_20 (by decide) ?_
      refine z_iload_n C dX8_hasWay_21 2 rfl ?_
      refine z_callVi (q := 28) (As := [.int 0, .int x2]) (st := []) C zy_X8_bound zv_X8_bound ml_X8_114 rcA_28 (by decide) (fun _ _ h => m_X8_bound h) rfl rfl (Nat.le_of_ble_eq_true rfl) dX8_hasWay_22 (fun v1 σ1 => ?_)
      refine z_aload_n C dX8_hasWay_25 0 rfl ?_
      refine z_iconst (v := 1) C dX8_hasWay_26 (by decide) ?_
      refine z_iload_n C dX8_hasWay_27 2 rfl ?_
      refine z_callVi (q := 28) (As := [.int 1, .int x2]) (st := [.int v1]) C zy_X8_bound zv_X8_bound ml_X8_114 rcA_28 (by decide) (fun _ _ h => m_X8_bound h) rfl rfl (Nat.le_of_ble_eq_true rfl) dX8_hasWay_28 (fun v2 σ2 => ?_)
      refine z_icmp_gt (tgt := 68) C dX8_hasWay_31 (by decide) ?_ ?_
      · refine z_iconst (v := 0) C dX8_hasWay_68 (by decide) ?_
        refine z_istore_n (lv1 := [(1, .int 0), (0, .ref (ga (kG K) 28)), (2, .int x2)]) C dX8_hasWay_69 (by decide) rfl ?_
        refine z_iinc (v := 1) (lv1 := [(2, .int (x2 + 1)), (1, .int 0), (0, .ref (ga (kG K) 28))]) C dX8_hasWay_70 2 rfl (by decide) (by decide) rfl ?_
        refine z_goto (tgt := 4) C dX8_hasWay_73 (by decide) ?_
        exact z_sub [2, 1, 0] rfl (ih 0 (x2 + 1) σ2)
      · refine z_aload_n C dX8_hasWay_34 0 rfl ?_
        refine z_iconst (v := 2) C dX8_hasWay_35 (by decide) ?_
        refine z_iload_n C dX8_hasWay_36 2 rfl ?_
        refine z_callVi (q := 28) (As := [.int 2, .int x2]) (st := []) C zy_X8_bound zv_X8_bound ml_X8_114 rcA_28 (by decide) (fun _ _ h => m_X8_bound h) rfl rfl (Nat.le_of_ble_eq_true rfl) dX8_hasWay_37 (fun v3 σ3 => ?_)
        refine z_aload_n C dX8_hasWay_40 0 rfl ?_
        refine z_iconst (v := 3) C dX8_hasWay_41 (by decide) ?_
        refine z_iload_n C dX8_hasWay_42 2 rfl ?_
        refine z_callVi (q := 28) (As := [.int 3, .int x2]) (st := [.int v3]) C zy_X8_bound zv_X8_bound ml_X8_114 rcA_28 (by decide) (fun _ _ h => m_X8_bound h) rfl rfl (Nat.le_of_ble_eq_true rfl) dX8_hasWay_43 (fun v4 σ4 => ?_)
        refine z_icmp_gt (tgt := 68) C dX8_hasWay_46 (by decide) ?_ ?_
        · refine z_iconst (v := 0) C dX8_hasWay_68 (by decide) ?_
          refine z_istore_n (lv1 := [(1, .int 0), (0, .ref (ga (kG K) 28)), (2, .int x2)]) C dX8_hasWay_69 (by decide) rfl ?_
          refine z_iinc (v := 1) (lv1 := [(2, .int (x2 + 1)), (1, .int 0), (0, .ref (ga (kG K) 28))]) C dX8_hasWay_70 2 rfl (by decide) (by decide) rfl ?_
          refine z_goto (tgt := 4) C dX8_hasWay_73 (by decide) ?_
          exact z_sub [2, 1, 0] rfl (ih 0 (x2 + 1) σ4)
        · refine z_aload_n C dX8_hasWay_49 0 rfl ?_
          refine z_iconst (v := 4) C dX8_hasWay_50 (by decide) ?_
          refine z_iload_n C dX8_hasWay_51 2 rfl ?_
          refine z_callVi (q := 28) (As := [.int 4, .int x2]) (st := []) C zy_X8_bound zv_X8_bound ml_X8_114 rcA_28 (by decide) (fun _ _ h => m_X8_bound h) rfl rfl (Nat.le_of_ble_eq_true rfl) dX8_hasWay_52 (fun v5 σ5 => ?_)
          refine z_aload_n C dX8_hasWay_55 0 rfl ?_
          refine z_iconst (v := 5) C dX8_hasWay_56 (by decide) ?_
          refine z_iload_n C dX8_hasWay_57 2 rfl ?_
          refine z_callVi (q := 28) (As := [.int 5, .int x2]) (st := [.int v5]) C zy_X8_bound zv_X8_bound ml_X8_114 rcA_28 (by decide) (fun _ _ h => m_X8_bound h) rfl rfl (Nat.le_of_ble_eq_true rfl) dX8_hasWay_58 (fun v6 σ6 => ?_)
          refine z_icmp_gt (tgt := 68) C dX8_hasWay_61 (by decide) ?_ ?_
          · refine z_iconst (v := 0) C dX8_hasWay_68 (by decide) ?_
            refine z_istore_n (lv1 := [(1, .int 0), (0, .ref (ga (kG K) 28)), (2, .int x2)]) C dX8_hasWay_69 (by decide) rfl ?_
            refine z_iinc (v := 1) (lv1 := [(2, .int (x2 + 1)), (1, .int 0), (0, .ref (ga (kG K) 28))]) C dX8_hasWay_70 2 rfl (by decide) (by decide) rfl ?_
            refine z_goto (tgt := 4) C dX8_hasWay_73 (by decide) ?_
            exact z_sub [2, 1, 0] rfl (ih 0 (x2 + 1) σ6)
          · refine z_iconst (v := 1) C dX8_hasWay_64 (by decide) ?_
            refine z_goto (tgt := 69) C dX8_hasWay_65 (by decide) ?_
            refine z_istore_n (lv1 := [(1, .int 1), (0, .ref (ga (kG K) 28)), (2, .int x2)]) C dX8_hasWay_69 (by decide) rfl ?_
            refine z_iinc (v := 1) (lv1 := [(2, .int (x2 + 1)), (1, .int 1), (0, .ref (ga (kG K) 28))]) C dX8_hasWay_70 2 rfl (by decide) (by decide) rfl ?_
            refine z_goto (tgt := 4) C dX8_hasWay_73 (by decide) ?_
            exact z_sub [2, 1, 0] rfl (ih 1 (x2 + 1) σ6)
theorem b_X8_hasWay (K : zK) (C : zOk zshA K RX8 cX8_hasWay (some .boolean) 3 1) (σ : zS) : Zf zshA K (f_X8_hasWay σ) 0 [(0, .ref (ga (kG K) 28))] [] σ := by
  unfold f_X8_hasWay
  refine z_iconst (v := 1) C dX8_hasWay_0 (by decide) ?_
  refine z_istore_n (lv1 := [(1, .int 1), (0, .ref (ga (kG K) 28))]) C dX8_hasWay_1 (by decide) rfl ?_
  refine z_iconst (v := 0) C dX8_hasWay_2 (by decide) ?_
  refine z_istore_n (lv1 := [(2, .int 0), (1, .int 1), (0, .ref (ga (kG K) 28))]) C dX8_hasWay_3 (by decide) rfl ?_
  exact z_sub [2, 1, 0] rfl (b_X8_hasWay_L4 K C zfu 1 0 σ)
theorem m_X8_hasWay {l : Launch} {G : zG} {σ σ1 : zS} {r : Int32} (h : f_X8_hasWay σ = some (r, σ1)) : zM l G zshA yX8_hasWay cX8_hasWay 3 (some .boolean) 1 [.ref (ga G 28)] (zov (some .boolean) G r) σ σ1 :=
  z_met (by decide) (Nat.le_of_ble_eq_true rfl) h (fun K _ hG C => by subst hG; exact b_X8_hasWay K C σ)
theorem b_X8_settleWithout (K : zK) (C : zOk zshA K RX8 cX8_settleWithout (some .boolean) 2 3) (x1 : Int32) (σ : zS) : Zf zshA K (f_X8_settleWithout x1 σ) 0 [(0, .ref (ga (kG K) 28)), (1, .int x1)] [] σ := by
  unfold f_X8_settleWithout
  refine z_aload_n C dX8_settleWithout_0 0 rfl ?_
  refine z_getR C fd_X8_23 dX8_settleWithout_1 ?_
  refine z_iconst (v := 0) C dX8_settleWithout_4 (by decide) ?_
  refine z_aload_n C dX8_settleWithout_5 0 rfl ?_
  refine z_getR C fd_X8_27 dX8_settleWithout_6 ?_
  refine z_iconst (v := 0) C dX8_settleWithout_9 (by decide) ?_
  refine z_aload_n C dX8_settleWithout_10 0 rfl ?_
  refine z_getR C fd_X8_23 dX8_settleWithout_11 ?_
  refine z_alen (v := 72) C sA_29 dX8_settleWithout_14 (by decide) ?_
  refine z_copy C sA_29 sA_30 (by decide) (by decide) ml_X8_91 zac_n zac_s zac_i (by decide) (Nat.le_of_ble_eq_true rfl) dX8_settleWithout_15 (fun σ1 => ?_)
  refine z_aload_n C dX8_settleWithout_18 0 rfl ?_
  refine z_iload_n C dX8_settleWithout_19 1 rfl ?_
  refine z_callVv (q := 28) (As := [.int x1]) (st := []) C zy_X8_raiseStruck zv_X8_raiseStruck ml_X8_97 rcA_28 (by decide) (fun _ _ h => m_X8_raiseStruck h) rfl rfl (Nat.le_of_ble_eq_true rfl) dX8_settleWithout_20 (fun _ σ2 => ?_)
  refine z_aload_n C dX8_settleWithout_23 0 rfl ?_
  refine z_callVv (q := 28) (As := []) (st := []) C zy_X8_raiseLaid zv_X8_raiseLaid ml_X8_101 rcA_28 (by decide) (fun _ _ h => m_X8_raiseLaid h) rfl rfl (Nat.le_of_ble_eq_true rfl) dX8_settleWithout_24 (fun _ σ3 => ?_)
  refine z_aload_n C dX8_settleWithout_27 0 rfl ?_
  refine z_iload_n C dX8_settleWithout_28 1 rfl ?_
  refine z_callVv (q := 28) (As := [.int x1]) (st := []) C zy_X8_lowerStruck zv_X8_lowerStruck ml_X8_104 rcA_28 (by decide) (fun _ _ h => m_X8_lowerStruck h) rfl rfl (Nat.le_of_ble_eq_true rfl) dX8_settleWithout_29 (fun _ σ4 => ?_)
  refine z_aload_n C dX8_settleWithout_32 0 rfl ?_
  refine z_callVz (q := 28) (As := []) (st := []) C zy_X8_hasWay zv_X8_hasWay ml_X8_107 rcA_28 (by decide) (fun _ _ h => m_X8_hasWay h) rfl rfl (Nat.le_of_ble_eq_true rfl) dX8_settleWithout_33 (fun v5 σ5 => ?_)
  exact z_zrb C dX8_settleWithout_36
theorem m_X8_settleWithout {l : Launch} {G : zG} {x1 : Int32} {σ σ1 : zS} {r : Int32} (h : f_X8_settleWithout x1 σ = some (r, σ1)) : zM l G zshA yX8_settleWithout cX8_settleWithout 2 (some .boolean) 3 [.ref (ga G 28), .int x1] (zov (some .boolean) G r) σ σ1 :=
  z_met (by decide) (Nat.le_of_ble_eq_true rfl) h (fun K _ hG C => by subst hG; exact b_X8_settleWithout K C x1 σ)
theorem b_X8_settle (K : zK) (C : zOk zshA K RX8 cX8_settle (some .boolean) 1 4) (σ : zS) : Zf zshA K (f_X8_settle σ) 0 [(0, .ref (ga (kG K) 28))] [] σ := by
  unfold f_X8_settle
  refine z_aload_n C dX8_settle_0 0 rfl ?_
  refine z_callVv (q := 28) (As := []) (st := []) C zy_X8_boundByNumbers zv_X8_boundByNumbers ml_X8_33 rcA_28 (by decide) (fun _ _ h => m_X8_boundByNumbers h) rfl rfl (Nat.le_of_ble_eq_true rfl) dX8_settle_1 (fun _ σ1 => ?_)
  refine z_aload_n C dX8_settle_4 0 rfl ?_
  refine z_iconst (v := (-1)) C dX8_settle_5 (by decide) ?_
  refine z_callVz (q := 28) (As := [.int (-1)]) (st := []) C zy_X8_settleWithout zv_X8_settleWithout ml_X8_36 rcA_28 (by decide) (fun _ _ h => m_X8_settleWithout h) rfl rfl (Nat.le_of_ble_eq_true rfl) dX8_settle_6 (fun v2 σ2 => ?_)
  exact z_zrb C dX8_settle_9
theorem m_X8_settle {l : Launch} {G : zG} {σ σ1 : zS} {r : Int32} (h : f_X8_settle σ = some (r, σ1)) : zM l G zshA yX8_settle cX8_settle 1 (some .boolean) 4 [.ref (ga G 28)] (zov (some .boolean) G r) σ σ1 :=
  z_met (by decide) (Nat.le_of_ble_eq_true rfl) h (fun K _ hG C => by subst hG; exact b_X8_settle K C σ)
theorem b_X0_isReused (K : zK) (C : zOk zshA K RX0 cX0_isReused (some .boolean) 2 0) (x1 : Int32) (σ : zS) : Zf zshA K (f_X0_isReused x1 σ) 0 [(0, .ref (ga (kG K) 17)), (1, .int x1)] [] σ := by
  unfold f_X0_isReused
  refine z_aload_n C dX0_isReused_0 0 rfl ?_
  refine z_getR C fd_X0_30 dX0_isReused_1 ?_
  refine z_iload_n C dX0_isReused_4 1 rfl ?_
  refine z_iald C sA_24 dX0_isReused_5 (fun v1 => ?_)
  refine z_if_le (tgt := 13) C dX0_isReused_6 (by decide) ?_ ?_
  · refine z_iconst (v := 0) C dX0_isReused_13 (by decide) ?_
    exact z_zret C (by decide) dX0_isReused_14
  · refine z_iconst (v := 1) C dX0_isReused_9 (by decide) ?_
    refine z_goto (tgt := 14) C dX0_isReused_10 (by decide) ?_
    exact z_zret C (by decide) dX0_isReused_14
theorem m_X0_isReused {l : Launch} {G : zG} {x1 : Int32} {σ σ1 : zS} {r : Int32} (h : f_X0_isReused x1 σ = some (r, σ1)) : zM l G zshA yX0_isReused cX0_isReused 2 (some .boolean) 0 [.ref (ga G 17), .int x1] (zov (some .boolean) G r) σ σ1 :=
  z_met (by decide) (Nat.le_of_ble_eq_true rfl) h (fun K _ hG C => by subst hG; exact b_X0_isReused K C x1 σ)
theorem b_X9_span_J59 (K : zK) (C : zOk zshA K RX9 cX9_span (some .int) 4 5) (x1 : Int32) (x2 : Int32) (σ : zS) : Zf zshA K (f_X9_span_J59 x1 x2 σ) 59 [(0, .ref (ga (kG K) 0)), (1, .int x1), (2, .int x2)] [] σ := by
  unfold f_X9_span_J59
  refine z_aload_n C dX9_span_59 0 rfl ?_
  refine z_getR C fd_X9_44 dX9_span_60 ?_
  refine z_callVz (q := 28) (As := []) (st := []) C zy_X8_settle zv_X8_settle ml_X9_207 rcA_28 (by decide) (fun _ _ h => m_X8_settle h) rfl rfl (Nat.le_of_ble_eq_true rfl) dX9_span_63 (fun v1 σ1 => ?_)
  refine z_if_eq (tgt := 81) C dX9_span_66 (by decide) ?_ ?_
  · refine z_iconst (v := (-1)) C dX9_span_81 (by decide) ?_
    exact z_iret C dX9_span_82
  · refine z_aload_n C dX9_span_69 0 rfl ?_
    refine z_getR C fd_X9_44 dX9_span_70 ?_
    refine z_iload_n C dX9_span_73 2 rfl ?_
    refine z_iload_n C dX9_span_74 1 rfl ?_
    refine z_callVi (q := 28) (As := [.int x2, .int x1]) (st := []) C zy_X8_bound zv_X8_bound ml_X9_211 rcA_28 (by decide) (fun _ _ h => m_X8_bound h) rfl rfl (Nat.le_of_ble_eq_true rfl) dX9_span_75 (fun v2 σ2 => ?_)
    refine z_goto (tgt := 82) C dX9_span_78 (by decide) ?_
    exact z_iret C dX9_span_82
theorem b_X9_span_J41 (K : zK) (C : zOk zshA K RX9 cX9_span (some .int) 4 5) (x1 : Int32) (x2 : Int32) (s0 : Int32) (σ : zS) : Zf zshA K (f_X9_span_J41 x1 x2 s0 σ) 41 [(0, .ref (ga (kG K) 0)), (1, .int x1), (2, .int x2)] [.int s0] σ := by
  unfold f_X9_span_J41
  refine z_istore_n (lv1 := [(3, .int s0), (0, .ref (ga (kG K) 0)), (1, .int x1), (2, .int x2)]) C dX9_span_41 (by decide) rfl ?_
  refine z_iload_n C dX9_span_42 0 rfl ?_
  refine z_if_eq (tgt := 59) C dX9_span_43 (by decide) ?_ ?_
  · exact z_sub [1, 2, 3] rfl (b_X9_span_J59 K C x1 x2 σ)
  · refine z_aload_n C dX9_span_46 1 rfl ?_
    refine z_getR C fd_X9_26 dX9_span_47 ?_
    refine z_iload_n C dX9_span_50 2 rfl ?_
    refine z_callVz (q := 17) (As := [.int x1]) (st := []) C zy_X0_isReused zv_X0_isReused ml_X9_204 rcA_17 (by decide) (fun _ _ h => m_X0_isReused h) rfl rfl (Nat.le_of_ble_eq_true rfl) dX9_span_51 (fun v1 σ1 => ?_)
    refine z_if_ne (tgt := 59) C dX9_span_54 (by decide) ?_ ?_
    · refine z_iconst (v := (-1)) C dX9_span_57 (by decide) ?_
      exact z_iret C dX9_span_58
    · exact z_sub [1, 2, 3] rfl (b_X9_span_J59 K C x1 x2 σ1)
theorem b_X9_span (K : zK) (C : zOk zshA K RX9 cX9_span (some .int) 4 5) (x1 : Int32) (x2 : Int32) (σ : zS) : Zf zshA K (f_X9_span x1 x2 σ) 0 [(0, .ref (ga (kG K) 0)), (1, .int x1), (2, .int x2)] [] σ := by
  unfold f_X9_span
  refine z_aload_n C dX9_span_0 0 rfl ?_
  refine z_getR C fd_X9_26 dX9_span_1 ?_
  refine z_iload_n C dX9_span_4 1 rfl ?_
  refine z_callVz (q := 17) (As := [.int x1]) (st := []) C zy_X0_has zv_X0_has ml_X9_163 rcA_17 (by decide) (fun _ _ h => m_X0_has h) rfl rfl (Nat.le_of_ble_eq_true rfl) dX9_span_5 (fun v1 σ1 => ?_)
  refine z_if_ne (tgt := 14) C dX9_span_8 (by decide) ?_ ?_
  · refine z_bipush (v := (-2)) C dX9_span_11 (by decide) ?_
    exact z_iret C dX9_span_13
  · refine z_iload_n C dX9_span_14 2 rfl ?_
    refine z_iconst (v := 0) C dX9_span_15 (by decide) ?_
    refine z_iconst (v := 5) C dX9_span_16 (by decide) ?_
    refine z_callSz (As := [.int x2, .int 0, .int 5]) (st := []) C zy_X9_isWithin zs_X9_isWithin ml_X9_84 (by decide) (fun _ _ h => m_X9_isWithin h) rfl rfl (Nat.le_of_ble_eq_true rfl) dX9_span_17 (fun v2 σ2 => ?_)
    refine z_if_ne (tgt := 26) C dX9_span_20 (by decide) ?_ ?_
    · refine z_bipush (v := (-3)) C dX9_span_23 (by decide) ?_
      exact z_iret C dX9_span_25
    · refine z_iload_n C dX9_span_26 2 rfl ?_
      refine z_iconst (v := 2) C dX9_span_27 (by decide) ?_
      refine z_icmp_eq (tgt := 36) C dX9_span_28 (by decide) ?_ ?_
      · refine z_iconst (v := 1) C dX9_span_36 (by decide) ?_
        refine z_goto (tgt := 41) C dX9_span_37 (by decide) ?_
        exact z_sub [0, 1, 2] rfl (b_X9_span_J41 K C x1 x2 1 σ2)
      · refine z_iload_n C dX9_span_31 2 rfl ?_
        refine z_iconst (v := 3) C dX9_span_32 (by decide) ?_
        refine z_icmp_ne (tgt := 40) C dX9_span_33 (by decide) ?_ ?_
        · refine z_iconst (v := 1) C dX9_span_36 (by decide) ?_
          refine z_goto (tgt := 41) C dX9_span_37 (by decide) ?_
          exact z_sub [0, 1, 2] rfl (b_X9_span_J41 K C x1 x2 1 σ2)
        · refine z_iconst (v := 0) C dX9_span_40 (by decide) ?_
          exact z_sub [0, 1, 2] rfl (b_X9_span_J41 K C x1 x2 0 σ2)
theorem m_X9_span {l : Launch} {G : zG} {x1 : Int32} {x2 : Int32} {σ σ1 : zS} {r : Int32} (h : f_X9_span x1 x2 σ = some (r, σ1)) : zM l G zshA yX9_span cX9_span 4 (some .int) 5 [.ref (ga G 0), .int x1, .int x2] (zov (some .int) G r) σ σ1 :=
  z_met (by decide) (Nat.le_of_ble_eq_true rfl) h (fun K _ hG C => by subst hG; exact b_X9_span K C x1 x2 σ)
