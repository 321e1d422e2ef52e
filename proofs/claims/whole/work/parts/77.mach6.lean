theorem b_X10_legs (K : zK) (C : zOk zshB K RX10 cX10_legs (some .int) 6 3) (x1 : Int32) (x2 : Int32) (x3 : Int32) (x4 : Int32) (x5 : Int32) (σ : zS) : Zf zshB K (f_X10_legs x1 x2 x3 x4 x5 σ) 0 [(0, .ref (ga (kG K) 0)), (1, .int x1), (2, .int x2), (3, .int x3), (4, .int x4), (5, .int x5)] [] σ := by
  unfold f_X10_legs
  refine z_aload_n C dX10_legs_0 0 rfl ?_
  refine z_iload_n C dX10_legs_1 1 rfl ?_
  refine z_callVz (q := 0) (As := [.int x1]) (st := []) C zy_X10_isBlade zv_X10_isBlade ml_X10_169 rcB_0 (by decide) (fun _ _ h => m_X10_isBlade h) rfl rfl (Nat.le_of_ble_eq_true rfl) dX10_legs_2 (fun v1 σ1 => ?_)
  refine z_if_eq (tgt := 16) C dX10_legs_5 (by decide) ?_ ?_
  · refine z_bipush (v := (-2)) C dX10_legs_16 (by decide) ?_
    exact z_iret C dX10_legs_18
  · refine z_aload_n C dX10_legs_8 0 rfl ?_
    refine z_iload_n C dX10_legs_9 2 rfl ?_
    refine z_callVz (q := 0) (As := [.int x2]) (st := []) C zy_X10_isFlow zv_X10_isFlow ml_X10_159 rcB_0 (by decide) (fun _ _ h => m_X10_isFlow h) rfl rfl (Nat.le_of_ble_eq_true rfl) dX10_legs_10 (fun v2 σ2 => ?_)
    refine z_if_ne (tgt := 19) C dX10_legs_13 (by decide) ?_ ?_
    · refine z_bipush (v := (-2)) C dX10_legs_16 (by decide) ?_
      exact z_iret C dX10_legs_18
    · refine z_iload_n C dX10_legs_19 3 rfl ?_
      refine z_iconst (v := 0) C dX10_legs_20 (by decide) ?_
      refine z_sipush (v := 9999) C dX10_legs_21 (by decide) ?_
      refine z_callSz (As := [.int x3, .int 0, .int 9999]) (st := []) C zy_X10_in zs_X10_in ml_X10_71 (by decide) (fun _ _ h => m_X10_in h) rfl rfl (Nat.le_of_ble_eq_true rfl) dX10_legs_24 (fun v3 σ3 => ?_)
      refine z_if_eq (tgt := 40) C dX10_legs_27 (by decide) ?_ ?_
      · refine z_bipush (v := (-3)) C dX10_legs_40 (by decide) ?_
        exact z_iret C dX10_legs_42
      · refine z_iload C dX10_legs_30 5 rfl ?_
        refine z_iconst (v := 0) C dX10_legs_32 (by decide) ?_
        refine z_iconst (v := 1) C dX10_legs_33 (by decide) ?_
        refine z_callSz (As := [.int x5, .int 0, .int 1]) (st := []) C zy_X10_in zs_X10_in ml_X10_71 (by decide) (fun _ _ h => m_X10_in h) rfl rfl (Nat.le_of_ble_eq_true rfl) dX10_legs_34 (fun v4 σ4 => ?_)
        refine z_if_ne (tgt := 43) C dX10_legs_37 (by decide) ?_ ?_
        · refine z_bipush (v := (-3)) C dX10_legs_40 (by decide) ?_
          exact z_iret C dX10_legs_42
        · refine z_aload_n C dX10_legs_43 0 rfl ?_
          refine z_aload_n C dX10_legs_44 0 rfl ?_
          refine z_getR C fd_X10_16 dX10_legs_45 ?_
          refine z_bipush (v := 6) C dX10_legs_48 (by decide) ?_
          refine z_iload_n C dX10_legs_50 2 rfl ?_
          refine z_imul C dX10_legs_51 ?_
          refine z_iald C sB_3 dX10_legs_52 (fun v5 => ?_)
          refine z_iload_n C dX10_legs_53 3 rfl ?_
          refine z_iload C dX10_legs_54 4 rfl ?_
          refine z_callVv (q := 0) (As := [.int v5, .int x3, .int x4]) (st := []) C zy_X10_layOut zv_X10_layOut ml_X10_223 rcB_0 (by decide) (fun _ _ h => m_X10_layOut h) rfl rfl (Nat.le_of_ble_eq_true rfl) dX10_legs_56 (fun _ σ6 => ?_)
          refine z_iload C dX10_legs_59 5 rfl ?_
          refine z_if_ne (tgt := 78) C dX10_legs_61 (by decide) ?_ ?_
          · refine z_aload_n C dX10_legs_64 0 rfl ?_
            refine z_getR C fd_X10_59 dX10_legs_65 ?_
            refine z_aload_n C dX10_legs_68 0 rfl ?_
            refine z_iload_n C dX10_legs_69 1 rfl ?_
            refine z_iconst (v := 0) C dX10_legs_70 (by decide) ?_
            refine z_callVi (q := 0) (As := [.int x1, .int 0]) (st := [.ref (ga (kG K) 15)]) C zy_X10_at zv_X10_at ml_X10_172 rcB_0 (by decide) (fun _ _ h => m_X10_at h) rfl rfl (Nat.le_of_ble_eq_true rfl) dX10_legs_71 (fun v7 σ7 => ?_)
            refine z_iald C sB_15 dX10_legs_74 (fun v8 => ?_)
            refine z_goto (tgt := 89) C dX10_legs_75 (by decide) ?_
            exact z_iret C dX10_legs_89
          · refine z_aload_n C dX10_legs_78 0 rfl ?_
            refine z_getR C fd_X10_62 dX10_legs_79 ?_
            refine z_aload_n C dX10_legs_82 0 rfl ?_
            refine z_iload_n C dX10_legs_83 1 rfl ?_
            refine z_iconst (v := 0) C dX10_legs_84 (by decide) ?_
            refine z_callVi (q := 0) (As := [.int x1, .int 0]) (st := [.ref (ga (kG K) 16)]) C zy_X10_at zv_X10_at ml_X10_172 rcB_0 (by decide) (fun _ _ h => m_X10_at h) rfl rfl (Nat.le_of_ble_eq_true rfl) dX10_legs_85 (fun v7 σ7 => ?_)
            refine z_iald C sB_16 dX10_legs_88 (fun v8 => ?_)
            exact z_iret C dX10_legs_89
theorem m_X10_legs {l : Launch} {G : zG} {x1 : Int32} {x2 : Int32} {x3 : Int32} {x4 : Int32} {x5 : Int32} {σ σ1 : zS} {r : Int32} (h : f_X10_legs x1 x2 x3 x4 x5 σ = some (r, σ1)) : zM l G zshB yX10_legs cX10_legs 6 (some .int) 3 [.ref (ga G 0), .int x1, .int x2, .int x3, .int x4, .int x5] (zov (some .int) G r) σ σ1 :=
  z_met (by decide) (Nat.le_of_ble_eq_true rfl) h (fun K _ hG C => by subst hG; exact b_X10_legs K C x1 x2 x3 x4 x5 σ)
theorem b_X10_comesBy_J161 (K : zK) (C : zOk zshB K RX10 cX10_comesBy (some .int) 11 3) (x1 : Int32) (x2 : Int32) (x3 : Int32) (x4 : Int32) (x5 : Int32) (x6 : Int32) (x8 : Int32) (x10 : Int32) (s0 : Int32) (k31 : Int32 → Int32 → Int32 → zS → Option (Int32 × zS)) (hk31 : ∀ (x6 : Int32) (x7 : Int32) (x8 : Int32) (σ : zS), Zf zshB K (k31 x6 x7 x8 σ) 31 [(0, .ref (ga (kG K) 0)), (1, .int x1), (2, .int x2), (3, .int x3), (4, .int x4), (5, .int x5), (6, .int x6), (7, .int x7), (8, .int x8)] [] σ) (σ : zS) : Zf zshB K (f_X10_comesBy_J161 k31 x1 x2 x3 x4 x5 x6 x8 x10 s0 σ) 161 [(0, .ref (ga (kG K) 0)), (1, .int x1), (2, .int x2), (3, .int x3), (4, .int x4), (5, .int x5), (6, .int x6), (8, .int x8), (10, .int x10)] [.int s0] σ := by
  unfold f_X10_comesBy_J161
  refine z_istore (lv1 := [(7, .int s0), (0, .ref (ga (kG K) 0)), (1, .int x1), (2, .int x2), (3, .int x3), (4, .int x4), (5, .int x5), (6, .int x6), (8, .int x8), (10, .int x10)]) C dX10_comesBy_161 (by decide) rfl ?_
  refine z_iload C dX10_comesBy_163 9 rfl ?_
  refine z_iconst (v := (-1)) C dX10_comesBy_165 (by decide) ?_
  refine z_icmp_eq (tgt := 187) C dX10_comesBy_166 (by decide) ?_ ?_
  · refine z_iload C dX10_comesBy_187 7 rfl ?_
    refine z_istore (lv1 := [(6, .int x6), (7, .int s0), (0, .ref (ga (kG K) 0)), (1, .int x1), (2, .int x2), (3, .int x3), (4, .int x4), (5, .int x5), (8, .int x8), (10, .int x10)]) C dX10_comesBy_189 (by decide) rfl ?_
    refine z_iinc (v := 1) (lv1 := [(8, .int (x8 + 1)), (6, .int x6), (7, .int s0), (0, .ref (ga (kG K) 0)), (1, .int x1), (2, .int x2), (3, .int x3), (4, .int x4), (5, .int x5), (10, .int x10)]) C dX10_comesBy_191 8 rfl (by decide) (by decide) rfl ?_
    refine z_goto (tgt := 31) C dX10_comesBy_194 (by decide) ?_
    exact z_sub [3, 4, 5, 6, 7, 8, 1, 2, 0] rfl (hk31 x6 s0 (x8 + 1) σ)
  · refine z_iload C dX10_comesBy_169 7 rfl ?_
    refine z_iconst (v := (-1)) C dX10_comesBy_171 (by decide) ?_
    refine z_icmp_eq (tgt := 182) C dX10_comesBy_172 (by decide) ?_ ?_
    · refine z_iload C dX10_comesBy_182 9 rfl ?_
      refine z_goto (tgt := 189) C dX10_comesBy_184 (by decide) ?_
      refine z_istore (lv1 := [(6, .int x10), (7, .int s0), (0, .ref (ga (kG K) 0)), (1, .int x1), (2, .int x2), (3, .int x3), (4, .int x4), (5, .int x5), (8, .int x8), (10, .int x10)]) C dX10_comesBy_189 (by decide) rfl ?_
      refine z_iinc (v := 1) (lv1 := [(8, .int (x8 + 1)), (6, .int x10), (7, .int s0), (0, .ref (ga (kG K) 0)), (1, .int x1), (2, .int x2), (3, .int x3), (4, .int x4), (5, .int x5), (10, .int x10)]) C dX10_comesBy_191 8 rfl (by decide) (by decide) rfl ?_
      refine z_goto (tgt := 31) C dX10_comesBy_194 (by decide) ?_
      exact z_sub [3, 4, 5, 6, 7, 8, 1, 2, 0] rfl (hk31 x10 s0 (x8 + 1) σ)
    · refine z_iload C dX10_comesBy_175 9 rfl ?_
      refine z_iload C dX10_comesBy_177 7 rfl ?_
      refine z_icmp_ge (tgt := 187) C dX10_comesBy_179 (by decide) ?_ ?_
      · refine z_iload C dX10_comesBy_187 7 rfl ?_
        refine z_istore (lv1 := [(6, .int x6), (7, .int s0), (0, .ref (ga (kG K) 0)), (1, .int x1), (2, .int x2), (3, .int x3), (4, .int x4), (5, .int x5), (8, .int x8), (10, .int x10)]) C dX10_comesBy_189 (by decide) rfl ?_
        refine z_iinc (v := 1) (lv1 := [(8, .int (x8 + 1)), (6, .int x6), (7, .int s0), (0, .ref (ga (kG K) 0)), (1, .int x1), (2, .int x2), (3, .int x3), (4, .int x4), (5, .int x5), (10, .int x10)]) C dX10_comesBy_191 8 rfl (by decide) (by decide) rfl ?_
        refine z_goto (tgt := 31) C dX10_comesBy_194 (by decide) ?_
        exact z_sub [3, 4, 5, 6, 7, 8, 1, 2, 0] rfl (hk31 x6 s0 (x8 + 1) σ)
      · refine z_iload C dX10_comesBy_182 9 rfl ?_
        refine z_goto (tgt := 189) C dX10_comesBy_184 (by decide) ?_
        refine z_istore (lv1 := [(6, .int x10), (7, .int s0), (0, .ref (ga (kG K) 0)), (1, .int x1), (2, .int x2), (3, .int x3), (4, .int x4), (5, .int x5), (8, .int x8), (10, .int x10)]) C dX10_comesBy_189 (by decide) rfl ?_
        refine z_iinc (v := 1) (lv1 := [(8, .int (x8 + 1)), (6, .int x10), (7, .int s0), (0, .ref (ga (kG K) 0)), (1, .int x1), (2, .int x2), (3, .int x3), (4, .int x4), (5, .int x5), (10, .int x10)]) C dX10_comesBy_191 8 rfl (by decide) (by decide) rfl ?_
        refine z_goto (tgt := 31) C dX10_comesBy_194 (by decide) ?_
        exact z_sub [3, 4, 5, 6, 7, 8, 1, 2, 0] rfl (hk31 x10 s0 (x8 + 1) σ)
theorem b_X10_comesBy_J86 (K : zK) (C : zOk zshB K RX10 cX10_comesBy (some .int) 11 3) (x1 : Int32) (x2 : Int32) (x3 : Int32) (x4 : Int32) (x5 : Int32) (x6 : Int32) (x7 : Int32) (x8 : Int32) (s0 : Int32) (k31 : Int32 → Int32 → Int32 → zS → Option (Int32 × zS)) (hk31 : ∀ (x6 : Int32) (x7 : Int32) (x8 : Int32) (σ : zS), Zf zshB K (k31 x6 x7 x8 σ) 31 [(0, .ref (ga (kG K) 0)), (1, .int x1), (2, .int x2), (3, .int x3), (4, .int x4), (5, .int x5), (6, .int x6), (7, .int x7), (8, .int x8)] [] σ) (σ : zS) : Zf zshB K (f_X10_comesBy_J86 k31 x1 x2 x3 x4 x5 x6 x7 x8 s0 σ) 86 [(0, .ref (ga (kG K) 0)), (1, .int x1), (2, .int x2), (3, .int x3), (4, .int x4), (5, .int x5), (6, .int x6), (7, .int x7), (8, .int x8)] [.int s0] σ := by
  unfold f_X10_comesBy_J86
  refine z_istore (lv1 := [(9, .int s0), (0, .ref (ga (kG K) 0)), (1, .int x1), (2, .int x2), (3, .int x3), (4, .int x4), (5, .int x5), (6, .int x6), (7, .int x7), (8, .int x8)]) C dX10_comesBy_86 (by decide) rfl ?_
  refine z_iload C dX10_comesBy_88 0 rfl ?_
  refine z_iload C dX10_comesBy_90 6 rfl ?_
  refine z_icmp_lt (tgt := 191) C dX10_comesBy_92 (by decide) ?_ ?_
  · refine z_iinc (v := 1) (lv1 := [(8, .int (x8 + 1)), (9, .int s0), (0, .ref (ga (kG K) 0)), (1, .int x1), (2, .int x2), (3, .int x3), (4, .int x4), (5, .int x5), (6, .int x6), (7, .int x7)]) C dX10_comesBy_191 9 rfl (by decide) (by decide) rfl ?_
    refine z_goto (tgt := 31) C dX10_comesBy_194 (by decide) ?_
    exact z_sub [2, 3, 4, 5, 6, 7, 8, 9, 0] rfl (hk31 x6 x7 (x8 + 1) σ)
  · refine z_iload C dX10_comesBy_95 0 rfl ?_
    refine z_aload_n C dX10_comesBy_97 1 rfl ?_
    refine z_getR C fd_X10_50 dX10_comesBy_98 ?_
    refine z_iload_n C dX10_comesBy_101 2 rfl ?_
    refine z_iald C sB_12 dX10_comesBy_102 (fun v1 => ?_)
    refine z_icmp_gt (tgt := 191) C dX10_comesBy_103 (by decide) ?_ ?_
    · refine z_iinc (v := 1) (lv1 := [(8, .int (x8 + 1)), (9, .int s0), (0, .ref (ga (kG K) 0)), (1, .int x1), (2, .int x2), (3, .int x3), (4, .int x4), (5, .int x5), (6, .int x6), (7, .int x7)]) C dX10_comesBy_191 9 rfl (by decide) (by decide) rfl ?_
      refine z_goto (tgt := 31) C dX10_comesBy_194 (by decide) ?_
      exact z_sub [2, 3, 4, 5, 6, 7, 8, 9, 0] rfl (hk31 x6 x7 (x8 + 1) σ)
    · refine z_aload_n C dX10_comesBy_106 1 rfl ?_
      refine z_aload_n C dX10_comesBy_107 1 rfl ?_
      refine z_getR C fd_X10_16 dX10_comesBy_108 ?_
      refine z_bipush (v := 6) C dX10_comesBy_111 (by decide) ?_
      refine z_iload_n C dX10_comesBy_113 3 rfl ?_
      refine z_imul C dX10_comesBy_114 ?_
      refine z_iald C sB_3 dX10_comesBy_115 (fun v2 => ?_)
      refine z_iload C dX10_comesBy_116 0 rfl ?_
      refine z_iload_n C dX10_comesBy_118 4 rfl ?_
      refine z_callVv (q := 0) (As := [.int v2, .int s0, .int x3]) (st := []) C zy_X10_layOut zv_X10_layOut ml_X10_223 rcB_0 (by decide) (fun _ _ h => m_X10_layOut h) rfl rfl (Nat.le_of_ble_eq_true rfl) dX10_comesBy_119 (fun _ σ3 => ?_)
      refine z_aload_n C dX10_comesBy_122 1 rfl ?_
      refine z_getR C fd_X10_59 dX10_comesBy_123 ?_
      refine z_aload_n C dX10_comesBy_126 1 rfl ?_
      refine z_iload_n C dX10_comesBy_127 2 rfl ?_
      refine z_iconst (v := 0) C dX10_comesBy_128 (by decide) ?_
      refine z_callVi (q := 0) (As := [.int x1, .int 0]) (st := [.ref (ga (kG K) 15)]) C zy_X10_at zv_X10_at ml_X10_172 rcB_0 (by decide) (fun _ _ h => m_X10_at h) rfl rfl (Nat.le_of_ble_eq_true rfl) dX10_comesBy_129 (fun v4 σ4 => ?_)
      refine z_iald C sB_15 dX10_comesBy_132 (fun v5 => ?_)
      refine z_istore (lv1 := [(10, .int v5), (9, .int s0), (0, .ref (ga (kG K) 0)), (1, .int x1), (2, .int x2), (3, .int x3), (4, .int x4), (5, .int x5), (6, .int x6), (7, .int x7), (8, .int x8)]) C dX10_comesBy_133 (by decide) rfl ?_
      refine z_iload C dX10_comesBy_135 0 rfl ?_
      refine z_iconst (v := (-1)) C dX10_comesBy_137 (by decide) ?_
      refine z_icmp_eq (tgt := 159) C dX10_comesBy_138 (by decide) ?_ ?_
      · refine z_iload C dX10_comesBy_159 9 rfl ?_
        exact z_sub [2, 3, 4, 5, 6, 7, 8, 10, 0] rfl (b_X10_comesBy_J161 K C x1 x2 x3 x4 x5 x6 x8 v5 x7 k31 hk31 σ4)
      · refine z_iload C dX10_comesBy_141 9 rfl ?_
        refine z_iconst (v := (-1)) C dX10_comesBy_143 (by decide) ?_
        refine z_icmp_eq (tgt := 154) C dX10_comesBy_144 (by decide) ?_ ?_
        · refine z_iload C dX10_comesBy_154 1 rfl ?_
          refine z_goto (tgt := 161) C dX10_comesBy_156 (by decide) ?_
          exact z_sub [2, 3, 4, 5, 6, 7, 8, 10, 0] rfl (b_X10_comesBy_J161 K C x1 x2 x3 x4 x5 x6 x8 v5 s0 k31 hk31 σ4)
        · refine z_iload C dX10_comesBy_147 1 rfl ?_
          refine z_iload C dX10_comesBy_149 9 rfl ?_
          refine z_icmp_ge (tgt := 159) C dX10_comesBy_151 (by decide) ?_ ?_
          · refine z_iload C dX10_comesBy_159 9 rfl ?_
            exact z_sub [2, 3, 4, 5, 6, 7, 8, 10, 0] rfl (b_X10_comesBy_J161 K C x1 x2 x3 x4 x5 x6 x8 v5 x7 k31 hk31 σ4)
          · refine z_iload C dX10_comesBy_154 1 rfl ?_
            refine z_goto (tgt := 161) C dX10_comesBy_156 (by decide) ?_
            exact z_sub [2, 3, 4, 5, 6, 7, 8, 10, 0] rfl (b_X10_comesBy_J161 K C x1 x2 x3 x4 x5 x6 x8 v5 s0 k31 hk31 σ4)
theorem b_X10_comesBy_L31 (K : zK) (C : zOk zshB K RX10 cX10_comesBy (some .int) 11 3) (x1 : Int32) (x2 : Int32) (x3 : Int32) (x4 : Int32) (x5 : Int32) : ∀ (n : Nat) (x6 : Int32) (x7 : Int32) (x8 : Int32) (σ : zS), Zf zshB K (f_X10_comesBy_L31 x1 x2 x3 x4 x5 n x6 x7 x8 σ) 31 [(0, .ref (ga (kG K) 0)), (1, .int x1), (2, .int x2), (3, .int x3), (4, .int x4), (5, .int x5), (6, .int x6), (7, .int x7), (8, .int x8)] [] σ := by
  intro n
  induction n with
  | zero => intro x6 x7 x8 σ; rw [f_X10_comesBy_L31]; exact z_none
  | succ n ih =>
  intro x6 x7 x8 σ
  rw [f_X10_comesBy_L31]
  refine z_iload C dX10_comesBy_31 8 rfl ?_
  refine z_bipush (v := 21) C dX10_comesBy_33 (by decide) ?_
  refine z_icmp_ge (tgt := 197) C dX10_comesBy_35 (by decide) ?_ ?_
  · refine z_iload C dX10_comesBy_197 4 rfl ?_
    refine z_if_ne (tgt := 207) C dX10_comesBy_199 (by decide) ?_ ?_
    · refine z_iload C dX10_comesBy_202 7 rfl ?_
      refine z_goto (tgt := 209) C dX10_comesBy_204 (by decide) ?_
      exact z_iret C dX10_comesBy_209
    · refine z_iload C dX10_comesBy_207 6 rfl ?_
      exact z_iret C dX10_comesBy_209
  · refine z_iload C dX10_comesBy_38 8 rfl ?_
    refine z_bipush (v := 20) C dX10_comesBy_40 (by decide) ?_
    refine z_icmp_ne (tgt := 50) C dX10_comesBy_42 (by decide) ?_ ?_
    · refine z_iload C dX10_comesBy_45 5 rfl ?_
      refine z_goto (tgt := 86) C dX10_comesBy_47 (by decide) ?_
      exact z_sub [0, 1, 2, 3, 4, 5, 6, 7, 8] rfl (b_X10_comesBy_J86 K C x1 x2 x3 x4 x5 x6 x7 x8 x5 _ ih σ)
    · refine z_iload C dX10_comesBy_50 8 rfl ?_
      refine z_iconst (v := 2) C dX10_comesBy_52 (by decide) ?_
      refine z_irem C dX10_comesBy_53 (fun v1 => ?_)
      refine z_if_ne (tgt := 71) C dX10_comesBy_54 (by decide) ?_ ?_
      · refine z_aload_n C dX10_comesBy_57 0 rfl ?_
        refine z_getR C fd_X10_7 dX10_comesBy_58 ?_
        refine z_iconst (v := 3) C dX10_comesBy_61 (by decide) ?_
        refine z_iload C dX10_comesBy_62 8 rfl ?_
        refine z_iconst (v := 2) C dX10_comesBy_64 (by decide) ?_
        refine z_idiv C dX10_comesBy_65 (fun v2 => ?_)
        refine z_imul C dX10_comesBy_66 ?_
        refine z_iald C sB_1 dX10_comesBy_67 (fun v3 => ?_)
        refine z_goto (tgt := 86) C dX10_comesBy_68 (by decide) ?_
        exact z_sub [0, 1, 2, 3, 4, 5, 6, 7, 8] rfl (b_X10_comesBy_J86 K C x1 x2 x3 x4 x5 x6 x7 x8 v3 _ ih σ)
      · refine z_aload_n C dX10_comesBy_71 0 rfl ?_
        refine z_getR C fd_X10_7 dX10_comesBy_72 ?_
        refine z_iconst (v := 3) C dX10_comesBy_75 (by decide) ?_
        refine z_iload C dX10_comesBy_76 8 rfl ?_
        refine z_iconst (v := 2) C dX10_comesBy_78 (by decide) ?_
        refine z_idiv C dX10_comesBy_79 (fun v2 => ?_)
        refine z_imul C dX10_comesBy_80 ?_
        refine z_iconst (v := 1) C dX10_comesBy_81 (by decide) ?_
        refine z_iadd C dX10_comesBy_82 ?_
        refine z_iald C sB_1 dX10_comesBy_83 (fun v3 => ?_)
        refine z_iconst (v := 1) C dX10_comesBy_84 (by decide) ?_
        refine z_iadd C dX10_comesBy_85 ?_
        exact z_sub [0, 1, 2, 3, 4, 5, 6, 7, 8] rfl (b_X10_comesBy_J86 K C x1 x2 x3 x4 x5 x6 x7 x8 (v3 + 1) _ ih σ)
theorem b_X10_comesBy (K : zK) (C : zOk zshB K RX10 cX10_comesBy (some .int) 11 3) (x1 : Int32) (x2 : Int32) (x3 : Int32) (x4 : Int32) (σ : zS) : Zf zshB K (f_X10_comesBy x1 x2 x3 x4 σ) 0 [(0, .ref (ga (kG K) 0)), (1, .int x1), (2, .int x2), (3, .int x3), (4, .int x4)] [] σ := by
  unfold f_X10_comesBy
  refine z_aload_n C dX10_comesBy_0 0 rfl ?_
  refine z_getR C fd_X10_35 dX10_comesBy_1 ?_
  refine z_iload_n C dX10_comesBy_4 1 rfl ?_
  refine z_iald C sB_7 dX10_comesBy_5 (fun v1 => ?_)
  refine z_aload_n C dX10_comesBy_6 0 rfl ?_
  refine z_getR C fd_X10_16 dX10_comesBy_7 ?_
  refine z_bipush (v := 6) C dX10_comesBy_10 (by decide) ?_
  refine z_iload_n C dX10_comesBy_12 2 rfl ?_
  refine z_imul C dX10_comesBy_13 ?_
  refine z_iconst (v := 1) C dX10_comesBy_14 (by decide) ?_
  refine z_iadd C dX10_comesBy_15 ?_
  refine z_iald C sB_3 dX10_comesBy_16 (fun v2 => ?_)
  refine z_callSi (As := [.int v1, .int v2]) (st := []) C zy_X10_greater zs_X10_greater ml_X10_199 (by decide) (fun _ _ h => m_X10_greater h) rfl rfl (Nat.le_of_ble_eq_true rfl) dX10_comesBy_17 (fun v3 σ3 => ?_)
  refine z_istore (lv1 := [(5, .int v3), (0, .ref (ga (kG K) 0)), (1, .int x1), (2, .int x2), (3, .int x3), (4, .int x4)]) C dX10_comesBy_20 (by decide) rfl ?_
  refine z_iconst (v := (-1)) C dX10_comesBy_22 (by decide) ?_
  refine z_istore (lv1 := [(6, .int (-1)), (5, .int v3), (0, .ref (ga (kG K) 0)), (1, .int x1), (2, .int x2), (3, .int x3), (4, .int x4)]) C dX10_comesBy_23 (by decide) rfl ?_
  refine z_iconst (v := (-1)) C dX10_comesBy_25 (by decide) ?_
  refine z_istore (lv1 := [(7, .int (-1)), (6, .int (-1)), (5, .int v3), (0, .ref (ga (kG K) 0)), (1, .int x1), (2, .int x2), (3, .int x3), (4, .int x4)]) C dX10_comesBy_26 (by decide) rfl ?_
  refine z_iconst (v := 0) C dX10_comesBy_28 (by decide) ?_
  refine z_istore (lv1 := [(8, .int 0), (7, .int (-1)), (6, .int (-1)), (5, .int v3), (0, .ref (ga (kG K) 0)), (1, .int x1), (2, .int x2), (3, .int x3), (4, .int x4)]) C dX10_comesBy_29 (by decide) rfl ?_
  exact z_sub [4, 5, 6, 7, 8, 3, 2, 1, 0] rfl (b_X10_comesBy_L31 K C x1 x2 x3 x4 v3 zfu (-1) (-1) 0 σ3)
theorem m_X10_comesBy {l : Launch} {G : zG} {x1 : Int32} {x2 : Int32} {x3 : Int32} {x4 : Int32} {σ σ1 : zS} {r : Int32} (h : f_X10_comesBy x1 x2 x3 x4 σ = some (r, σ1)) : zM l G zshB yX10_comesBy cX10_comesBy 11 (some .int) 3 [.ref (ga G 0), .int x1, .int x2, .int x3, .int x4] (zov (some .int) G r) σ σ1 :=
  z_met (by decide) (Nat.le_of_ble_eq_true rfl) h (fun K _ hG C => by subst hG; exact b_X10_comesBy K C x1 x2 x3 x4 σ)
theorem b_X10_reach (K : zK) (C : zOk zshB K RX10 cX10_reach (some .int) 5 5) (x1 : Int32) (x2 : Int32) (x3 : Int32) (x4 : Int32) (σ : zS) : Zf zshB K (f_X10_reach x1 x2 x3 x4 σ) 0 [(0, .ref (ga (kG K) 0)), (1, .int x1), (2, .int x2), (3, .int x3), (4, .int x4)] [] σ := by
  unfold f_X10_reach
  refine z_aload_n C dX10_reach_0 0 rfl ?_
  refine z_iload_n C dX10_reach_1 1 rfl ?_
  refine z_callVz (q := 0) (As := [.int x1]) (st := []) C zy_X10_isBlade zv_X10_isBlade ml_X10_169 rcB_0 (by decide) (fun _ _ h => m_X10_isBlade h) rfl rfl (Nat.le_of_ble_eq_true rfl) dX10_reach_2 (fun v1 σ1 => ?_)
  refine z_if_eq (tgt := 16) C dX10_reach_5 (by decide) ?_ ?_
  · refine z_bipush (v := (-2)) C dX10_reach_16 (by decide) ?_
    exact z_iret C dX10_reach_18
  · refine z_aload_n C dX10_reach_8 0 rfl ?_
    refine z_iload_n C dX10_reach_9 2 rfl ?_
    refine z_callVz (q := 0) (As := [.int x2]) (st := []) C zy_X10_isFlow zv_X10_isFlow ml_X10_159 rcB_0 (by decide) (fun _ _ h => m_X10_isFlow h) rfl rfl (Nat.le_of_ble_eq_true rfl) dX10_reach_10 (fun v2 σ2 => ?_)
    refine z_if_ne (tgt := 19) C dX10_reach_13 (by decide) ?_ ?_
    · refine z_bipush (v := (-2)) C dX10_reach_16 (by decide) ?_
      exact z_iret C dX10_reach_18
    · refine z_iload C dX10_reach_19 4 rfl ?_
      refine z_iconst (v := 0) C dX10_reach_21 (by decide) ?_
      refine z_iconst (v := 1) C dX10_reach_22 (by decide) ?_
      refine z_callSz (As := [.int x4, .int 0, .int 1]) (st := []) C zy_X10_in zs_X10_in ml_X10_71 (by decide) (fun _ _ h => m_X10_in h) rfl rfl (Nat.le_of_ble_eq_true rfl) dX10_reach_23 (fun v3 σ3 => ?_)
      refine z_if_ne (tgt := 32) C dX10_reach_26 (by decide) ?_ ?_
      · refine z_bipush (v := (-3)) C dX10_reach_29 (by decide) ?_
        exact z_iret C dX10_reach_31
      · refine z_aload_n C dX10_reach_32 0 rfl ?_
        refine z_callVz (q := 0) (As := []) (st := []) C zy_X10_areYears zv_X10_areYears ml_X10_214 rcB_0 (by decide) (fun _ _ h => m_X10_areYears h) rfl rfl (Nat.le_of_ble_eq_true rfl) dX10_reach_33 (fun v4 σ4 => ?_)
        refine z_if_eq (tgt := 51) C dX10_reach_36 (by decide) ?_ ?_
        · refine z_iconst (v := (-1)) C dX10_reach_51 (by decide) ?_
          exact z_iret C dX10_reach_52
        · refine z_aload_n C dX10_reach_39 0 rfl ?_
          refine z_iload_n C dX10_reach_40 1 rfl ?_
          refine z_iload_n C dX10_reach_41 2 rfl ?_
          refine z_iload_n C dX10_reach_42 3 rfl ?_
          refine z_iload C dX10_reach_43 4 rfl ?_
          refine z_callVi (q := 0) (As := [.int x1, .int x2, .int x3, .int x4]) (st := []) C zy_X10_comesBy zv_X10_comesBy ml_X10_227 rcB_0 (by decide) (fun _ _ h => m_X10_comesBy h) rfl rfl (Nat.le_of_ble_eq_true rfl) dX10_reach_45 (fun v5 σ5 => ?_)
          refine z_goto (tgt := 52) C dX10_reach_48 (by decide) ?_
          exact z_iret C dX10_reach_52
theorem m_X10_reach {l : Launch} {G : zG} {x1 : Int32} {x2 : Int32} {x3 : Int32} {x4 : Int32} {σ σ1 : zS} {r : Int32} (h : f_X10_reach x1 x2 x3 x4 σ = some (r, σ1)) : zM l G zshB yX10_reach cX10_reach 5 (some .int) 5 [.ref (ga G 0), .int x1, .int x2, .int x3, .int x4] (zov (some .int) G r) σ σ1 :=
  z_met (by decide) (Nat.le_of_ble_eq_true rfl) h (fun K _ hG C => by subst hG; exact b_X10_reach K C x1 x2 x3 x4 σ)
theorem b_X10_byBoat_J76 (K : zK) (C : zOk zshB K RX10 cX10_byBoat (some .int) 7 5) (x1 : Int32) (x2 : Int32) (x3 : Int32) (x5 : Int32) (x6 : Int32) (s0 : Int32) (k36 : Int32 → Int32 → Int32 → zS → Option (Int32 × zS)) (hk36 : ∀ (x4 : Int32) (x5 : Int32) (x6 : Int32) (σ : zS), Zf zshB K (k36 x4 x5 x6 σ) 36 [(0, .ref (ga (kG K) 0)), (1, .int x1), (2, .int x2), (3, .int x3), (4, .int x4), (5, .int x5), (6, .int x6)] [] σ) (σ : zS) : Zf zshB K (f_X10_byBoat_J76 k36 x1 x2 x3 x5 x6 s0 σ) 76 [(0, .ref (ga (kG K) 0)), (1, .int x1), (2, .int x2), (3, .int x3), (5, .int x5), (6, .int x6)] [.int s0] σ := by
  unfold f_X10_byBoat_J76
  refine z_istore (lv1 := [(4, .int s0), (0, .ref (ga (kG K) 0)), (1, .int x1), (2, .int x2), (3, .int x3), (5, .int x5), (6, .int x6)]) C dX10_byBoat_76 (by decide) rfl ?_
  refine z_iload C dX10_byBoat_78 5 rfl ?_
  refine z_if_ne (tgt := 96) C dX10_byBoat_80 (by decide) ?_ ?_
  · refine z_aload_n C dX10_byBoat_83 1 rfl ?_
    refine z_iload_n C dX10_byBoat_84 3 rfl ?_
    refine z_iload C dX10_byBoat_85 6 rfl ?_
    refine z_iconst (v := 1) C dX10_byBoat_87 (by decide) ?_
    refine z_iconst (v := 0) C dX10_byBoat_88 (by decide) ?_
    refine z_callVi (q := 0) (As := [.int x2, .int x6, .int 1, .int 0]) (st := []) C zy_X10_comesBy zv_X10_comesBy ml_X10_227 rcB_0 (by decide) (fun _ _ h => m_X10_comesBy h) rfl rfl (Nat.le_of_ble_eq_true rfl) dX10_byBoat_89 (fun v1 σ1 => ?_)
    refine z_iconst (v := (-1)) C dX10_byBoat_92 (by decide) ?_
    refine z_icmp_eq (tgt := 100) C dX10_byBoat_93 (by decide) ?_ ?_
    · refine z_iconst (v := 0) C dX10_byBoat_100 (by decide) ?_
      refine z_istore (lv1 := [(5, .int 0), (4, .int s0), (0, .ref (ga (kG K) 0)), (1, .int x1), (2, .int x2), (3, .int x3), (6, .int x6)]) C dX10_byBoat_101 (by decide) rfl ?_
      refine z_iinc (v := 1) (lv1 := [(6, .int (x6 + 1)), (5, .int 0), (4, .int s0), (0, .ref (ga (kG K) 0)), (1, .int x1), (2, .int x2), (3, .int x3)]) C dX10_byBoat_103 6 rfl (by decide) (by decide) rfl ?_
      refine z_goto (tgt := 36) C dX10_byBoat_106 (by decide) ?_
      exact z_sub [3, 4, 5, 6, 2, 1, 0] rfl (hk36 s0 0 (x6 + 1) σ1)
    · refine z_iconst (v := 1) C dX10_byBoat_96 (by decide) ?_
      refine z_goto (tgt := 101) C dX10_byBoat_97 (by decide) ?_
      refine z_istore (lv1 := [(5, .int 1), (4, .int s0), (0, .ref (ga (kG K) 0)), (1, .int x1), (2, .int x2), (3, .int x3), (6, .int x6)]) C dX10_byBoat_101 (by decide) rfl ?_
      refine z_iinc (v := 1) (lv1 := [(6, .int (x6 + 1)), (5, .int 1), (4, .int s0), (0, .ref (ga (kG K) 0)), (1, .int x1), (2, .int x2), (3, .int x3)]) C dX10_byBoat_103 6 rfl (by decide) (by decide) rfl ?_
      refine z_goto (tgt := 36) C dX10_byBoat_106 (by decide) ?_
      exact z_sub [3, 4, 5, 6, 2, 1, 0] rfl (hk36 s0 1 (x6 + 1) σ1)
  · refine z_iconst (v := 1) C dX10_byBoat_96 (by decide) ?_
    refine z_goto (tgt := 101) C dX10_byBoat_97 (by decide) ?_
    refine z_istore (lv1 := [(5, .int 1), (4, .int s0), (0, .ref (ga (kG K) 0)), (1, .int x1), (2, .int x2), (3, .int x3), (6, .int x6)]) C dX10_byBoat_101 (by decide) rfl ?_
    refine z_iinc (v := 1) (lv1 := [(6, .int (x6 + 1)), (5, .int 1), (4, .int s0), (0, .ref (ga (kG K) 0)), (1, .int x1), (2, .int x2), (3, .int x3)]) C dX10_byBoat_103 6 rfl (by decide) (by decide) rfl ?_
    refine z_goto (tgt := 36) C dX10_byBoat_106 (by decide) ?_
    exact z_sub [3, 4, 5, 6, 2, 1, 0] rfl (hk36 s0 1 (x6 + 1) σ)
theorem b_X10_byBoat_L36 (K : zK) (C : zOk zshB K RX10 cX10_byBoat (some .int) 7 5) (x1 : Int32) (x2 : Int32) (x3 : Int32) (k13 : Int32 → Int32 → zS → Option (Int32 × zS)) (hk13 : ∀ (x1 : Int32) (x2 : Int32) (σ : zS), Zf zshB K (k13 x1 x2 σ) 13 [(0, .ref (ga (kG K) 0)), (1, .int x1), (2, .int x2)] [] σ) : ∀ (n : Nat) (x4 : Int32) (x5 : Int32) (x6 : Int32) (σ : zS), Zf zshB K (f_X10_byBoat_L36 k13 x1 x2 x3 n x4 x5 x6 σ) 36 [(0, .ref (ga (kG K) 0)), (1, .int x1), (2, .int x2), (3, .int x3), (4, .int x4), (5, .int x5), (6, .int x6)] [] σ := by
  intro n
  induction n with
  | zero => intro x4 x5 x6 σ; rw [f_X10_byBoat_L36]; exact z_none
  | succ n ih =>
  intro x4 x5 x6 σ
  rw [f_X10_byBoat_L36]
  refine z_iload C dX10_byBoat_36 6 rfl ?_
  refine z_bipush (v := 9) C dX10_byBoat_38 (by decide) ?_
  refine z_icmp_ge (tgt := 109) C dX10_byBoat_40 (by decide) ?_ ?_
  · refine z_iload_n C dX10_byBoat_109 1 rfl ?_
    refine z_iload C dX10_byBoat_110 5 rfl ?_
    refine z_if_eq (tgt := 126) C dX10_byBoat_112 (by decide) ?_ ?_
    · refine z_iconst (v := 0) C dX10_byBoat_126 (by decide) ?_
      refine z_ior C dX10_byBoat_127 ?_
      refine z_istore_n (lv1 := [(1, .int (x1 ||| 0)), (0, .ref (ga (kG K) 0)), (2, .int x2), (3, .int x3), (4, .int x4), (5, .int x5), (6, .int x6)]) C dX10_byBoat_128 (by decide) rfl ?_
      refine z_iinc (v := 1) (lv1 := [(2, .int (x2 + 1)), (1, .int (x1 ||| 0)), (0, .ref (ga (kG K) 0)), (3, .int x3), (4, .int x4), (5, .int x5), (6, .int x6)]) C dX10_byBoat_129 2 rfl (by decide) (by decide) rfl ?_
      refine z_goto (tgt := 13) C dX10_byBoat_132 (by decide) ?_
      exact z_sub [2, 1, 0] rfl (hk13 (x1 ||| 0) (x2 + 1) σ)
    · refine z_iload C dX10_byBoat_115 4 rfl ?_
      refine z_if_ne (tgt := 126) C dX10_byBoat_117 (by decide) ?_ ?_
      · refine z_iconst (v := 1) C dX10_byBoat_120 (by decide) ?_
        refine z_iload_n C dX10_byBoat_121 2 rfl ?_
        refine z_ishl C dX10_byBoat_122 ?_
        refine z_goto (tgt := 127) C dX10_byBoat_123 (by decide) ?_
        refine z_ior C dX10_byBoat_127 ?_
        refine z_istore_n (lv1 := [(1, .int (x1 ||| ((1 : Int32) <<< (x2 &&& 31)))), (0, .ref (ga (kG K) 0)), (2, .int x2), (3, .int x3), (4, .int x4), (5, .int x5), (6, .int x6)]) C dX10_byBoat_128 (by decide) rfl ?_
        refine z_iinc (v := 1) (lv1 := [(2, .int (x2 + 1)), (1, .int (x1 ||| ((1 : Int32) <<< (x2 &&& 31)))), (0, .ref (ga (kG K) 0)), (3, .int x3), (4, .int x4), (5, .int x5), (6, .int x6)]) C dX10_byBoat_129 2 rfl (by decide) (by decide) rfl ?_
        refine z_goto (tgt := 13) C dX10_byBoat_132 (by decide) ?_
        exact z_sub [2, 1, 0] rfl (hk13 (x1 ||| ((1 : Int32) <<< (x2 &&& 31))) (x2 + 1) σ)
      · refine z_iconst (v := 0) C dX10_byBoat_126 (by decide) ?_
        refine z_ior C dX10_byBoat_127 ?_
        refine z_istore_n (lv1 := [(1, .int (x1 ||| 0)), (0, .ref (ga (kG K) 0)), (2, .int x2), (3, .int x3), (4, .int x4), (5, .int x5), (6, .int x6)]) C dX10_byBoat_128 (by decide) rfl ?_
        refine z_iinc (v := 1) (lv1 := [(2, .int (x2 + 1)), (1, .int (x1 ||| 0)), (0, .ref (ga (kG K) 0)), (3, .int x3), (4, .int x4), (5, .int x5), (6, .int x6)]) C dX10_byBoat_129 2 rfl (by decide) (by decide) rfl ?_
        refine z_goto (tgt := 13) C dX10_byBoat_132 (by decide) ?_
        exact z_sub [2, 1, 0] rfl (hk13 (x1 ||| 0) (x2 + 1) σ)
  · refine z_iload_n C dX10_byBoat_43 3 rfl ?_
    refine z_iload C dX10_byBoat_44 6 rfl ?_
    refine z_ishr C dX10_byBoat_46 ?_
    refine z_iconst (v := 1) C dX10_byBoat_47 (by decide) ?_
    refine z_iand C dX10_byBoat_48 ?_
    refine z_iconst (v := 1) C dX10_byBoat_49 (by decide) ?_
    refine z_icmp_ne (tgt := 103) C dX10_byBoat_50 (by decide) ?_ ?_
    · refine z_iload C dX10_byBoat_53 4 rfl ?_
      refine z_if_ne (tgt := 71) C dX10_byBoat_55 (by decide) ?_ ?_
      · refine z_aload_n C dX10_byBoat_58 0 rfl ?_
        refine z_iload_n C dX10_byBoat_59 2 rfl ?_
        refine z_iload C dX10_byBoat_60 6 rfl ?_
        refine z_iconst (v := 0) C dX10_byBoat_62 (by decide) ?_
        refine z_iconst (v := 0) C dX10_byBoat_63 (by decide) ?_
        refine z_callVi (q := 0) (As := [.int x2, .int x6, .int 0, .int 0]) (st := []) C zy_X10_comesBy zv_X10_comesBy ml_X10_227 rcB_0 (by decide) (fun _ _ h => m_X10_comesBy h) rfl rfl (Nat.le_of_ble_eq_true rfl) dX10_byBoat_64 (fun v1 σ1 => ?_)
        refine z_iconst (v := (-1)) C dX10_byBoat_67 (by decide) ?_
        refine z_icmp_eq (tgt := 75) C dX10_byBoat_68 (by decide) ?_ ?_
        · refine z_iconst (v := 0) C dX10_byBoat_75 (by decide) ?_
          exact z_sub [0, 1, 2, 3, 5, 6] rfl (b_X10_byBoat_J76 K C x1 x2 x3 x5 x6 0 _ ih σ1)
        · refine z_iconst (v := 1) C dX10_byBoat_71 (by decide) ?_
          refine z_goto (tgt := 76) C dX10_byBoat_72 (by decide) ?_
          exact z_sub [0, 1, 2, 3, 5, 6] rfl (b_X10_byBoat_J76 K C x1 x2 x3 x5 x6 1 _ ih σ1)
      · refine z_iconst (v := 1) C dX10_byBoat_71 (by decide) ?_
        refine z_goto (tgt := 76) C dX10_byBoat_72 (by decide) ?_
        exact z_sub [0, 1, 2, 3, 5, 6] rfl (b_X10_byBoat_J76 K C x1 x2 x3 x5 x6 1 _ ih σ)
    · refine z_iinc (v := 1) (lv1 := [(6, .int (x6 + 1)), (0, .ref (ga (kG K) 0)), (1, .int x1), (2, .int x2), (3, .int x3), (4, .int x4), (5, .int x5)]) C dX10_byBoat_103 6 rfl (by decide) (by decide) rfl ?_
      refine z_goto (tgt := 36) C dX10_byBoat_106 (by decide) ?_
      exact z_sub [1, 2, 3, 4, 5, 6, 0] rfl (ih x4 x5 (x6 + 1) σ)
theorem b_X10_byBoat_L13 (K : zK) (C : zOk zshB K RX10 cX10_byBoat (some .int) 7 5) : ∀ (n : Nat) (x1 : Int32) (x2 : Int32) (σ : zS), Zf zshB K (f_X10_byBoat_L13 n x1 x2 σ) 13 [(0, .ref (ga (kG K) 0)), (1, .int x1), (2, .int x2)] [] σ := by
  intro n
  induction n with
  | zero => intro x1 x2 σ; rw [f_X10_byBoat_L13]; exact z_none
  | succ n ih =>
  intro x1 x2 σ
  rw [f_X10_byBoat_L13]
  refine z_iload_n C dX10_byBoat_13 2 rfl ?_
  refine z_aload_n C dX10_byBoat_14 0 rfl ?_
  refine z_getI C fd_X10_78 dX10_byBoat_15 ?_
  refine z_icmp_ge (tgt := 135) C dX10_byBoat_18 (by decide) ?_ ?_
  · refine z_iload_n C dX10_byBoat_135 1 rfl ?_
    exact z_iret C dX10_byBoat_136
  · refine z_aload_n C dX10_byBoat_21 0 rfl ?_
    refine z_iload_n C dX10_byBoat_22 2 rfl ?_
    refine z_callVi (q := 0) (As := [.int x2]) (st := []) C zy_X10_canBe zv_X10_canBe ml_X10_179 rcB_0 (by decide) (fun _ _ h => m_X10_canBe h) rfl rfl (Nat.le_of_ble_eq_true rfl) dX10_byBoat_23 (fun v1 σ1 => ?_)
    refine z_istore_n (lv1 := [(3, .int v1), (0, .ref (ga (kG K) 0)), (1, .int x1), (2, .int x2)]) C dX10_byBoat_26 (by decide) rfl ?_
    refine z_iconst (v := 0) C dX10_byBoat_27 (by decide) ?_
    refine z_istore (lv1 := [(4, .int 0), (3, .int v1), (0, .ref (ga (kG K) 0)), (1, .int x1), (2, .int x2)]) C dX10_byBoat_28 (by decide) rfl ?_
    refine z_iconst (v := 0) C dX10_byBoat_30 (by decide) ?_
    refine z_istore (lv1 := [(5, .int 0), (4, .int 0), (3, .int v1), (0, .ref (ga (kG K) 0)), (1, .int x1), (2, .int x2)]) C dX10_byBoat_31 (by decide) rfl ?_
    refine z_iconst (v := 0) C dX10_byBoat_33 (by decide) ?_
    refine z_istore (lv1 := [(6, .int 0), (5, .int 0), (4, .int 0), (3, .int v1), (0, .ref (ga (kG K) 0)), (1, .int x1), (2, .int x2)]) C dX10_byBoat_34 (by decide) rfl ?_
    exact z_sub [4, 5, 6, 3, 2, 1, 0] rfl (b_X10_byBoat_L36 K C x1 x2 v1 _ ih zfu 0 0 0 σ1)
theorem b_X10_byBoat (K : zK) (C : zOk zshB K RX10 cX10_byBoat (some .int) 7 5) (σ : zS) : Zf zshB K (f_X10_byBoat σ) 0 [(0, .ref (ga (kG K) 0))] [] σ := by
  unfold f_X10_byBoat
  refine z_aload_n C dX10_byBoat_0 0 rfl ?_
  refine z_callVz (q := 0) (As := []) (st := []) C zy_X10_areYears zv_X10_areYears ml_X10_214 rcB_0 (by decide) (fun _ _ h => m_X10_areYears h) rfl rfl (Nat.le_of_ble_eq_true rfl) dX10_byBoat_1 (fun v1 σ1 => ?_)
  refine z_if_ne (tgt := 9) C dX10_byBoat_4 (by decide) ?_ ?_
  · refine z_iconst (v := 0) C dX10_byBoat_7 (by decide) ?_
    exact z_iret C dX10_byBoat_8
  · refine z_iconst (v := 0) C dX10_byBoat_9 (by decide) ?_
    refine z_istore_n (lv1 := [(1, .int 0), (0, .ref (ga (kG K) 0))]) C dX10_byBoat_10 (by decide) rfl ?_
    refine z_iconst (v := 0) C dX10_byBoat_11 (by decide) ?_
    refine z_istore_n (lv1 := [(2, .int 0), (1, .int 0), (0, .ref (ga (kG K) 0))]) C dX10_byBoat_12 (by decide) rfl ?_
    exact z_sub [2, 1, 0] rfl (b_X10_byBoat_L13 K C zfu 0 0 σ1)
theorem m_X10_byBoat {l : Launch} {G : zG} {σ σ1 : zS} {r : Int32} (h : f_X10_byBoat σ = some (r, σ1)) : zM l G zshB yX10_byBoat cX10_byBoat 7 (some .int) 5 [.ref (ga G 0)] (zov (some .int) G r) σ σ1 :=
  z_met (by decide) (Nat.le_of_ble_eq_true rfl) h (fun K _ hG C => by subst hG; exact b_X10_byBoat K C σ)
theorem b_X10_boats (K : zK) (C : zOk zshB K RX10 cX10_boats (some .int) 1 6) (σ : zS) : Zf zshB K (f_X10_boats σ) 0 [(0, .ref (ga (kG K) 0))] [] σ := by
  unfold f_X10_boats
  refine z_aload_n C dX10_boats_0 0 rfl ?_
  refine z_callVi (q := 0) (As := []) (st := []) C zy_X10_byBoat zv_X10_byBoat ml_X10_231 rcB_0 (by decide) (fun _ _ h => m_X10_byBoat h) rfl rfl (Nat.le_of_ble_eq_true rfl) dX10_boats_1 (fun v1 σ1 => ?_)
  exact z_iret C dX10_boats_4
theorem m_X10_boats {l : Launch} {G : zG} {σ σ1 : zS} {r : Int32} (h : f_X10_boats σ = some (r, σ1)) : zM l G zshB yX10_boats cX10_boats 1 (some .int) 6 [.ref (ga G 0)] (zov (some .int) G r) σ σ1 :=
  z_met (by decide) (Nat.le_of_ble_eq_true rfl) h (fun K _ hG C => by subst hG; exact b_X10_boats K C σ)
theorem b_X10_sea_J41 (K : zK) (C : zOk zshB K RX10 cX10_sea (some .int) 4 6) (x1 : Int32) (x3 : Int32) (k9 : Int32 → Int32 → zS → Option (Int32 × zS)) (hk9 : ∀ (x2 : Int32) (x3 : Int32) (σ : zS), Zf zshB K (k9 x2 x3 σ) 9 [(0, .ref (ga (kG K) 0)), (1, .int x1), (2, .int x2), (3, .int x3)] [] σ) (σ : zS) : Zf zshB K (f_X10_sea_J41 k9 x1 x3 σ) 41 [(0, .ref (ga (kG K) 0)), (1, .int x1), (3, .int x3)] [] σ := by
  unfold f_X10_sea_J41
  refine z_aload_n C dX10_sea_41 0 rfl ?_
  refine z_getR C fd_X10_50 dX10_sea_42 ?_
  refine z_iload_n C dX10_sea_45 2 rfl ?_
  refine z_iald C sB_12 dX10_sea_46 (fun v1 => ?_)
  refine z_goto (tgt := 51) C dX10_sea_47 (by decide) ?_
  refine z_istore_n (lv1 := [(2, .int v1), (0, .ref (ga (kG K) 0)), (1, .int x1), (3, .int x3)]) C dX10_sea_51 (by decide) rfl ?_
  refine z_iinc (v := 1) (lv1 := [(3, .int (x3 + 1)), (2, .int v1), (0, .ref (ga (kG K) 0)), (1, .int x1)]) C dX10_sea_52 3 rfl (by decide) (by decide) rfl ?_
  refine z_goto (tgt := 9) C dX10_sea_55 (by decide) ?_
  exact z_sub [2, 3, 1, 0] rfl (hk9 v1 (x3 + 1) σ)
theorem b_X10_sea_L9 (K : zK) (C : zOk zshB K RX10 cX10_sea (some .int) 4 6) (x1 : Int32) : ∀ (n : Nat) (x2 : Int32) (x3 : Int32) (σ : zS), Zf zshB K (f_X10_sea_L9 x1 n x2 x3 σ) 9 [(0, .ref (ga (kG K) 0)), (1, .int x1), (2, .int x2), (3, .int x3)] [] σ := by
  intro n
  induction n with
  | zero => intro x2 x3 σ; rw [f_X10_sea_L9]; exact z_none
  | succ n ih =>
  intro x2 x3 σ
  rw [f_X10_sea_L9]
  refine z_iload_n C dX10_sea_9 3 rfl ?_
  refine z_aload_n C dX10_sea_10 0 rfl ?_
  refine z_getI C fd_X10_78 dX10_sea_11 ?_
  refine z_icmp_ge (tgt := 58) C dX10_sea_14 (by decide) ?_ ?_
  · refine z_iload_n C dX10_sea_58 2 rfl ?_
    exact z_iret C dX10_sea_59
  · refine z_iload_n C dX10_sea_17 1 rfl ?_
    refine z_iload_n C dX10_sea_18 3 rfl ?_
    refine z_ishr C dX10_sea_19 ?_
    refine z_iconst (v := 1) C dX10_sea_20 (by decide) ?_
    refine z_iand C dX10_sea_21 ?_
    refine z_iconst (v := 1) C dX10_sea_22 (by decide) ?_
    refine z_icmp_ne (tgt := 50) C dX10_sea_23 (by decide) ?_ ?_
    · refine z_iload_n C dX10_sea_26 2 rfl ?_
      refine z_iconst (v := (-1)) C dX10_sea_27 (by decide) ?_
      refine z_icmp_eq (tgt := 41) C dX10_sea_28 (by decide) ?_ ?_
      · exact z_sub [0, 1, 3] rfl (b_X10_sea_J41 K C x1 x3 _ ih σ)
      · refine z_aload_n C dX10_sea_31 0 rfl ?_
        refine z_getR C fd_X10_50 dX10_sea_32 ?_
        refine z_iload_n C dX10_sea_35 3 rfl ?_
        refine z_iald C sB_12 dX10_sea_36 (fun v1 => ?_)
        refine z_iload_n C dX10_sea_37 2 rfl ?_
        refine z_icmp_ge (tgt := 50) C dX10_sea_38 (by decide) ?_ ?_
        · refine z_iload_n C dX10_sea_50 2 rfl ?_
          refine z_istore_n (lv1 := [(2, .int x2), (0, .ref (ga (kG K) 0)), (1, .int x1), (3, .int x3)]) C dX10_sea_51 (by decide) rfl ?_
          refine z_iinc (v := 1) (lv1 := [(3, .int (x3 + 1)), (2, .int x2), (0, .ref (ga (kG K) 0)), (1, .int x1)]) C dX10_sea_52 3 rfl (by decide) (by decide) rfl ?_
          refine z_goto (tgt := 9) C dX10_sea_55 (by decide) ?_
          exact z_sub [2, 3, 1, 0] rfl (ih x2 (x3 + 1) σ)
        · exact z_sub [0, 1, 3] rfl (b_X10_sea_J41 K C x1 x3 _ ih σ)
    · refine z_iload_n C dX10_sea_50 2 rfl ?_
      refine z_istore_n (lv1 := [(2, .int x2), (0, .ref (ga (kG K) 0)), (1, .int x1), (3, .int x3)]) C dX10_sea_51 (by decide) rfl ?_
      refine z_iinc (v := 1) (lv1 := [(3, .int (x3 + 1)), (2, .int x2), (0, .ref (ga (kG K) 0)), (1, .int x1)]) C dX10_sea_52 3 rfl (by decide) (by decide) rfl ?_
      refine z_goto (tgt := 9) C dX10_sea_55 (by decide) ?_
      exact z_sub [2, 3, 1, 0] rfl (ih x2 (x3 + 1) σ)
theorem b_X10_sea (K : zK) (C : zOk zshB K RX10 cX10_sea (some .int) 4 6) (σ : zS) : Zf zshB K (f_X10_sea σ) 0 [(0, .ref (ga (kG K) 0))] [] σ := by
  unfold f_X10_sea
  refine z_aload_n C dX10_sea_0 0 rfl ?_
  refine z_callVi (q := 0) (As := []) (st := []) C zy_X10_byBoat zv_X10_byBoat ml_X10_231 rcB_0 (by decide) (fun _ _ h => m_X10_byBoat h) rfl rfl (Nat.le_of_ble_eq_true rfl) dX10_sea_1 (fun v1 σ1 => ?_)
  refine z_istore_n (lv1 := [(1, .int v1), (0, .ref (ga (kG K) 0))]) C dX10_sea_4 (by decide) rfl ?_
  refine z_iconst (v := (-1)) C dX10_sea_5 (by decide) ?_
  refine z_istore_n (lv1 := [(2, .int (-1)), (1, .int v1), (0, .ref (ga (kG K) 0))]) C dX10_sea_6 (by decide) rfl ?_
  refine z_iconst (v := 0) C dX10_sea_7 (by decide) ?_
  refine z_istore_n (lv1 := [(3, .int 0), (2, .int (-1)), (1, .int v1), (0, .ref (ga (kG K) 0))]) C dX10_sea_8 (by decide) rfl ?_
  exact z_sub [3, 2, 1, 0] rfl (b_X10_sea_L9 K C v1 zfu (-1) 0 σ1)
theorem m_X10_sea {l : Launch} {G : zG} {σ σ1 : zS} {r : Int32} (h : f_X10_sea σ = some (r, σ1)) : zM l G zshB yX10_sea cX10_sea 4 (some .int) 6 [.ref (ga G 0)] (zov (some .int) G r) σ σ1 :=
  z_met (by decide) (Nat.le_of_ble_eq_true rfl) h (fun K _ hG C => by subst hG; exact b_X10_sea K C σ)
theorem b_X10_next_J38 (K : zK) (C : zOk zshB K RX10 cX10_next (some .int) 5 3) (x1 : Int32) (x2 : Int32) (x3 : Int32) (s0 : Int32) (k4 : Int32 → Int32 → zS → Option (Int32 × zS)) (hk4 : ∀ (x1 : Int32) (x2 : Int32) (σ : zS), Zf zshB K (k4 x1 x2 σ) 4 [(0, .ref (ga (kG K) 0)), (1, .int x1), (2, .int x2)] [] σ) (σ : zS) : Zf zshB K (f_X10_next_J38 k4 x1 x2 x3 s0 σ) 38 [(0, .ref (ga (kG K) 0)), (1, .int x1), (2, .int x2), (3, .int x3)] [.int s0] σ := by
  unfold f_X10_next_J38
  refine z_istore (lv1 := [(4, .int s0), (0, .ref (ga (kG K) 0)), (1, .int x1), (2, .int x2), (3, .int x3)]) C dX10_next_38 (by decide) rfl ?_
  refine z_iload_n C dX10_next_40 4 rfl ?_
  refine z_iload C dX10_next_41 0 rfl ?_
  refine z_icmp_gt (tgt := 72) C dX10_next_43 (by decide) ?_ ?_
  · refine z_iload_n C dX10_next_72 3 rfl ?_
    refine z_goto (tgt := 77) C dX10_next_73 (by decide) ?_
    refine z_istore_n (lv1 := [(1, .int x2), (4, .int s0), (0, .ref (ga (kG K) 0)), (2, .int x2), (3, .int x3)]) C dX10_next_77 (by decide) rfl ?_
    refine z_iinc (v := 1) (lv1 := [(2, .int (x2 + 1)), (1, .int x2), (4, .int s0), (0, .ref (ga (kG K) 0)), (3, .int x3)]) C dX10_next_78 3 rfl (by decide) (by decide) rfl ?_
    refine z_goto (tgt := 4) C dX10_next_81 (by decide) ?_
    exact z_sub [3, 1, 0] rfl (hk4 x2 (x2 + 1) σ)
  · refine z_iload_n C dX10_next_46 4 rfl ?_
    refine z_iload C dX10_next_47 0 rfl ?_
    refine z_icmp_ne (tgt := 76) C dX10_next_49 (by decide) ?_ ?_
    · refine z_iload_n C dX10_next_52 2 rfl ?_
      refine z_iconst (v := (-1)) C dX10_next_53 (by decide) ?_
      refine z_icmp_eq (tgt := 76) C dX10_next_54 (by decide) ?_ ?_
      · refine z_iload_n C dX10_next_76 2 rfl ?_
        refine z_istore_n (lv1 := [(1, .int x1), (4, .int s0), (0, .ref (ga (kG K) 0)), (2, .int x2), (3, .int x3)]) C dX10_next_77 (by decide) rfl ?_
        refine z_iinc (v := 1) (lv1 := [(2, .int (x2 + 1)), (1, .int x1), (4, .int s0), (0, .ref (ga (kG K) 0)), (3, .int x3)]) C dX10_next_78 3 rfl (by decide) (by decide) rfl ?_
        refine z_goto (tgt := 4) C dX10_next_81 (by decide) ?_
        exact z_sub [3, 1, 0] rfl (hk4 x1 (x2 + 1) σ)
      · refine z_aload_n C dX10_next_57 1 rfl ?_
        refine z_iload_n C dX10_next_58 3 rfl ?_
        refine z_iconst (v := 4) C dX10_next_59 (by decide) ?_
        refine z_callVi (q := 0) (As := [.int x2, .int 4]) (st := []) C zy_X10_at zv_X10_at ml_X10_172 rcB_0 (by decide) (fun _ _ h => m_X10_at h) rfl rfl (Nat.le_of_ble_eq_true rfl) dX10_next_60 (fun v1 σ1 => ?_)
        refine z_aload_n C dX10_next_63 1 rfl ?_
        refine z_iload_n C dX10_next_64 2 rfl ?_
        refine z_iconst (v := 4) C dX10_next_65 (by decide) ?_
        refine z_callVi (q := 0) (As := [.int x1, .int 4]) (st := [.int v1]) C zy_X10_at zv_X10_at ml_X10_172 rcB_0 (by decide) (fun _ _ h => m_X10_at h) rfl rfl (Nat.le_of_ble_eq_true rfl) dX10_next_66 (fun v2 σ2 => ?_)
        refine z_icmp_le (tgt := 76) C dX10_next_69 (by decide) ?_ ?_
        · refine z_iload_n C dX10_next_76 2 rfl ?_
          refine z_istore_n (lv1 := [(1, .int x1), (4, .int s0), (0, .ref (ga (kG K) 0)), (2, .int x2), (3, .int x3)]) C dX10_next_77 (by decide) rfl ?_
          refine z_iinc (v := 1) (lv1 := [(2, .int (x2 + 1)), (1, .int x1), (4, .int s0), (0, .ref (ga (kG K) 0)), (3, .int x3)]) C dX10_next_78 3 rfl (by decide) (by decide) rfl ?_
          refine z_goto (tgt := 4) C dX10_next_81 (by decide) ?_
          exact z_sub [3, 1, 0] rfl (hk4 x1 (x2 + 1) σ2)
        · refine z_iload_n C dX10_next_72 3 rfl ?_
          refine z_goto (tgt := 77) C dX10_next_73 (by decide) ?_
          refine z_istore_n (lv1 := [(1, .int x2), (4, .int s0), (0, .ref (ga (kG K) 0)), (2, .int x2), (3, .int x3)]) C dX10_next_77 (by decide) rfl ?_
          refine z_iinc (v := 1) (lv1 := [(2, .int (x2 + 1)), (1, .int x2), (4, .int s0), (0, .ref (ga (kG K) 0)), (3, .int x3)]) C dX10_next_78 3 rfl (by decide) (by decide) rfl ?_
          refine z_goto (tgt := 4) C dX10_next_81 (by decide) ?_
          exact z_sub [3, 1, 0] rfl (hk4 x2 (x2 + 1) σ2)
    · refine z_iload_n C dX10_next_76 2 rfl ?_
      refine z_istore_n (lv1 := [(1, .int x1), (4, .int s0), (0, .ref (ga (kG K) 0)), (2, .int x2), (3, .int x3)]) C dX10_next_77 (by decide) rfl ?_
      refine z_iinc (v := 1) (lv1 := [(2, .int (x2 + 1)), (1, .int x1), (4, .int s0), (0, .ref (ga (kG K) 0)), (3, .int x3)]) C dX10_next_78 3 rfl (by decide) (by decide) rfl ?_
      refine z_goto (tgt := 4) C dX10_next_81 (by decide) ?_
      exact z_sub [3, 1, 0] rfl (hk4 x1 (x2 + 1) σ)
theorem b_X10_next_L4 (K : zK) (C : zOk zshB K RX10 cX10_next (some .int) 5 3) : ∀ (n : Nat) (x1 : Int32) (x2 : Int32) (σ : zS), Zf zshB K (f_X10_next_L4 n x1 x2 σ) 4 [(0, .ref (ga (kG K) 0)), (1, .int x1), (2, .int x2)] [] σ := by
  intro n
  induction n with
  | zero => intro x1 x2 σ; rw [f_X10_next_L4]; exact z_none
  | succ n ih =>
  intro x1 x2 σ
  rw [f_X10_next_L4]
  refine z_iload_n C dX10_next_4 2 rfl ?_
  refine z_aload_n C dX10_next_5 0 rfl ?_
  refine z_getI C fd_X10_78 dX10_next_6 ?_
  refine z_icmp_ge (tgt := 84) C dX10_next_9 (by decide) ?_ ?_
  · refine z_iload_n C dX10_next_84 1 rfl ?_
    exact z_iret C dX10_next_85
  · refine z_aload_n C dX10_next_12 0 rfl ?_
    refine z_iload_n C dX10_next_13 2 rfl ?_
    refine z_callVi (q := 0) (As := [.int x2]) (st := []) C zy_X10_canBe zv_X10_canBe ml_X10_179 rcB_0 (by decide) (fun _ _ h => m_X10_canBe h) rfl rfl (Nat.le_of_ble_eq_true rfl) dX10_next_14 (fun v1 σ1 => ?_)
    refine z_callSi (As := [.int v1]) (st := []) C zy_X10_bits zs_X10_bits ml_X10_183 (by decide) (fun _ _ h => m_X10_bits h) rfl rfl (Nat.le_of_ble_eq_true rfl) dX10_next_17 (fun v2 σ2 => ?_)
    refine z_istore_n (lv1 := [(3, .int v2), (0, .ref (ga (kG K) 0)), (1, .int x1), (2, .int x2)]) C dX10_next_20 (by decide) rfl ?_
    refine z_iload_n C dX10_next_21 2 rfl ?_
    refine z_iconst (v := (-1)) C dX10_next_22 (by decide) ?_
    refine z_icmp_ne (tgt := 30) C dX10_next_23 (by decide) ?_ ?_
    · refine z_iconst (v := 1) C dX10_next_26 (by decide) ?_
      refine z_goto (tgt := 38) C dX10_next_27 (by decide) ?_
      exact z_sub [1, 2, 3, 0] rfl (b_X10_next_J38 K C x1 x2 v2 1 _ ih σ2)
    · refine z_aload_n C dX10_next_30 1 rfl ?_
      refine z_iload_n C dX10_next_31 2 rfl ?_
      refine z_callVi (q := 0) (As := [.int x1]) (st := []) C zy_X10_canBe zv_X10_canBe ml_X10_179 rcB_0 (by decide) (fun _ _ h => m_X10_canBe h) rfl rfl (Nat.le_of_ble_eq_true rfl) dX10_next_32 (fun v3 σ3 => ?_)
      refine z_callSi (As := [.int v3]) (st := []) C zy_X10_bits zs_X10_bits ml_X10_183 (by decide) (fun _ _ h => m_X10_bits h) rfl rfl (Nat.le_of_ble_eq_true rfl) dX10_next_35 (fun v4 σ4 => ?_)
      exact z_sub [1, 2, 3, 0] rfl (b_X10_next_J38 K C x1 x2 v2 v4 _ ih σ4)
theorem b_X10_next (K : zK) (C : zOk zshB K RX10 cX10_next (some .int) 5 3) (σ : zS) : Zf zshB K (f_X10_next σ) 0 [(0, .ref (ga (kG K) 0))] [] σ := by
  unfold f_X10_next
  refine z_iconst (v := (-1)) C dX10_next_0 (by decide) ?_
  refine z_istore_n (lv1 := [(1, .int (-1)), (0, .ref (ga (kG K) 0))]) C dX10_next_1 (by decide) rfl ?_
  refine z_iconst (v := 0) C dX10_next_2 (by decide) ?_
  refine z_istore_n (lv1 := [(2, .int 0), (1, .int (-1)), (0, .ref (ga (kG K) 0))]) C dX10_next_3 (by decide) rfl ?_
  exact z_sub [2, 1, 0] rfl (b_X10_next_L4 K C zfu (-1) 0 σ)
theorem m_X10_next {l : Launch} {G : zG} {σ σ1 : zS} {r : Int32} (h : f_X10_next σ = some (r, σ1)) : zM l G zshB yX10_next cX10_next 5 (some .int) 3 [.ref (ga G 0)] (zov (some .int) G r) σ σ1 :=
  z_met (by decide) (Nat.le_of_ble_eq_true rfl) h (fun K _ hG C => by subst hG; exact b_X10_next K C σ)
theorem b_X10_counts (K : zK) (C : zOk zshB K RX10 cX10_counts (some .int) 5 2) (x1 : Int32) (x2 : Int32) (x3 : Int32) (x4 : Int32) (σ : zS) : Zf zshB K (f_X10_counts x1 x2 x3 x4 σ) 0 [(0, .ref (ga (kG K) 0)), (1, .int x1), (2, .int x2), (3, .int x3), (4, .int x4)] [] σ := by
  unfold f_X10_counts
  refine z_iload_n C dX10_counts_0 1 rfl ?_
  refine z_callSz (As := [.int x1]) (st := []) C zy_X10_isPlace zs_X10_isPlace ml_X10_156 (by decide) (fun _ _ h => m_X10_isPlace h) rfl rfl (Nat.le_of_ble_eq_true rfl) dX10_counts_1 (fun v1 σ1 => ?_)
  refine z_if_eq (tgt := 15) C dX10_counts_4 (by decide) ?_ ?_
  · refine z_bipush (v := (-2)) C dX10_counts_15 (by decide) ?_
    exact z_iret C dX10_counts_17
  · refine z_aload_n C dX10_counts_7 0 rfl ?_
    refine z_iload_n C dX10_counts_8 2 rfl ?_
    refine z_callVz (q := 0) (As := [.int x2]) (st := []) C zy_X10_isFlow zv_X10_isFlow ml_X10_159 rcB_0 (by decide) (fun _ _ h => m_X10_isFlow h) rfl rfl (Nat.le_of_ble_eq_true rfl) dX10_counts_9 (fun v2 σ2 => ?_)
    refine z_if_ne (tgt := 18) C dX10_counts_12 (by decide) ?_ ?_
    · refine z_bipush (v := (-2)) C dX10_counts_15 (by decide) ?_
      exact z_iret C dX10_counts_17
    · refine z_iload C dX10_counts_18 4 rfl ?_
      refine z_iconst (v := 1) C dX10_counts_20 (by decide) ?_
      refine z_sipush (v := 999) C dX10_counts_21 (by decide) ?_
      refine z_callSz (As := [.int x4, .int 1, .int 999]) (st := []) C zy_X10_in zs_X10_in ml_X10_71 (by decide) (fun _ _ h => m_X10_in h) rfl rfl (Nat.le_of_ble_eq_true rfl) dX10_counts_24 (fun v3 σ3 => ?_)
      refine z_if_eq (tgt := 40) C dX10_counts_27 (by decide) ?_ ?_
      · refine z_bipush (v := (-3)) C dX10_counts_40 (by decide) ?_
        exact z_iret C dX10_counts_42
      · refine z_iload_n C dX10_counts_30 3 rfl ?_
        refine z_iconst (v := 0) C dX10_counts_31 (by decide) ?_
        refine z_iload C dX10_counts_32 4 rfl ?_
        refine z_callSz (As := [.int x3, .int 0, .int x4]) (st := []) C zy_X10_in zs_X10_in ml_X10_71 (by decide) (fun _ _ h => m_X10_in h) rfl rfl (Nat.le_of_ble_eq_true rfl) dX10_counts_34 (fun v4 σ4 => ?_)
        refine z_if_ne (tgt := 43) C dX10_counts_37 (by decide) ?_ ?_
        · refine z_bipush (v := (-3)) C dX10_counts_40 (by decide) ?_
          exact z_iret C dX10_counts_42
        · refine z_aload_n C dX10_counts_43 0 rfl ?_
          refine z_getR C fd_X10_65 dX10_counts_44 ?_
          refine z_bipush (v := 10) C dX10_counts_47 (by decide) ?_
          refine z_iload_n C dX10_counts_49 2 rfl ?_
          refine z_imul C dX10_counts_50 ?_
          refine z_iload_n C dX10_counts_51 1 rfl ?_
          refine z_iadd C dX10_counts_52 ?_
          refine z_iload_n C dX10_counts_53 3 rfl ?_
          refine z_iast C sB_17 dX10_counts_54 (fun σ5 => ?_)
          refine z_aload_n C dX10_counts_55 0 rfl ?_
          refine z_getR C fd_X10_68 dX10_counts_56 ?_
          refine z_bipush (v := 10) C dX10_counts_59 (by decide) ?_
          refine z_iload_n C dX10_counts_61 2 rfl ?_
          refine z_imul C dX10_counts_62 ?_
          refine z_iload_n C dX10_counts_63 1 rfl ?_
          refine z_iadd C dX10_counts_64 ?_
          refine z_iload C dX10_counts_65 4 rfl ?_
          refine z_iast C sB_18 dX10_counts_67 (fun σ6 => ?_)
          refine z_iconst (v := 1) C dX10_counts_68 (by decide) ?_
          exact z_iret C dX10_counts_69
theorem m_X10_counts {l : Launch} {G : zG} {x1 : Int32} {x2 : Int32} {x3 : Int32} {x4 : Int32} {σ σ1 : zS} {r : Int32} (h : f_X10_counts x1 x2 x3 x4 σ = some (r, σ1)) : zM l G zshB yX10_counts cX10_counts 5 (some .int) 2 [.ref (ga G 0), .int x1, .int x2, .int x3, .int x4] (zov (some .int) G r) σ σ1 :=
  z_met (by decide) (Nat.le_of_ble_eq_true rfl) h (fun K _ hG C => by subst hG; exact b_X10_counts K C x1 x2 x3 x4 σ)
theorem b_X10_shareBy_L54 (K : zK) (C : zOk zshB K RX10 cX10_shareBy (some .int) 5 1) : ∀ (n : Nat) (x3 : Int32) (x4 : Int32) (σ : zS), Zf zshB K (f_X10_shareBy_L54 n x3 x4 σ) 54 [(3, .int x3), (4, .int x4)] [] σ := by
  intro n
  induction n with
  | zero => intro x3 x4 σ; rw [f_X10_shareBy_L54]; exact z_none
  | succ n ih =>
  intro x3 x4 σ
  rw [f_X10_shareBy_L54]
  refine z_iload C dX10_shareBy_54 1 rfl ?_
  refine z_if_le (tgt := 73) C dX10_shareBy_56 (by decide) ?_ ?_
  · refine z_iload_n C dX10_shareBy_73 0 rfl ?_
    exact z_iret C dX10_shareBy_74
  · refine z_iload_n C dX10_shareBy_59 0 rfl ?_
    refine z_if_le (tgt := 73) C dX10_shareBy_60 (by decide) ?_ ?_
    · refine z_iload_n C dX10_shareBy_73 0 rfl ?_
      exact z_iret C dX10_shareBy_74
    · refine z_iload_n C dX10_shareBy_63 0 rfl ?_
      refine z_iconst (v := 2) C dX10_shareBy_64 (by decide) ?_
      refine z_idiv C dX10_shareBy_65 (fun v1 => ?_)
      refine z_istore_n (lv1 := [(3, .int v1), (4, .int x4)]) C dX10_shareBy_66 (by decide) rfl ?_
      refine z_iinc (v := (-1)) (lv1 := [(4, .int (x4 + (-1))), (3, .int v1)]) C dX10_shareBy_67 1 rfl (by decide) (by decide) rfl ?_
      refine z_goto (tgt := 54) C dX10_shareBy_70 (by decide) ?_
      exact z_sub [1, 0] rfl (ih v1 (x4 + (-1)) σ)
theorem b_X10_shareBy (K : zK) (C : zOk zshB K RX10 cX10_shareBy (some .int) 5 1) (x0 : Int32) (x1 : Int32) (x2 : Int32) (σ : zS) : Zf zshB K (f_X10_shareBy x0 x1 x2 σ) 0 [(0, .int x0), (1, .int x1), (2, .int x2)] [] σ := by
  unfold f_X10_shareBy
  refine z_iload_n C dX10_shareBy_0 0 rfl ?_
  refine z_iconst (v := 1) C dX10_shareBy_1 (by decide) ?_
  refine z_icmp_ne (tgt := 20) C dX10_shareBy_2 (by decide) ?_ ?_
  · refine z_iconst (v := 0) C dX10_shareBy_5 (by decide) ?_
    refine z_sipush (v := 1000) C dX10_shareBy_6 (by decide) ?_
    refine z_iload_n C dX10_shareBy_9 1 rfl ?_
    refine z_iload_n C dX10_shareBy_10 2 rfl ?_
    refine z_imul C dX10_shareBy_11 ?_
    refine z_bipush (v := 10) C dX10_shareBy_12 (by decide) ?_
    refine z_idiv C dX10_shareBy_14 (fun v1 => ?_)
    refine z_isub C dX10_shareBy_15 ?_
    refine z_callSi (As := [.int 0, .int (1000 - v1)]) (st := []) C zy_X10_greater zs_X10_greater ml_X10_199 (by decide) (fun _ _ h => m_X10_greater h) rfl rfl (Nat.le_of_ble_eq_true rfl) dX10_shareBy_16 (fun v2 σ2 => ?_)
    exact z_iret C dX10_shareBy_19
  · refine z_iload_n C dX10_shareBy_20 0 rfl ?_
    refine z_iconst (v := 2) C dX10_shareBy_21 (by decide) ?_
    refine z_icmp_ne (tgt := 42) C dX10_shareBy_22 (by decide) ?_ ?_
    · refine z_iload_n C dX10_shareBy_25 2 rfl ?_
      refine z_bipush (v := 10) C dX10_shareBy_26 (by decide) ?_
      refine z_iload_n C dX10_shareBy_28 1 rfl ?_
      refine z_imul C dX10_shareBy_29 ?_
      refine z_icmp_gt (tgt := 39) C dX10_shareBy_30 (by decide) ?_ ?_
      · refine z_bipush (v := 100) C dX10_shareBy_39 (by decide) ?_
        exact z_iret C dX10_shareBy_41
      · refine z_sipush (v := 900) C dX10_shareBy_33 (by decide) ?_
        refine z_goto (tgt := 41) C dX10_shareBy_36 (by decide) ?_
        exact z_iret C dX10_shareBy_41
    · refine z_sipush (v := 1000) C dX10_shareBy_42 (by decide) ?_
      refine z_istore_n (lv1 := [(3, .int 1000), (0, .int x0), (1, .int x1), (2, .int x2)]) C dX10_shareBy_45 (by decide) rfl ?_
      refine z_iload_n C dX10_shareBy_46 3 rfl ?_
      refine z_bipush (v := 10) C dX10_shareBy_47 (by decide) ?_
      refine z_iload_n C dX10_shareBy_49 2 rfl ?_
      refine z_imul C dX10_shareBy_50 ?_
      refine z_idiv C dX10_shareBy_51 (fun v1 => ?_)
      refine z_istore (lv1 := [(4, .int v1), (3, .int 1000), (0, .int x0), (1, .int x1), (2, .int x2)]) C dX10_shareBy_52 (by decide) rfl ?_
      exact z_sub [1, 0] rfl (b_X10_shareBy_L54 K C zfu 1000 v1 σ)
theorem m_X10_shareBy {l : Launch} {G : zG} {x0 : Int32} {x1 : Int32} {x2 : Int32} {σ σ1 : zS} {r : Int32} (h : f_X10_shareBy x0 x1 x2 σ = some (r, σ1)) : zM l G zshB yX10_shareBy cX10_shareBy 5 (some .int) 1 [.int x0, .int x1, .int x2] (zov (some .int) G r) σ σ1 :=
  z_met (by decide) (Nat.le_of_ble_eq_true rfl) h (fun K _ hG C => by subst hG; exact b_X10_shareBy K C x0 x1 x2 σ)
theorem b_X10_missBy_L6 (K : zK) (C : zOk zshB K RX10 cX10_missBy (some .int) 7 2) (x1 : Int32) (x2 : Int32) (x3 : Int32) : ∀ (n : Nat) (x4 : Int32) (x5 : Int32) (σ : zS), Zf zshB K (f_X10_missBy_L6 x1 x2 x3 n x4 x5 σ) 6 [(0, .ref (ga (kG K) 0)), (1, .int x1), (2, .int x2), (3, .int x3), (4, .int x4), (5, .int x5)] [] σ := by
  intro n
  induction n with
  | zero => intro x4 x5 σ; rw [f_X10_missBy_L6]; exact z_none
  | succ n ih =>
  intro x4 x5 σ
  rw [f_X10_missBy_L6]
  refine z_iload C dX10_missBy_6 5 rfl ?_
  refine z_bipush (v := 10) C dX10_missBy_8 (by decide) ?_
  refine z_icmp_ge (tgt := 107) C dX10_missBy_10 (by decide) ?_ ?_
  · refine z_iload C dX10_missBy_107 4 rfl ?_
    exact z_iret C dX10_missBy_109
  · refine z_aload_n C dX10_missBy_13 0 rfl ?_
    refine z_getR C fd_X10_68 dX10_missBy_14 ?_
    refine z_bipush (v := 10) C dX10_missBy_17 (by decide) ?_
    refine z_iload_n C dX10_missBy_19 1 rfl ?_
    refine z_imul C dX10_missBy_20 ?_
    refine z_iload C dX10_missBy_21 5 rfl ?_
    refine z_iadd C dX10_missBy_23 ?_
    refine z_iald C sB_18 dX10_missBy_24 (fun v1 => ?_)
    refine z_if_le (tgt := 101) C dX10_missBy_25 (by decide) ?_ ?_
    · refine z_iinc (v := 1) (lv1 := [(5, .int (x5 + 1)), (0, .ref (ga (kG K) 0)), (1, .int x1), (2, .int x2), (3, .int x3), (4, .int x4)]) C dX10_missBy_101 5 rfl (by decide) (by decide) rfl ?_
      refine z_goto (tgt := 6) C dX10_missBy_104 (by decide) ?_
      exact z_sub [1, 2, 3, 4, 5, 0] rfl (ih x4 (x5 + 1) σ)
    · refine z_aload_n C dX10_missBy_28 0 rfl ?_
      refine z_getR C fd_X10_62 dX10_missBy_29 ?_
      refine z_iload C dX10_missBy_32 5 rfl ?_
      refine z_iald C sB_16 dX10_missBy_34 (fun v2 => ?_)
      refine z_iconst (v := (-1)) C dX10_missBy_35 (by decide) ?_
      refine z_icmp_eq (tgt := 101) C dX10_missBy_36 (by decide) ?_ ?_
      · refine z_iinc (v := 1) (lv1 := [(5, .int (x5 + 1)), (0, .ref (ga (kG K) 0)), (1, .int x1), (2, .int x2), (3, .int x3), (4, .int x4)]) C dX10_missBy_101 5 rfl (by decide) (by decide) rfl ?_
        refine z_goto (tgt := 6) C dX10_missBy_104 (by decide) ?_
        exact z_sub [1, 2, 3, 4, 5, 0] rfl (ih x4 (x5 + 1) σ)
      · refine z_sipush (v := 1000) C dX10_missBy_39 (by decide) ?_
        refine z_aload_n C dX10_missBy_42 0 rfl ?_
        refine z_getR C fd_X10_65 dX10_missBy_43 ?_
        refine z_bipush (v := 10) C dX10_missBy_46 (by decide) ?_
        refine z_iload_n C dX10_missBy_48 1 rfl ?_
        refine z_imul C dX10_missBy_49 ?_
        refine z_iload C dX10_missBy_50 5 rfl ?_
        refine z_iadd C dX10_missBy_52 ?_
        refine z_iald C sB_17 dX10_missBy_53 (fun v3 => ?_)
        refine z_imul C dX10_missBy_54 ?_
        refine z_aload_n C dX10_missBy_55 0 rfl ?_
        refine z_getR C fd_X10_68 dX10_missBy_56 ?_
        refine z_bipush (v := 10) C dX10_missBy_59 (by decide) ?_
        refine z_iload_n C dX10_missBy_61 1 rfl ?_
        refine z_imul C dX10_missBy_62 ?_
        refine z_iload C dX10_missBy_63 5 rfl ?_
        refine z_iadd C dX10_missBy_65 ?_
        refine z_iald C sB_18 dX10_missBy_66 (fun v4 => ?_)
        refine z_idiv C dX10_missBy_67 (fun v5 => ?_)
        refine z_iload_n C dX10_missBy_68 2 rfl ?_
        refine z_iload_n C dX10_missBy_69 3 rfl ?_
        refine z_aload_n C dX10_missBy_70 0 rfl ?_
        refine z_getR C fd_X10_62 dX10_missBy_71 ?_
        refine z_iload C dX10_missBy_74 5 rfl ?_
        refine z_iald C sB_16 dX10_missBy_76 (fun v6 => ?_)
        refine z_callSi (As := [.int x2, .int x3, .int v6]) (st := [.int v5]) C zy_X10_shareBy zs_X10_shareBy ml_X10_235 (by decide) (fun _ _ h => m_X10_shareBy h) rfl rfl (Nat.le_of_ble_eq_true rfl) dX10_missBy_77 (fun v7 σ7 => ?_)
        refine z_isub C dX10_missBy_80 ?_
        refine z_istore (lv1 := [(6, .int (v5 - v7)), (0, .ref (ga (kG K) 0)), (1, .int x1), (2, .int x2), (3, .int x3), (4, .int x4), (5, .int x5)]) C dX10_missBy_81 (by decide) rfl ?_
        refine z_iload C dX10_missBy_83 5 rfl ?_
        refine z_iload C dX10_missBy_85 0 rfl ?_
        refine z_if_ge (tgt := 96) C dX10_missBy_87 (by decide) ?_ ?_
        · refine z_iload C dX10_missBy_96 0 rfl ?_
          refine z_iadd C dX10_missBy_98 ?_
          refine z_istore (lv1 := [(4, .int (x4 + (v5 - v7))), (6, .int (v5 - v7)), (0, .ref (ga (kG K) 0)), (1, .int x1), (2, .int x2), (3, .int x3), (5, .int x5)]) C dX10_missBy_99 (by decide) rfl ?_
          refine z_iinc (v := 1) (lv1 := [(5, .int (x5 + 1)), (4, .int (x4 + (v5 - v7))), (6, .int (v5 - v7)), (0, .ref (ga (kG K) 0)), (1, .int x1), (2, .int x2), (3, .int x3)]) C dX10_missBy_101 6 rfl (by decide) (by decide) rfl ?_
          refine z_goto (tgt := 6) C dX10_missBy_104 (by decide) ?_
          exact z_sub [3, 4, 5, 6, 1, 0] rfl (ih (x4 + (v5 - v7)) (x5 + 1) σ7)
        · refine z_iload C dX10_missBy_90 0 rfl ?_
          refine z_ineg C dX10_missBy_92 ?_
          refine z_goto (tgt := 98) C dX10_missBy_93 (by decide) ?_
          refine z_iadd C dX10_missBy_98 ?_
          refine z_istore (lv1 := [(4, .int (x4 + (-(v5 - v7)))), (6, .int (v5 - v7)), (0, .ref (ga (kG K) 0)), (1, .int x1), (2, .int x2), (3, .int x3), (5, .int x5)]) C dX10_missBy_99 (by decide) rfl ?_
          refine z_iinc (v := 1) (lv1 := [(5, .int (x5 + 1)), (4, .int (x4 + (-(v5 - v7)))), (6, .int (v5 - v7)), (0, .ref (ga (kG K) 0)), (1, .int x1), (2, .int x2), (3, .int x3)]) C dX10_missBy_101 6 rfl (by decide) (by decide) rfl ?_
          refine z_goto (tgt := 6) C dX10_missBy_104 (by decide) ?_
          exact z_sub [3, 4, 5, 6, 1, 0] rfl (ih (x4 + (-(v5 - v7))) (x5 + 1) σ7)
theorem b_X10_missBy (K : zK) (C : zOk zshB K RX10 cX10_missBy (some .int) 7 2) (x1 : Int32) (x2 : Int32) (x3 : Int32) (σ : zS) : Zf zshB K (f_X10_missBy x1 x2 x3 σ) 0 [(0, .ref (ga (kG K) 0)), (1, .int x1), (2, .int x2), (3, .int x3)] [] σ := by
  unfold f_X10_missBy
  refine z_iconst (v := 0) C dX10_missBy_0 (by decide) ?_
  refine z_istore (lv1 := [(4, .int 0), (0, .ref (ga (kG K) 0)), (1, .int x1), (2, .int x2), (3, .int x3)]) C dX10_missBy_1 (by decide) rfl ?_
  refine z_iconst (v := 0) C dX10_missBy_3 (by decide) ?_
  refine z_istore (lv1 := [(5, .int 0), (4, .int 0), (0, .ref (ga (kG K) 0)), (1, .int x1), (2, .int x2), (3, .int x3)]) C dX10_missBy_4 (by decide) rfl ?_
  exact z_sub [2, 3, 4, 5, 1, 0] rfl (b_X10_missBy_L6 K C x1 x2 x3 zfu 0 0 σ)
theorem m_X10_missBy {l : Launch} {G : zG} {x1 : Int32} {x2 : Int32} {x3 : Int32} {σ σ1 : zS} {r : Int32} (h : f_X10_missBy x1 x2 x3 σ = some (r, σ1)) : zM l G zshB yX10_missBy cX10_missBy 7 (some .int) 2 [.ref (ga G 0), .int x1, .int x2, .int x3] (zov (some .int) G r) σ σ1 :=
  z_met (by decide) (Nat.le_of_ble_eq_true rfl) h (fun K _ hG C => by subst hG; exact b_X10_missBy K C x1 x2 x3 σ)
theorem b_X10_miss (K : zK) (C : zOk zshB K RX10 cX10_miss (some .int) 4 3) (x1 : Int32) (x2 : Int32) (x3 : Int32) (σ : zS) : Zf zshB K (f_X10_miss x1 x2 x3 σ) 0 [(0, .ref (ga (kG K) 0)), (1, .int x1), (2, .int x2), (3, .int x3)] [] σ := by
  unfold f_X10_miss
  refine z_aload_n C dX10_miss_0 0 rfl ?_
  refine z_iload_n C dX10_miss_1 1 rfl ?_
  refine z_callVz (q := 0) (As := [.int x1]) (st := []) C zy_X10_isFlow zv_X10_isFlow ml_X10_159 rcB_0 (by decide) (fun _ _ h => m_X10_isFlow h) rfl rfl (Nat.le_of_ble_eq_true rfl) dX10_miss_2 (fun v1 σ1 => ?_)
  refine z_if_ne (tgt := 11) C dX10_miss_5 (by decide) ?_ ?_
  · refine z_bipush (v := (-2)) C dX10_miss_8 (by decide) ?_
    exact z_iret C dX10_miss_10
  · refine z_iload_n C dX10_miss_11 2 rfl ?_
    refine z_iconst (v := 0) C dX10_miss_12 (by decide) ?_
    refine z_iconst (v := 2) C dX10_miss_13 (by decide) ?_
    refine z_callSz (As := [.int x2, .int 0, .int 2]) (st := []) C zy_X10_in zs_X10_in ml_X10_71 (by decide) (fun _ _ h => m_X10_in h) rfl rfl (Nat.le_of_ble_eq_true rfl) dX10_miss_14 (fun v2 σ2 => ?_)
    refine z_if_eq (tgt := 30) C dX10_miss_17 (by decide) ?_ ?_
    · refine z_bipush (v := (-3)) C dX10_miss_30 (by decide) ?_
      exact z_iret C dX10_miss_32
    · refine z_iload_n C dX10_miss_20 3 rfl ?_
      refine z_iconst (v := 1) C dX10_miss_21 (by decide) ?_
      refine z_bipush (v := 99) C dX10_miss_22 (by decide) ?_
      refine z_callSz (As := [.int x3, .int 1, .int 99]) (st := []) C zy_X10_in zs_X10_in ml_X10_71 (by decide) (fun _ _ h => m_X10_in h) rfl rfl (Nat.le_of_ble_eq_true rfl) dX10_miss_24 (fun v3 σ3 => ?_)
      refine z_if_ne (tgt := 33) C dX10_miss_27 (by decide) ?_ ?_
      · refine z_bipush (v := (-3)) C dX10_miss_30 (by decide) ?_
        exact z_iret C dX10_miss_32
      · refine z_aload_n C dX10_miss_33 0 rfl ?_
        refine z_aload_n C dX10_miss_34 0 rfl ?_
        refine z_getR C fd_X10_16 dX10_miss_35 ?_
        refine z_bipush (v := 6) C dX10_miss_38 (by decide) ?_
        refine z_iload_n C dX10_miss_40 1 rfl ?_
        refine z_imul C dX10_miss_41 ?_
        refine z_iald C sB_3 dX10_miss_42 (fun v4 => ?_)
        refine z_iconst (v := (-1)) C dX10_miss_43 (by decide) ?_
        refine z_iconst (v := 1) C dX10_miss_44 (by decide) ?_
        refine z_callVv (q := 0) (As := [.int v4, .int (-1), .int 1]) (st := []) C zy_X10_layOut zv_X10_layOut ml_X10_223 rcB_0 (by decide) (fun _ _ h => m_X10_layOut h) rfl rfl (Nat.le_of_ble_eq_true rfl) dX10_miss_45 (fun _ σ5 => ?_)
        refine z_aload_n C dX10_miss_48 0 rfl ?_
        refine z_iload_n C dX10_miss_49 1 rfl ?_
        refine z_iload_n C dX10_miss_50 2 rfl ?_
        refine z_iload_n C dX10_miss_51 3 rfl ?_
        refine z_callVi (q := 0) (As := [.int x1, .int x2, .int x3]) (st := []) C zy_X10_missBy zv_X10_missBy ml_X10_239 rcB_0 (by decide) (fun _ _ h => m_X10_missBy h) rfl rfl (Nat.le_of_ble_eq_true rfl) dX10_miss_52 (fun v6 σ6 => ?_)
        exact z_iret C dX10_miss_55
theorem m_X10_miss {l : Launch} {G : zG} {x1 : Int32} {x2 : Int32} {x3 : Int32} {σ σ1 : zS} {r : Int32} (h : f_X10_miss x1 x2 x3 σ = some (r, σ1)) : zM l G zshB yX10_miss cX10_miss 4 (some .int) 3 [.ref (ga G 0), .int x1, .int x2, .int x3] (zov (some .int) G r) σ σ1 :=
  z_met (by decide) (Nat.le_of_ble_eq_true rfl) h (fun K _ hG C => by subst hG; exact b_X10_miss K C x1 x2 x3 σ)
theorem b_X10_law_J85 (K : zK) (C : zOk zshB K RX10 cX10_law (some .int) 8 3) (x1 : Int32) (x2 : Int32) (x5 : Int32) (x6 : Int32) (x7 : Int32) (k55 : Int32 → Int32 → Int32 → zS → Option (Int32 × zS)) (hk55 : ∀ (x3 : Int32) (x4 : Int32) (x6 : Int32) (σ : zS), Zf zshB K (k55 x3 x4 x6 σ) 55 [(0, .ref (ga (kG K) 0)), (1, .int x1), (2, .int x2), (3, .int x3), (4, .int x4), (5, .int x5), (6, .int x6)] [] σ) (σ : zS) : Zf zshB K (f_X10_law_J85 k55 x1 x2 x5 x6 x7 σ) 85 [(0, .ref (ga (kG K) 0)), (1, .int x1), (2, .int x2), (5, .int x5), (6, .int x6), (7, .int x7)] [] σ := by
  unfold f_X10_law_J85
  refine z_bipush (v := 100) C dX10_law_85 (by decide) ?_
  refine z_iload C dX10_law_87 3 rfl ?_
  refine z_imul C dX10_law_89 ?_
  refine z_iload C dX10_law_90 4 rfl ?_
  refine z_iadd C dX10_law_92 ?_
  refine z_istore_n (lv1 := [(3, .int ((100 * x5) + x6)), (0, .ref (ga (kG K) 0)), (1, .int x1), (2, .int x2), (5, .int x5), (6, .int x6), (7, .int x7)]) C dX10_law_93 (by decide) rfl ?_
  refine z_iload C dX10_law_94 6 rfl ?_
  refine z_istore (lv1 := [(4, .int x7), (3, .int ((100 * x5) + x6)), (0, .ref (ga (kG K) 0)), (1, .int x1), (2, .int x2), (5, .int x5), (6, .int x6), (7, .int x7)]) C dX10_law_96 (by decide) rfl ?_
  refine z_iinc (v := 1) (lv1 := [(6, .int (x6 + 1)), (4, .int x7), (3, .int ((100 * x5) + x6)), (0, .ref (ga (kG K) 0)), (1, .int x1), (2, .int x2), (5, .int x5), (7, .int x7)]) C dX10_law_98 6 rfl (by decide) (by decide) rfl ?_
  refine z_goto (tgt := 55) C dX10_law_101 (by decide) ?_
  exact z_sub [3, 4, 5, 2, 1, 6, 0] rfl (hk55 ((100 * x5) + x6) x7 (x6 + 1) σ)
theorem b_X10_law_L55 (K : zK) (C : zOk zshB K RX10 cX10_law (some .int) 8 3) (x1 : Int32) (x2 : Int32) (x5 : Int32) (k46 : Int32 → Int32 → Int32 → zS → Option (Int32 × zS)) (hk46 : ∀ (x3 : Int32) (x4 : Int32) (x5 : Int32) (σ : zS), Zf zshB K (k46 x3 x4 x5 σ) 46 [(0, .ref (ga (kG K) 0)), (1, .int x1), (2, .int x2), (3, .int x3), (4, .int x4), (5, .int x5)] [] σ) : ∀ (n : Nat) (x3 : Int32) (x4 : Int32) (x6 : Int32) (σ : zS), Zf zshB K (f_X10_law_L55 k46 x1 x2 x5 n x3 x4 x6 σ) 55 [(0, .ref (ga (kG K) 0)), (1, .int x1), (2, .int x2), (3, .int x3), (4, .int x4), (5, .int x5), (6, .int x6)] [] σ := by
  intro n
  induction n with
  | zero => intro x3 x4 x6 σ; rw [f_X10_law_L55]; exact z_none
  | succ n ih =>
  intro x3 x4 x6 σ
  rw [f_X10_law_L55]
  refine z_iload C dX10_law_55 6 rfl ?_
  refine z_bipush (v := 100) C dX10_law_57 (by decide) ?_
  refine z_icmp_ge (tgt := 104) C dX10_law_59 (by decide) ?_ ?_
  · refine z_iinc (v := 1) (lv1 := [(5, .int (x5 + 1)), (0, .ref (ga (kG K) 0)), (1, .int x1), (2, .int x2), (3, .int x3), (4, .int x4), (6, .int x6)]) C dX10_law_104 5 rfl (by decide) (by decide) rfl ?_
    refine z_goto (tgt := 46) C dX10_law_107 (by decide) ?_
    exact z_sub [1, 2, 3, 4, 5, 0] rfl (hk46 x3 x4 (x5 + 1) σ)
  · refine z_aload_n C dX10_law_62 0 rfl ?_
    refine z_iload_n C dX10_law_63 1 rfl ?_
    refine z_iload C dX10_law_64 5 rfl ?_
    refine z_iload C dX10_law_66 6 rfl ?_
    refine z_callVi (q := 0) (As := [.int x1, .int x5, .int x6]) (st := []) C zy_X10_missBy zv_X10_missBy ml_X10_239 rcB_0 (by decide) (fun _ _ h => m_X10_missBy h) rfl rfl (Nat.le_of_ble_eq_true rfl) dX10_law_68 (fun v1 σ1 => ?_)
    refine z_istore (lv1 := [(7, .int v1), (0, .ref (ga (kG K) 0)), (1, .int x1), (2, .int x2), (3, .int x3), (4, .int x4), (5, .int x5), (6, .int x6)]) C dX10_law_71 (by decide) rfl ?_
    refine z_iload_n C dX10_law_73 4 rfl ?_
    refine z_iconst (v := (-1)) C dX10_law_74 (by decide) ?_
    refine z_icmp_eq (tgt := 85) C dX10_law_75 (by decide) ?_ ?_
    · exact z_sub [1, 2, 3, 6, 7, 0] rfl (b_X10_law_J85 K C x1 x2 x5 x6 v1 _ ih σ1)
    · refine z_iload C dX10_law_78 0 rfl ?_
      refine z_iload C dX10_law_80 5 rfl ?_
      refine z_icmp_ge (tgt := 98) C dX10_law_82 (by decide) ?_ ?_
      · refine z_iinc (v := 1) (lv1 := [(6, .int (x6 + 1)), (7, .int v1), (0, .ref (ga (kG K) 0)), (1, .int x1), (2, .int x2), (3, .int x3), (4, .int x4), (5, .int x5)]) C dX10_law_98 7 rfl (by decide) (by decide) rfl ?_
        refine z_goto (tgt := 55) C dX10_law_101 (by decide) ?_
        exact z_sub [2, 3, 4, 5, 6, 7, 0] rfl (ih x3 x4 (x6 + 1) σ1)
      · exact z_sub [1, 2, 3, 6, 7, 0] rfl (b_X10_law_J85 K C x1 x2 x5 x6 v1 _ ih σ1)
theorem b_X10_law_L46 (K : zK) (C : zOk zshB K RX10 cX10_law (some .int) 8 3) (x1 : Int32) (x2 : Int32) : ∀ (n : Nat) (x3 : Int32) (x4 : Int32) (x5 : Int32) (σ : zS), Zf zshB K (f_X10_law_L46 x1 x2 n x3 x4 x5 σ) 46 [(0, .ref (ga (kG K) 0)), (1, .int x1), (2, .int x2), (3, .int x3), (4, .int x4), (5, .int x5)] [] σ := by
  intro n
  induction n with
  | zero => intro x3 x4 x5 σ; rw [f_X10_law_L46]; exact z_none
  | succ n ih =>
  intro x3 x4 x5 σ
  rw [f_X10_law_L46]
  refine z_iload C dX10_law_46 5 rfl ?_
  refine z_iconst (v := 3) C dX10_law_48 (by decide) ?_
  refine z_icmp_ge (tgt := 110) C dX10_law_49 (by decide) ?_ ?_
  · refine z_iload_n C dX10_law_110 2 rfl ?_
    refine z_if_ne (tgt := 118) C dX10_law_111 (by decide) ?_ ?_
    · refine z_iload_n C dX10_law_114 3 rfl ?_
      refine z_goto (tgt := 120) C dX10_law_115 (by decide) ?_
      exact z_iret C dX10_law_120
    · refine z_iload C dX10_law_118 4 rfl ?_
      exact z_iret C dX10_law_120
  · refine z_iconst (v := 1) C dX10_law_52 (by decide) ?_
    refine z_istore (lv1 := [(6, .int 1), (0, .ref (ga (kG K) 0)), (1, .int x1), (2, .int x2), (3, .int x3), (4, .int x4), (5, .int x5)]) C dX10_law_53 (by decide) rfl ?_
    exact z_sub [1, 2, 3, 4, 5, 6, 0] rfl (b_X10_law_L55 K C x1 x2 x5 _ ih zfu x3 x4 1 σ)
theorem b_X10_law (K : zK) (C : zOk zshB K RX10 cX10_law (some .int) 8 3) (x1 : Int32) (x2 : Int32) (σ : zS) : Zf zshB K (f_X10_law x1 x2 σ) 0 [(0, .ref (ga (kG K) 0)), (1, .int x1), (2, .int x2)] [] σ := by
  unfold f_X10_law
  refine z_aload_n C dX10_law_0 0 rfl ?_
  refine z_iload_n C dX10_law_1 1 rfl ?_
  refine z_callVz (q := 0) (As := [.int x1]) (st := []) C zy_X10_isFlow zv_X10_isFlow ml_X10_159 rcB_0 (by decide) (fun _ _ h => m_X10_isFlow h) rfl rfl (Nat.le_of_ble_eq_true rfl) dX10_law_2 (fun v1 σ1 => ?_)
  refine z_if_ne (tgt := 11) C dX10_law_5 (by decide) ?_ ?_
  · refine z_bipush (v := (-2)) C dX10_law_8 (by decide) ?_
    exact z_iret C dX10_law_10
  · refine z_iload_n C dX10_law_11 2 rfl ?_
    refine z_iconst (v := 0) C dX10_law_12 (by decide) ?_
    refine z_iconst (v := 1) C dX10_law_13 (by decide) ?_
    refine z_callSz (As := [.int x2, .int 0, .int 1]) (st := []) C zy_X10_in zs_X10_in ml_X10_71 (by decide) (fun _ _ h => m_X10_in h) rfl rfl (Nat.le_of_ble_eq_true rfl) dX10_law_14 (fun v2 σ2 => ?_)
    refine z_if_ne (tgt := 23) C dX10_law_17 (by decide) ?_ ?_
    · refine z_bipush (v := (-3)) C dX10_law_20 (by decide) ?_
      exact z_iret C dX10_law_22
    · refine z_aload_n C dX10_law_23 0 rfl ?_
      refine z_aload_n C dX10_law_24 0 rfl ?_
      refine z_getR C fd_X10_16 dX10_law_25 ?_
      refine z_bipush (v := 6) C dX10_law_28 (by decide) ?_
      refine z_iload_n C dX10_law_30 1 rfl ?_
      refine z_imul C dX10_law_31 ?_
      refine z_iald C sB_3 dX10_law_32 (fun v3 => ?_)
      refine z_iconst (v := (-1)) C dX10_law_33 (by decide) ?_
      refine z_iconst (v := 1) C dX10_law_34 (by decide) ?_
      refine z_callVv (q := 0) (As := [.int v3, .int (-1), .int 1]) (st := []) C zy_X10_layOut zv_X10_layOut ml_X10_223 rcB_0 (by decide) (fun _ _ h => m_X10_layOut h) rfl rfl (Nat.le_of_ble_eq_true rfl) dX10_law_35 (fun _ σ4 => ?_)
      refine z_iconst (v := (-1)) C dX10_law_38 (by decide) ?_
      refine z_istore_n (lv1 := [(3, .int (-1)), (0, .ref (ga (kG K) 0)), (1, .int x1), (2, .int x2)]) C dX10_law_39 (by decide) rfl ?_
      refine z_iconst (v := 0) C dX10_law_40 (by decide) ?_
      refine z_istore (lv1 := [(4, .int 0), (3, .int (-1)), (0, .ref (ga (kG K) 0)), (1, .int x1), (2, .int x2)]) C dX10_law_41 (by decide) rfl ?_
      refine z_iconst (v := 0) C dX10_law_43 (by decide) ?_
      refine z_istore (lv1 := [(5, .int 0), (4, .int 0), (3, .int (-1)), (0, .ref (ga (kG K) 0)), (1, .int x1), (2, .int x2)]) C dX10_law_44 (by decide) rfl ?_
      exact z_sub [3, 4, 5, 2, 1, 0] rfl (b_X10_law_L46 K C x1 x2 zfu (-1) 0 0 σ4)
theorem m_X10_law {l : Launch} {G : zG} {x1 : Int32} {x2 : Int32} {σ σ1 : zS} {r : Int32} (h : f_X10_law x1 x2 σ = some (r, σ1)) : zM l G zshB yX10_law cX10_law 8 (some .int) 3 [.ref (ga G 0), .int x1, .int x2] (zov (some .int) G r) σ σ1 :=
  z_met (by decide) (Nat.le_of_ble_eq_true rfl) h (fun K _ hG C => by subst hG; exact b_X10_law K C x1 x2 σ)
theorem b_X10_dated (K : zK) (C : zOk zshB K RX10 cX10_dated (some .int) 3 2) (x1 : Int32) (x2 : Int32) (σ : zS) : Zf zshB K (f_X10_dated x1 x2 σ) 0 [(0, .ref (ga (kG K) 0)), (1, .int x1), (2, .int x2)] [] σ := by
  unfold f_X10_dated
  refine z_aload_n C dX10_dated_0 0 rfl ?_
  refine z_iload_n C dX10_dated_1 1 rfl ?_
  refine z_callVz (q := 0) (As := [.int x1]) (st := []) C zy_X10_isBlade zv_X10_isBlade ml_X10_169 rcB_0 (by decide) (fun _ _ h => m_X10_isBlade h) rfl rfl (Nat.le_of_ble_eq_true rfl) dX10_dated_2 (fun v1 σ1 => ?_)
  refine z_if_ne (tgt := 11) C dX10_dated_5 (by decide) ?_ ?_
  · refine z_bipush (v := (-2)) C dX10_dated_8 (by decide) ?_
    exact z_iret C dX10_dated_10
  · refine z_iload_n C dX10_dated_11 2 rfl ?_
    refine z_iconst (v := (-1)) C dX10_dated_12 (by decide) ?_
    refine z_sipush (v := 9999) C dX10_dated_13 (by decide) ?_
    refine z_callSz (As := [.int x2, .int (-1), .int 9999]) (st := []) C zy_X10_in zs_X10_in ml_X10_71 (by decide) (fun _ _ h => m_X10_in h) rfl rfl (Nat.le_of_ble_eq_true rfl) dX10_dated_16 (fun v2 σ2 => ?_)
    refine z_if_ne (tgt := 25) C dX10_dated_19 (by decide) ?_ ?_
    · refine z_bipush (v := (-3)) C dX10_dated_22 (by decide) ?_
      exact z_iret C dX10_dated_24
    · refine z_aload_n C dX10_dated_25 0 rfl ?_
      refine z_getR C fd_X10_32 dX10_dated_26 ?_
      refine z_bipush (v := 11) C dX10_dated_29 (by decide) ?_
      refine z_iload_n C dX10_dated_31 1 rfl ?_
      refine z_imul C dX10_dated_32 ?_
      refine z_bipush (v := 10) C dX10_dated_33 (by decide) ?_
      refine z_iadd C dX10_dated_35 ?_
      refine z_iload_n C dX10_dated_36 2 rfl ?_
      refine z_iast C sB_6 dX10_dated_37 (fun σ3 => ?_)
      refine z_iconst (v := 1) C dX10_dated_38 (by decide) ?_
      exact z_iret C dX10_dated_39
theorem m_X10_dated {l : Launch} {G : zG} {x1 : Int32} {x2 : Int32} {σ σ1 : zS} {r : Int32} (h : f_X10_dated x1 x2 σ = some (r, σ1)) : zM l G zshB yX10_dated cX10_dated 3 (some .int) 2 [.ref (ga G 0), .int x1, .int x2] (zov (some .int) G r) σ σ1 :=
  z_met (by decide) (Nat.le_of_ble_eq_true rfl) h (fun K _ hG C => by subst hG; exact b_X10_dated K C x1 x2 σ)
theorem b_X10_learnt_J176 (K : zK) (C : zOk zshB K RX10 cX10_learnt (some .int) 9 2) (x1 : Int32) (x2 : Int32) (x4 : Int32) (x5 : Int32) (x6 : Int32) (x7 : Int32) (s0 : Int32) (k30 : Int32 → Int32 → Int32 → zS → Option (Int32 × zS)) (hk30 : ∀ (x3 : Int32) (x4 : Int32) (x5 : Int32) (σ : zS), Zf zshB K (k30 x3 x4 x5 σ) 30 [(0, .ref (ga (kG K) 0)), (1, .int x1), (2, .int x2), (3, .int x3), (4, .int x4), (5, .int x5)] [] σ) (σ : zS) : Zf zshB K (f_X10_learnt_J176 k30 x1 x2 x4 x5 x6 x7 s0 σ) 176 [(0, .ref (ga (kG K) 0)), (1, .int x1), (2, .int x2), (4, .int x4), (5, .int x5), (6, .int x6), (7, .int x7)] [.int s0] σ := by
  unfold f_X10_learnt_J176
  refine z_istore_n (lv1 := [(3, .int s0), (0, .ref (ga (kG K) 0)), (1, .int x1), (2, .int x2), (4, .int x4), (5, .int x5), (6, .int x6), (7, .int x7)]) C dX10_learnt_176 (by decide) rfl ?_
  refine z_iload C dX10_learnt_177 6 rfl ?_
  refine z_if_eq (tgt := 192) C dX10_learnt_179 (by decide) ?_ ?_
  · refine z_iload C dX10_learnt_192 4 rfl ?_
    refine z_istore (lv1 := [(4, .int x4), (3, .int s0), (0, .ref (ga (kG K) 0)), (1, .int x1), (2, .int x2), (5, .int x5), (6, .int x6), (7, .int x7)]) C dX10_learnt_194 (by decide) rfl ?_
    refine z_iinc (v := 1) (lv1 := [(5, .int (x5 + 1)), (4, .int x4), (3, .int s0), (0, .ref (ga (kG K) 0)), (1, .int x1), (2, .int x2), (6, .int x6), (7, .int x7)]) C dX10_learnt_196 5 rfl (by decide) (by decide) rfl ?_
    refine z_goto (tgt := 30) C dX10_learnt_199 (by decide) ?_
    exact z_sub [3, 4, 5, 2, 1, 0] rfl (hk30 s0 x4 (x5 + 1) σ)
  · refine z_iload C dX10_learnt_182 7 rfl ?_
    refine z_if_eq (tgt := 192) C dX10_learnt_184 (by decide) ?_ ?_
    · refine z_iload C dX10_learnt_192 4 rfl ?_
      refine z_istore (lv1 := [(4, .int x4), (3, .int s0), (0, .ref (ga (kG K) 0)), (1, .int x1), (2, .int x2), (5, .int x5), (6, .int x6), (7, .int x7)]) C dX10_learnt_194 (by decide) rfl ?_
      refine z_iinc (v := 1) (lv1 := [(5, .int (x5 + 1)), (4, .int x4), (3, .int s0), (0, .ref (ga (kG K) 0)), (1, .int x1), (2, .int x2), (6, .int x6), (7, .int x7)]) C dX10_learnt_196 5 rfl (by decide) (by decide) rfl ?_
      refine z_goto (tgt := 30) C dX10_learnt_199 (by decide) ?_
      exact z_sub [3, 4, 5, 2, 1, 0] rfl (hk30 s0 x4 (x5 + 1) σ)
    · refine z_iload C dX10_learnt_187 5 rfl ?_
      refine z_goto (tgt := 194) C dX10_learnt_189 (by decide) ?_
      refine z_istore (lv1 := [(4, .int x5), (3, .int s0), (0, .ref (ga (kG K) 0)), (1, .int x1), (2, .int x2), (5, .int x5), (6, .int x6), (7, .int x7)]) C dX10_learnt_194 (by decide) rfl ?_
      refine z_iinc (v := 1) (lv1 := [(5, .int (x5 + 1)), (4, .int x5), (3, .int s0), (0, .ref (ga (kG K) 0)), (1, .int x1), (2, .int x2), (6, .int x6), (7, .int x7)]) C dX10_learnt_196 5 rfl (by decide) (by decide) rfl ?_
      refine z_goto (tgt := 30) C dX10_learnt_199 (by decide) ?_
      exact z_sub [3, 4, 5, 2, 1, 0] rfl (hk30 s0 x5 (x5 + 1) σ)
theorem b_X10_learnt_L47 (K : zK) (C : zOk zshB K RX10 cX10_learnt (some .int) 9 2) (x1 : Int32) (x2 : Int32) (x3 : Int32) (x4 : Int32) (x5 : Int32) (k30 : Int32 → Int32 → Int32 → zS → Option (Int32 × zS)) (hk30 : ∀ (x3 : Int32) (x4 : Int32) (x5 : Int32) (σ : zS), Zf zshB K (k30 x3 x4 x5 σ) 30 [(0, .ref (ga (kG K) 0)), (1, .int x1), (2, .int x2), (3, .int x3), (4, .int x4), (5, .int x5)] [] σ) : ∀ (n : Nat) (x6 : Int32) (x7 : Int32) (x8 : Int32) (σ : zS), Zf zshB K (f_X10_learnt_L47 k30 x1 x2 x3 x4 x5 n x6 x7 x8 σ) 47 [(0, .ref (ga (kG K) 0)), (1, .int x1), (2, .int x2), (3, .int x3), (4, .int x4), (5, .int x5), (6, .int x6), (7, .int x7), (8, .int x8)] [] σ := by
  intro n
  induction n with
  | zero => intro x6 x7 x8 σ; rw [f_X10_learnt_L47]; exact z_none
  | succ n ih =>
  intro x6 x7 x8 σ
  rw [f_X10_learnt_L47]
  refine z_iload C dX10_learnt_47 8 rfl ?_
  refine z_aload_n C dX10_learnt_49 0 rfl ?_
  refine z_getI C fd_X10_78 dX10_learnt_50 ?_
  refine z_icmp_ge (tgt := 155) C dX10_learnt_53 (by decide) ?_ ?_
  · refine z_iload C dX10_learnt_155 6 rfl ?_
    refine z_if_eq (tgt := 175) C dX10_learnt_157 (by decide) ?_ ?_
    · refine z_iload_n C dX10_learnt_175 3 rfl ?_
      exact z_sub [0, 1, 2, 4, 5, 6, 7] rfl (b_X10_learnt_J176 K C x1 x2 x4 x5 x6 x7 x3 k30 hk30 σ)
    · refine z_iload C dX10_learnt_160 7 rfl ?_
      refine z_if_eq (tgt := 175) C dX10_learnt_162 (by decide) ?_ ?_
      · refine z_iload_n C dX10_learnt_175 3 rfl ?_
        exact z_sub [0, 1, 2, 4, 5, 6, 7] rfl (b_X10_learnt_J176 K C x1 x2 x4 x5 x6 x7 x3 k30 hk30 σ)
      · refine z_iload_n C dX10_learnt_165 3 rfl ?_
        refine z_iconst (v := (-1)) C dX10_learnt_166 (by decide) ?_
        refine z_icmp_ne (tgt := 175) C dX10_learnt_167 (by decide) ?_ ?_
        · refine z_iload C dX10_learnt_170 5 rfl ?_
          refine z_goto (tgt := 176) C dX10_learnt_172 (by decide) ?_
          exact z_sub [0, 1, 2, 4, 5, 6, 7] rfl (b_X10_learnt_J176 K C x1 x2 x4 x5 x6 x7 x5 k30 hk30 σ)
        · refine z_iload_n C dX10_learnt_175 3 rfl ?_
          exact z_sub [0, 1, 2, 4, 5, 6, 7] rfl (b_X10_learnt_J176 K C x1 x2 x4 x5 x6 x7 x3 k30 hk30 σ)
  · refine z_aload_n C dX10_learnt_56 0 rfl ?_
    refine z_iload C dX10_learnt_57 8 rfl ?_
    refine z_iconst (v := 0) C dX10_learnt_59 (by decide) ?_
    refine z_callVi (q := 0) (As := [.int x8, .int 0]) (st := []) C zy_X10_at zv_X10_at ml_X10_172 rcB_0 (by decide) (fun _ _ h => m_X10_at h) rfl rfl (Nat.le_of_ble_eq_true rfl) dX10_learnt_60 (fun v1 σ1 => ?_)
    refine z_iload_n C dX10_learnt_63 1 rfl ?_
    refine z_icmp_ne (tgt := 149) C dX10_learnt_64 (by decide) ?_ ?_
    · refine z_aload_n C dX10_learnt_67 0 rfl ?_
      refine z_iload C dX10_learnt_68 8 rfl ?_
      refine z_bipush (v := 7) C dX10_learnt_70 (by decide) ?_
      refine z_callVi (q := 0) (As := [.int x8, .int 7]) (st := []) C zy_X10_at zv_X10_at ml_X10_172 rcB_0 (by decide) (fun _ _ h => m_X10_at h) rfl rfl (Nat.le_of_ble_eq_true rfl) dX10_learnt_72 (fun v2 σ2 => ?_)
      refine z_if_le (tgt := 149) C dX10_learnt_75 (by decide) ?_ ?_
      · refine z_iinc (v := 1) (lv1 := [(8, .int (x8 + 1)), (0, .ref (ga (kG K) 0)), (1, .int x1), (2, .int x2), (3, .int x3), (4, .int x4), (5, .int x5), (6, .int x6), (7, .int x7)]) C dX10_learnt_149 8 rfl (by decide) (by decide) rfl ?_
        refine z_goto (tgt := 47) C dX10_learnt_152 (by decide) ?_
        exact z_sub [1, 2, 3, 4, 5, 6, 7, 8, 0] rfl (ih x6 x7 (x8 + 1) σ2)
      · refine z_aload_n C dX10_learnt_78 0 rfl ?_
        refine z_iload C dX10_learnt_79 8 rfl ?_
        refine z_bipush (v := 10) C dX10_learnt_81 (by decide) ?_
        refine z_callVi (q := 0) (As := [.int x8, .int 10]) (st := []) C zy_X10_at zv_X10_at ml_X10_172 rcB_0 (by decide) (fun _ _ h => m_X10_at h) rfl rfl (Nat.le_of_ble_eq_true rfl) dX10_learnt_83 (fun v3 σ3 => ?_)
        refine z_iconst (v := (-1)) C dX10_learnt_86 (by decide) ?_
        refine z_icmp_eq (tgt := 149) C dX10_learnt_87 (by decide) ?_ ?_
        · refine z_iinc (v := 1) (lv1 := [(8, .int (x8 + 1)), (0, .ref (ga (kG K) 0)), (1, .int x1), (2, .int x2), (3, .int x3), (4, .int x4), (5, .int x5), (6, .int x6), (7, .int x7)]) C dX10_learnt_149 8 rfl (by decide) (by decide) rfl ?_
          refine z_goto (tgt := 47) C dX10_learnt_152 (by decide) ?_
          exact z_sub [1, 2, 3, 4, 5, 6, 7, 8, 0] rfl (ih x6 x7 (x8 + 1) σ3)
        · refine z_iconst (v := 1) C dX10_learnt_90 (by decide) ?_
          refine z_istore (lv1 := [(7, .int 1), (0, .ref (ga (kG K) 0)), (1, .int x1), (2, .int x2), (3, .int x3), (4, .int x4), (5, .int x5), (6, .int x6), (8, .int x8)]) C dX10_learnt_91 (by decide) rfl ?_
          refine z_iload C dX10_learnt_93 7 rfl ?_
          refine z_if_eq (tgt := 146) C dX10_learnt_95 (by decide) ?_ ?_
          · refine z_iconst (v := 0) C dX10_learnt_146 (by decide) ?_
            refine z_istore (lv1 := [(6, .int 0), (7, .int 1), (0, .ref (ga (kG K) 0)), (1, .int x1), (2, .int x2), (3, .int x3), (4, .int x4), (5, .int x5), (8, .int x8)]) C dX10_learnt_147 (by decide) rfl ?_
            refine z_iinc (v := 1) (lv1 := [(8, .int (x8 + 1)), (6, .int 0), (7, .int 1), (0, .ref (ga (kG K) 0)), (1, .int x1), (2, .int x2), (3, .int x3), (4, .int x4), (5, .int x5)]) C dX10_learnt_149 8 rfl (by decide) (by decide) rfl ?_
            refine z_goto (tgt := 47) C dX10_learnt_152 (by decide) ?_
            exact z_sub [3, 4, 5, 6, 7, 8, 1, 2, 0] rfl (ih 0 1 (x8 + 1) σ3)
          · refine z_aload_n C dX10_learnt_98 1 rfl ?_
            refine z_iload C dX10_learnt_99 8 rfl ?_
            refine z_bipush (v := 10) C dX10_learnt_101 (by decide) ?_
            refine z_callVi (q := 0) (As := [.int x8, .int 10]) (st := []) C zy_X10_at zv_X10_at ml_X10_172 rcB_0 (by decide) (fun _ _ h => m_X10_at h) rfl rfl (Nat.le_of_ble_eq_true rfl) dX10_learnt_103 (fun v4 σ4 => ?_)
            refine z_aload_n C dX10_learnt_106 1 rfl ?_
            refine z_iload C dX10_learnt_107 8 rfl ?_
            refine z_bipush (v := 7) C dX10_learnt_109 (by decide) ?_
            refine z_callVi (q := 0) (As := [.int x8, .int 7]) (st := [.int v4]) C zy_X10_at zv_X10_at ml_X10_172 rcB_0 (by decide) (fun _ _ h => m_X10_at h) rfl rfl (Nat.le_of_ble_eq_true rfl) dX10_learnt_111 (fun v5 σ5 => ?_)
            refine z_iconst (v := 1) C dX10_learnt_114 (by decide) ?_
            refine z_iadd C dX10_learnt_115 ?_
            refine z_iload C dX10_learnt_116 6 rfl ?_
            refine z_callSi (As := [.int (v5 + 1), .int x5]) (st := [.int v4]) C zy_X10_ago zs_X10_ago ml_X10_193 (by decide) (fun _ _ h => m_X10_ago h) rfl rfl (Nat.le_of_ble_eq_true rfl) dX10_learnt_118 (fun v6 σ6 => ?_)
            refine z_aload_n C dX10_learnt_121 1 rfl ?_
            refine z_iload C dX10_learnt_122 8 rfl ?_
            refine z_bipush (v := 7) C dX10_learnt_124 (by decide) ?_
            refine z_callVi (q := 0) (As := [.int x8, .int 7]) (st := [.int v6, .int v4]) C zy_X10_at zv_X10_at ml_X10_172 rcB_0 (by decide) (fun _ _ h => m_X10_at h) rfl rfl (Nat.le_of_ble_eq_true rfl) dX10_learnt_126 (fun v7 σ7 => ?_)
            refine z_iconst (v := 1) C dX10_learnt_129 (by decide) ?_
            refine z_isub C dX10_learnt_130 ?_
            refine z_iload C dX10_learnt_131 6 rfl ?_
            refine z_callSi (As := [.int (v7 - 1), .int x5]) (st := [.int v6, .int v4]) C zy_X10_ago zs_X10_ago ml_X10_193 (by decide) (fun _ _ h => m_X10_ago h) rfl rfl (Nat.le_of_ble_eq_true rfl) dX10_learnt_133 (fun v8 σ8 => ?_)
            refine z_callSz (As := [.int v4, .int v6, .int v8]) (st := []) C zy_X10_in zs_X10_in ml_X10_71 (by decide) (fun _ _ h => m_X10_in h) rfl rfl (Nat.le_of_ble_eq_true rfl) dX10_learnt_136 (fun v9 σ9 => ?_)
            refine z_if_eq (tgt := 146) C dX10_learnt_139 (by decide) ?_ ?_
            · refine z_iconst (v := 0) C dX10_learnt_146 (by decide) ?_
              refine z_istore (lv1 := [(6, .int 0), (7, .int 1), (0, .ref (ga (kG K) 0)), (1, .int x1), (2, .int x2), (3, .int x3), (4, .int x4), (5, .int x5), (8, .int x8)]) C dX10_learnt_147 (by decide) rfl ?_
              refine z_iinc (v := 1) (lv1 := [(8, .int (x8 + 1)), (6, .int 0), (7, .int 1), (0, .ref (ga (kG K) 0)), (1, .int x1), (2, .int x2), (3, .int x3), (4, .int x4), (5, .int x5)]) C dX10_learnt_149 8 rfl (by decide) (by decide) rfl ?_
              refine z_goto (tgt := 47) C dX10_learnt_152 (by decide) ?_
              exact z_sub [3, 4, 5, 6, 7, 8, 1, 2, 0] rfl (ih 0 1 (x8 + 1) σ9)
            · refine z_iconst (v := 1) C dX10_learnt_142 (by decide) ?_
              refine z_goto (tgt := 147) C dX10_learnt_143 (by decide) ?_
              refine z_istore (lv1 := [(6, .int 1), (7, .int 1), (0, .ref (ga (kG K) 0)), (1, .int x1), (2, .int x2), (3, .int x3), (4, .int x4), (5, .int x5), (8, .int x8)]) C dX10_learnt_147 (by decide) rfl ?_
              refine z_iinc (v := 1) (lv1 := [(8, .int (x8 + 1)), (6, .int 1), (7, .int 1), (0, .ref (ga (kG K) 0)), (1, .int x1), (2, .int x2), (3, .int x3), (4, .int x4), (5, .int x5)]) C dX10_learnt_149 8 rfl (by decide) (by decide) rfl ?_
              refine z_goto (tgt := 47) C dX10_learnt_152 (by decide) ?_
              exact z_sub [3, 4, 5, 6, 7, 8, 1, 2, 0] rfl (ih 1 1 (x8 + 1) σ9)
    · refine z_iinc (v := 1) (lv1 := [(8, .int (x8 + 1)), (0, .ref (ga (kG K) 0)), (1, .int x1), (2, .int x2), (3, .int x3), (4, .int x4), (5, .int x5), (6, .int x6), (7, .int x7)]) C dX10_learnt_149 8 rfl (by decide) (by decide) rfl ?_
      refine z_goto (tgt := 47) C dX10_learnt_152 (by decide) ?_
      exact z_sub [1, 2, 3, 4, 5, 6, 7, 8, 0] rfl (ih x6 x7 (x8 + 1) σ1)
theorem b_X10_learnt_L30 (K : zK) (C : zOk zshB K RX10 cX10_learnt (some .int) 9 2) (x1 : Int32) (x2 : Int32) : ∀ (n : Nat) (x3 : Int32) (x4 : Int32) (x5 : Int32) (σ : zS), Zf zshB K (f_X10_learnt_L30 x1 x2 n x3 x4 x5 σ) 30 [(0, .ref (ga (kG K) 0)), (1, .int x1), (2, .int x2), (3, .int x3), (4, .int x4), (5, .int x5)] [] σ := by
  intro n
  induction n with
  | zero => intro x3 x4 x5 σ; rw [f_X10_learnt_L30]; exact z_none
  | succ n ih =>
  intro x3 x4 x5 σ
  rw [f_X10_learnt_L30]
  refine z_iload C dX10_learnt_30 5 rfl ?_
  refine z_sipush (v := 1000) C dX10_learnt_32 (by decide) ?_
  refine z_icmp_ge (tgt := 202) C dX10_learnt_35 (by decide) ?_ ?_
  · refine z_iload_n C dX10_learnt_202 2 rfl ?_
    refine z_if_ne (tgt := 210) C dX10_learnt_203 (by decide) ?_ ?_
    · refine z_iload_n C dX10_learnt_206 3 rfl ?_
      refine z_goto (tgt := 212) C dX10_learnt_207 (by decide) ?_
      exact z_iret C dX10_learnt_212
    · refine z_iload C dX10_learnt_210 4 rfl ?_
      exact z_iret C dX10_learnt_212
  · refine z_iconst (v := 1) C dX10_learnt_38 (by decide) ?_
    refine z_istore (lv1 := [(6, .int 1), (0, .ref (ga (kG K) 0)), (1, .int x1), (2, .int x2), (3, .int x3), (4, .int x4), (5, .int x5)]) C dX10_learnt_39 (by decide) rfl ?_
    refine z_iconst (v := 0) C dX10_learnt_41 (by decide) ?_
    refine z_istore (lv1 := [(7, .int 0), (6, .int 1), (0, .ref (ga (kG K) 0)), (1, .int x1), (2, .int x2), (3, .int x3), (4, .int x4), (5, .int x5)]) C dX10_learnt_42 (by decide) rfl ?_
    refine z_iconst (v := 0) C dX10_learnt_44 (by decide) ?_
    refine z_istore (lv1 := [(8, .int 0), (7, .int 0), (6, .int 1), (0, .ref (ga (kG K) 0)), (1, .int x1), (2, .int x2), (3, .int x3), (4, .int x4), (5, .int x5)]) C dX10_learnt_45 (by decide) rfl ?_
    exact z_sub [3, 4, 5, 6, 7, 8, 2, 1, 0] rfl (b_X10_learnt_L47 K C x1 x2 x3 x4 x5 _ ih zfu 1 0 0 σ)
theorem b_X10_learnt (K : zK) (C : zOk zshB K RX10 cX10_learnt (some .int) 9 2) (x1 : Int32) (x2 : Int32) (σ : zS) : Zf zshB K (f_X10_learnt x1 x2 σ) 0 [(0, .ref (ga (kG K) 0)), (1, .int x1), (2, .int x2)] [] σ := by
  unfold f_X10_learnt
  refine z_iload_n C dX10_learnt_0 1 rfl ?_
  refine z_callSz (As := [.int x1]) (st := []) C zy_X10_isPlace zs_X10_isPlace ml_X10_156 (by decide) (fun _ _ h => m_X10_isPlace h) rfl rfl (Nat.le_of_ble_eq_true rfl) dX10_learnt_1 (fun v1 σ1 => ?_)
  refine z_if_ne (tgt := 10) C dX10_learnt_4 (by decide) ?_ ?_
  · refine z_bipush (v := (-2)) C dX10_learnt_7 (by decide) ?_
    exact z_iret C dX10_learnt_9
  · refine z_iload_n C dX10_learnt_10 2 rfl ?_
    refine z_iconst (v := 0) C dX10_learnt_11 (by decide) ?_
    refine z_iconst (v := 1) C dX10_learnt_12 (by decide) ?_
    refine z_callSz (As := [.int x2, .int 0, .int 1]) (st := []) C zy_X10_in zs_X10_in ml_X10_71 (by decide) (fun _ _ h => m_X10_in h) rfl rfl (Nat.le_of_ble_eq_true rfl) dX10_learnt_13 (fun v2 σ2 => ?_)
    refine z_if_ne (tgt := 22) C dX10_learnt_16 (by decide) ?_ ?_
    · refine z_bipush (v := (-3)) C dX10_learnt_19 (by decide) ?_
      exact z_iret C dX10_learnt_21
    · refine z_iconst (v := (-1)) C dX10_learnt_22 (by decide) ?_
      refine z_istore_n (lv1 := [(3, .int (-1)), (0, .ref (ga (kG K) 0)), (1, .int x1), (2, .int x2)]) C dX10_learnt_23 (by decide) rfl ?_
      refine z_iconst (v := (-1)) C dX10_learnt_24 (by decide) ?_
      refine z_istore (lv1 := [(4, .int (-1)), (3, .int (-1)), (0, .ref (ga (kG K) 0)), (1, .int x1), (2, .int x2)]) C dX10_learnt_25 (by decide) rfl ?_
      refine z_iconst (v := 1) C dX10_learnt_27 (by decide) ?_
      refine z_istore (lv1 := [(5, .int 1), (4, .int (-1)), (3, .int (-1)), (0, .ref (ga (kG K) 0)), (1, .int x1), (2, .int x2)]) C dX10_learnt_28 (by decide) rfl ?_
      exact z_sub [3, 4, 5, 2, 1, 0] rfl (b_X10_learnt_L30 K C x1 x2 zfu (-1) (-1) 1 σ2)
theorem m_X10_learnt {l : Launch} {G : zG} {x1 : Int32} {x2 : Int32} {σ σ1 : zS} {r : Int32} (h : f_X10_learnt x1 x2 σ = some (r, σ1)) : zM l G zshB yX10_learnt cX10_learnt 9 (some .int) 2 [.ref (ga G 0), .int x1, .int x2] (zov (some .int) G r) σ σ1 :=
  z_met (by decide) (Nat.le_of_ble_eq_true rfl) h (fun K _ hG C => by subst hG; exact b_X10_learnt K C x1 x2 σ)
theorem b_X10_count_L70 (K : zK) (C : zOk zshB K RX10 cX10_count (some .int) 4 1) : ∀ (n : Nat) (x2 : Int32) (x3 : Int32) (σ : zS), Zf zshB K (f_X10_count_L70 n x2 x3 σ) 70 [(0, .ref (ga (kG K) 0)), (2, .int x2), (3, .int x3)] [] σ := by
  intro n
  induction n with
  | zero => intro x2 x3 σ; rw [f_X10_count_L70]; exact z_none
  | succ n ih =>
  intro x2 x3 σ
  rw [f_X10_count_L70]
  refine z_iload_n C dX10_count_70 2 rfl ?_
  refine z_aload_n C dX10_count_71 0 rfl ?_
  refine z_getI C fd_X10_78 dX10_count_72 ?_
  refine z_icmp_ge (tgt := 103) C dX10_count_75 (by decide) ?_ ?_
  · refine z_iload_n C dX10_count_103 1 rfl ?_
    exact z_iret C dX10_count_104
  · refine z_iload_n C dX10_count_78 1 rfl ?_
    refine z_aload_n C dX10_count_79 0 rfl ?_
    refine z_iload_n C dX10_count_80 2 rfl ?_
    refine z_bipush (v := 9) C dX10_count_81 (by decide) ?_
    refine z_callVi (q := 0) (As := [.int x3, .int 9]) (st := [.int x2]) C zy_X10_at zv_X10_at ml_X10_172 rcB_0 (by decide) (fun _ _ h => m_X10_at h) rfl rfl (Nat.le_of_ble_eq_true rfl) dX10_count_83 (fun v1 σ1 => ?_)
    refine z_iconst (v := (-1)) C dX10_count_86 (by decide) ?_
    refine z_icmp_eq (tgt := 94) C dX10_count_87 (by decide) ?_ ?_
    · refine z_iconst (v := 0) C dX10_count_94 (by decide) ?_
      refine z_iadd C dX10_count_95 ?_
      refine z_istore_n (lv1 := [(2, .int (x2 + 0)), (0, .ref (ga (kG K) 0)), (3, .int x3)]) C dX10_count_96 (by decide) rfl ?_
      refine z_iinc (v := 1) (lv1 := [(3, .int (x3 + 1)), (2, .int (x2 + 0)), (0, .ref (ga (kG K) 0))]) C dX10_count_97 2 rfl (by decide) (by decide) rfl ?_
      refine z_goto (tgt := 70) C dX10_count_100 (by decide) ?_
      exact z_sub [2, 1, 0] rfl (ih (x2 + 0) (x3 + 1) σ1)
    · refine z_iconst (v := 1) C dX10_count_90 (by decide) ?_
      refine z_goto (tgt := 95) C dX10_count_91 (by decide) ?_
      refine z_iadd C dX10_count_95 ?_
      refine z_istore_n (lv1 := [(2, .int (x2 + 1)), (0, .ref (ga (kG K) 0)), (3, .int x3)]) C dX10_count_96 (by decide) rfl ?_
      refine z_iinc (v := 1) (lv1 := [(3, .int (x3 + 1)), (2, .int (x2 + 1)), (0, .ref (ga (kG K) 0))]) C dX10_count_97 2 rfl (by decide) (by decide) rfl ?_
      refine z_goto (tgt := 70) C dX10_count_100 (by decide) ?_
      exact z_sub [2, 1, 0] rfl (ih (x2 + 1) (x3 + 1) σ1)
theorem b_X10_count (K : zK) (C : zOk zshB K RX10 cX10_count (some .int) 4 1) (x1 : Int32) (σ : zS) : Zf zshB K (f_X10_count x1 σ) 0 [(0, .ref (ga (kG K) 0)), (1, .int x1)] [] σ := by
  unfold f_X10_count
  refine z_iconst (v := 0) C dX10_count_0 (by decide) ?_
  refine z_istore_n (lv1 := [(2, .int 0), (0, .ref (ga (kG K) 0)), (1, .int x1)]) C dX10_count_1 (by decide) rfl ?_
  refine z_iload_n C dX10_count_2 2 rfl ?_
  refine z_case 0 (fun hc3_0 => ?_) (fun hc3_0 => ?_)
  · refine z_tabIn (tgt := 40) C dX10_count_3 0 hc3_0 (by decide) (by decide) rfl (by decide) ?_
    refine z_aload_n C dX10_count_40 1 rfl ?_
    refine z_getI C fd_X10_75 dX10_count_41 ?_
    refine z_callSi (As := [.int (σ 0 3)]) (st := []) C zy_X10_bits zs_X10_bits ml_X10_183 (by decide) (fun _ _ h => m_X10_bits h) rfl rfl (Nat.le_of_ble_eq_true rfl) dX10_count_44 (fun v1 σ1 => ?_)
    exact z_iret C dX10_count_47
  refine z_case 1 (fun hc3_1 => ?_) (fun hc3_1 => ?_)
  · refine z_tabIn (tgt := 48) C dX10_count_3 1 hc3_1 (by decide) (by decide) rfl (by decide) ?_
    refine z_aload_n C dX10_count_48 1 rfl ?_
    refine z_getI C fd_X10_81 dX10_count_49 ?_
    exact z_iret C dX10_count_52
  refine z_case 2 (fun hc3_2 => ?_) (fun hc3_2 => ?_)
  · refine z_tabIn (tgt := 53) C dX10_count_3 2 hc3_2 (by decide) (by decide) rfl (by decide) ?_
    refine z_aload_n C dX10_count_53 1 rfl ?_
    refine z_getI C fd_X10_78 dX10_count_54 ?_
    exact z_iret C dX10_count_57
  refine z_case 3 (fun hc3_3 => ?_) (fun hc3_3 => ?_)
  · refine z_tabIn (tgt := 58) C dX10_count_3 3 hc3_3 (by decide) (by decide) rfl (by decide) ?_
    refine z_aload_n C dX10_count_58 1 rfl ?_
    refine z_getI C fd_X10_19 dX10_count_59 ?_
    exact z_iret C dX10_count_62
  refine z_case 4 (fun hc3_4 => ?_) (fun hc3_4 => ?_)
  · refine z_tabIn (tgt := 63) C dX10_count_3 4 hc3_4 (by decide) (by decide) rfl (by decide) ?_
    refine z_aload_n C dX10_count_63 1 rfl ?_
    refine z_getI C fd_X10_23 dX10_count_64 ?_
    exact z_iret C dX10_count_67
  refine z_case 5 (fun hc3_5 => ?_) (fun hc3_5 => ?_)
  · refine z_tabIn (tgt := 68) C dX10_count_3 5 hc3_5 (by decide) (by decide) rfl (by decide) ?_
    refine z_iconst (v := 0) C dX10_count_68 (by decide) ?_
    refine z_istore_n (lv1 := [(3, .int 0), (2, .int 0), (0, .ref (ga (kG K) 0)), (1, .int x1)]) C dX10_count_69 (by decide) rfl ?_
    exact z_sub [2, 1, 0] rfl (b_X10_count_L70 K C zfu 0 0 σ)
  refine z_tabD (tgt := 105) C [0, 1, 2, 3, 4, 5] (List.forall_mem_cons.mpr ⟨ztoi hc3_0 rfl, (List.forall_mem_cons.mpr ⟨ztoi hc3_1 rfl, (List.forall_mem_cons.mpr ⟨ztoi hc3_2 rfl, (List.forall_mem_cons.mpr ⟨ztoi hc3_3 rfl, (List.forall_mem_cons.mpr ⟨ztoi hc3_4 rfl, (List.forall_mem_cons.mpr ⟨ztoi hc3_5 rfl, (fun _ h => absurd h List.not_mem_nil)⟩)⟩)⟩)⟩)⟩)⟩) dX10_count_3 (by decide +kernel) (by decide) ?_
  refine z_bipush (v := (-3)) C dX10_count_105 (by decide) ?_
  exact z_iret C dX10_count_107
theorem m_X10_count {l : Launch} {G : zG} {x1 : Int32} {σ σ1 : zS} {r : Int32} (h : f_X10_count x1 σ = some (r, σ1)) : zM l G zshB yX10_count cX10_count 4 (some .int) 1 [.ref (ga G 0), .int x1] (zov (some .int) G r) σ σ1 :=
  z_met (by decide) (Nat.le_of_ble_eq_true rfl) h (fun K _ hG C => by subst hG; exact b_X10_count K C x1 σ)
