theorem b_X10_greater (K : zK) (C : zOk zshB K RX10 cX10_greater (some .int) 2 0) (x0 : Int32) (x1 : Int32) (σ : zS) : Zf zshB K (f_X10_greater x0 x1 σ) 0 [(0, .int x0), (1, .int x1)] [] σ := by
  unfold f_X10_greater
  refine z_iload_n C dX10_greater_0 0 rfl ?_
  refine z_iload_n C dX10_greater_1 1 rfl ?_
  refine z_icmp_le (tgt := 9) C dX10_greater_2 (by decide) ?_ ?_
  · refine z_iload_n C dX10_greater_9 1 rfl ?_
    exact z_iret C dX10_greater_10
  · refine z_iload_n C dX10_greater_5 0 rfl ?_
    refine z_goto (tgt := 10) C dX10_greater_6 (by decide) ?_
    exact z_iret C dX10_greater_10
theorem m_X10_greater {l : Launch} {G : zG} {x0 : Int32} {x1 : Int32} {σ σ1 : zS} {r : Int32} (h : f_X10_greater x0 x1 σ = some (r, σ1)) : zM l G zshB yX10_greater cX10_greater 2 (some .int) 0 [.int x0, .int x1] (zov (some .int) G r) σ σ1 :=
  z_met (by decide) (Nat.le_of_ble_eq_true rfl) h (fun K _ hG C => by subst hG; exact b_X10_greater K C x0 x1 σ)
theorem b_X10_lesser (K : zK) (C : zOk zshB K RX10 cX10_lesser (some .int) 2 0) (x0 : Int32) (x1 : Int32) (σ : zS) : Zf zshB K (f_X10_lesser x0 x1 σ) 0 [(0, .int x0), (1, .int x1)] [] σ := by
  unfold f_X10_lesser
  refine z_iload_n C dX10_lesser_0 0 rfl ?_
  refine z_iload_n C dX10_lesser_1 1 rfl ?_
  refine z_icmp_ge (tgt := 9) C dX10_lesser_2 (by decide) ?_ ?_
  · refine z_iload_n C dX10_lesser_9 1 rfl ?_
    exact z_iret C dX10_lesser_10
  · refine z_iload_n C dX10_lesser_5 0 rfl ?_
    refine z_goto (tgt := 10) C dX10_lesser_6 (by decide) ?_
    exact z_iret C dX10_lesser_10
theorem m_X10_lesser {l : Launch} {G : zG} {x0 : Int32} {x1 : Int32} {σ σ1 : zS} {r : Int32} (h : f_X10_lesser x0 x1 σ = some (r, σ1)) : zM l G zshB yX10_lesser cX10_lesser 2 (some .int) 0 [.int x0, .int x1] (zov (some .int) G r) σ σ1 :=
  z_met (by decide) (Nat.le_of_ble_eq_true rfl) h (fun K _ hG C => by subst hG; exact b_X10_lesser K C x0 x1 σ)
theorem b_X10_isBelow (K : zK) (C : zOk zshB K RX10 cX10_isBelow (some .boolean) 3 1) (x1 : Int32) (x2 : Int32) (σ : zS) : Zf zshB K (f_X10_isBelow x1 x2 σ) 0 [(0, .ref (ga (kG K) 0)), (1, .int x1), (2, .int x2)] [] σ := by
  unfold f_X10_isBelow
  refine z_aload_n C dX10_isBelow_0 0 rfl ?_
  refine z_iload_n C dX10_isBelow_1 1 rfl ?_
  refine z_iconst (v := 0) C dX10_isBelow_2 (by decide) ?_
  refine z_callVi (q := 0) (As := [.int x1, .int 0]) (st := []) C zy_X10_at zv_X10_at ml_X10_172 rcB_0 (by decide) (fun _ _ h => m_X10_at h) rfl rfl (Nat.le_of_ble_eq_true rfl) dX10_isBelow_3 (fun v1 σ1 => ?_)
  refine z_aload_n C dX10_isBelow_6 0 rfl ?_
  refine z_iload_n C dX10_isBelow_7 2 rfl ?_
  refine z_iconst (v := 0) C dX10_isBelow_8 (by decide) ?_
  refine z_callVi (q := 0) (As := [.int x2, .int 0]) (st := [.int v1]) C zy_X10_at zv_X10_at ml_X10_172 rcB_0 (by decide) (fun _ _ h => m_X10_at h) rfl rfl (Nat.le_of_ble_eq_true rfl) dX10_isBelow_9 (fun v2 σ2 => ?_)
  refine z_icmp_ne (tgt := 36) C dX10_isBelow_12 (by decide) ?_ ?_
  · refine z_aload_n C dX10_isBelow_15 0 rfl ?_
    refine z_iload_n C dX10_isBelow_16 1 rfl ?_
    refine z_bipush (v := 6) C dX10_isBelow_17 (by decide) ?_
    refine z_callVi (q := 0) (As := [.int x1, .int 6]) (st := []) C zy_X10_at zv_X10_at ml_X10_172 rcB_0 (by decide) (fun _ _ h => m_X10_at h) rfl rfl (Nat.le_of_ble_eq_true rfl) dX10_isBelow_19 (fun v3 σ3 => ?_)
    refine z_aload_n C dX10_isBelow_22 0 rfl ?_
    refine z_iload_n C dX10_isBelow_23 2 rfl ?_
    refine z_bipush (v := 6) C dX10_isBelow_24 (by decide) ?_
    refine z_callVi (q := 0) (As := [.int x2, .int 6]) (st := [.int v3]) C zy_X10_at zv_X10_at ml_X10_172 rcB_0 (by decide) (fun _ _ h => m_X10_at h) rfl rfl (Nat.le_of_ble_eq_true rfl) dX10_isBelow_26 (fun v4 σ4 => ?_)
    refine z_icmp_le (tgt := 36) C dX10_isBelow_29 (by decide) ?_ ?_
    · refine z_iconst (v := 0) C dX10_isBelow_36 (by decide) ?_
      exact z_zret C (by decide) dX10_isBelow_37
    · refine z_iconst (v := 1) C dX10_isBelow_32 (by decide) ?_
      refine z_goto (tgt := 37) C dX10_isBelow_33 (by decide) ?_
      exact z_zret C (by decide) dX10_isBelow_37
  · refine z_iconst (v := 0) C dX10_isBelow_36 (by decide) ?_
    exact z_zret C (by decide) dX10_isBelow_37
theorem m_X10_isBelow {l : Launch} {G : zG} {x1 : Int32} {x2 : Int32} {σ σ1 : zS} {r : Int32} (h : f_X10_isBelow x1 x2 σ = some (r, σ1)) : zM l G zshB yX10_isBelow cX10_isBelow 3 (some .boolean) 1 [.ref (ga G 0), .int x1, .int x2] (zov (some .boolean) G r) σ σ1 :=
  z_met (by decide) (Nat.le_of_ble_eq_true rfl) h (fun K _ hG C => by subst hG; exact b_X10_isBelow K C x1 x2 σ)
theorem b_X10_goRound_J73 (K : zK) (C : zOk zshB K RX10 cX10_goRound none 3 2) (x1 : Int32) (x2 : Int32) (k12 : Int32 → zS → Option (Int32 × zS)) (hk12 : ∀ (x2 : Int32) (σ : zS), Zf zshB K (k12 x2 σ) 12 [(0, .ref (ga (kG K) 0)), (1, .int x1), (2, .int x2)] [] σ) (σ : zS) : Zf zshB K (f_X10_goRound_J73 k12 x1 x2 σ) 73 [(0, .ref (ga (kG K) 0)), (1, .int x1), (2, .int x2)] [] σ := by
  unfold f_X10_goRound_J73
  refine z_aload_n C dX10_goRound_73 0 rfl ?_
  refine z_iload_n C dX10_goRound_74 1 rfl ?_
  refine z_iload_n C dX10_goRound_75 2 rfl ?_
  refine z_callVz (q := 0) (As := [.int x1, .int x2]) (st := []) C zy_X10_isBelow zv_X10_isBelow ml_X10_205 rcB_0 (by decide) (fun _ _ h => m_X10_isBelow h) rfl rfl (Nat.le_of_ble_eq_true rfl) dX10_goRound_76 (fun v1 σ1 => ?_)
  refine z_if_eq (tgt := 124) C dX10_goRound_79 (by decide) ?_ ?_
  · refine z_iinc (v := 1) (lv1 := [(2, .int (x2 + 1)), (0, .ref (ga (kG K) 0)), (1, .int x1)]) C dX10_goRound_124 2 rfl (by decide) (by decide) rfl ?_
    refine z_goto (tgt := 12) C dX10_goRound_127 (by decide) ?_
    exact z_sub [1, 2, 0] rfl (hk12 (x2 + 1) σ1)
  · refine z_aload_n C dX10_goRound_82 0 rfl ?_
    refine z_getR C fd_X10_47 dX10_goRound_83 ?_
    refine z_iload_n C dX10_goRound_86 2 rfl ?_
    refine z_aload_n C dX10_goRound_87 0 rfl ?_
    refine z_getR C fd_X10_47 dX10_goRound_88 ?_
    refine z_iload_n C dX10_goRound_91 2 rfl ?_
    refine z_iald C sB_11 dX10_goRound_92 (fun v2 => ?_)
    refine z_aload_n C dX10_goRound_93 0 rfl ?_
    refine z_getR C fd_X10_47 dX10_goRound_94 ?_
    refine z_iload_n C dX10_goRound_97 1 rfl ?_
    refine z_iald C sB_11 dX10_goRound_98 (fun v3 => ?_)
    refine z_callSi (As := [.int v2, .int v3]) (st := [.int x2, .ref (ga (kG K) 11)]) C zy_X10_greater zs_X10_greater ml_X10_199 (by decide) (fun _ _ h => m_X10_greater h) rfl rfl (Nat.le_of_ble_eq_true rfl) dX10_goRound_99 (fun v4 σ4 => ?_)
    refine z_iast C sB_11 dX10_goRound_102 (fun σ5 => ?_)
    refine z_aload_n C dX10_goRound_103 0 rfl ?_
    refine z_getR C fd_X10_50 dX10_goRound_104 ?_
    refine z_iload_n C dX10_goRound_107 1 rfl ?_
    refine z_aload_n C dX10_goRound_108 0 rfl ?_
    refine z_getR C fd_X10_50 dX10_goRound_109 ?_
    refine z_iload_n C dX10_goRound_112 1 rfl ?_
    refine z_iald C sB_12 dX10_goRound_113 (fun v6 => ?_)
    refine z_aload_n C dX10_goRound_114 0 rfl ?_
    refine z_getR C fd_X10_50 dX10_goRound_115 ?_
    refine z_iload_n C dX10_goRound_118 2 rfl ?_
    refine z_iald C sB_12 dX10_goRound_119 (fun v7 => ?_)
    refine z_callSi (As := [.int v6, .int v7]) (st := [.int x1, .ref (ga (kG K) 12)]) C zy_X10_lesser zs_X10_lesser ml_X10_202 (by decide) (fun _ _ h => m_X10_lesser h) rfl rfl (Nat.le_of_ble_eq_true rfl) dX10_goRound_120 (fun v8 σ8 => ?_)
    refine z_iast C sB_12 dX10_goRound_123 (fun σ9 => ?_)
    refine z_iinc (v := 1) (lv1 := [(2, .int (x2 + 1)), (0, .ref (ga (kG K) 0)), (1, .int x1)]) C dX10_goRound_124 2 rfl (by decide) (by decide) rfl ?_
    refine z_goto (tgt := 12) C dX10_goRound_127 (by decide) ?_
    exact z_sub [1, 2, 0] rfl (hk12 (x2 + 1) σ9)
theorem b_X10_goRound_L12 (K : zK) (C : zOk zshB K RX10 cX10_goRound none 3 2) (x1 : Int32) (k2 : Int32 → zS → Option (Int32 × zS)) (hk2 : ∀ (x1 : Int32) (σ : zS), Zf zshB K (k2 x1 σ) 2 [(0, .ref (ga (kG K) 0)), (1, .int x1)] [] σ) : ∀ (n : Nat) (x2 : Int32) (σ : zS), Zf zshB K (f_X10_goRound_L12 k2 x1 n x2 σ) 12 [(0, .ref (ga (kG K) 0)), (1, .int x1), (2, .int x2)] [] σ := by
  intro n
  induction n with
  | zero => intro x2 σ; rw [f_X10_goRound_L12]; exact z_none
  | succ n ih =>
  intro x2 σ
  rw [f_X10_goRound_L12]
  refine z_iload_n C dX10_goRound_12 2 rfl ?_
  refine z_aload_n C dX10_goRound_13 0 rfl ?_
  refine z_getI C fd_X10_78 dX10_goRound_14 ?_
  refine z_icmp_ge (tgt := 130) C dX10_goRound_17 (by decide) ?_ ?_
  · refine z_aload_n C dX10_goRound_130 0 rfl ?_
    refine z_iload_n C dX10_goRound_131 1 rfl ?_
    refine z_callVz (q := 0) (As := [.int x1]) (st := []) C zy_X10_isReused zv_X10_isReused ml_X10_196 rcB_0 (by decide) (fun _ _ h => m_X10_isReused h) rfl rfl (Nat.le_of_ble_eq_true rfl) dX10_goRound_132 (fun v1 σ1 => ?_)
    refine z_if_eq (tgt := 225) C dX10_goRound_135 (by decide) ?_ ?_
    · refine z_aload_n C dX10_goRound_225 0 rfl ?_
      refine z_getR C fd_X10_47 dX10_goRound_226 ?_
      refine z_iload_n C dX10_goRound_229 1 rfl ?_
      refine z_aload_n C dX10_goRound_230 0 rfl ?_
      refine z_getR C fd_X10_47 dX10_goRound_231 ?_
      refine z_iload_n C dX10_goRound_234 1 rfl ?_
      refine z_iald C sB_11 dX10_goRound_235 (fun v2 => ?_)
      refine z_aload_n C dX10_goRound_236 0 rfl ?_
      refine z_getR C fd_X10_35 dX10_goRound_237 ?_
      refine z_iload_n C dX10_goRound_240 1 rfl ?_
      refine z_iald C sB_7 dX10_goRound_241 (fun v3 => ?_)
      refine z_callSi (As := [.int v2, .int v3]) (st := [.int x1, .ref (ga (kG K) 11)]) C zy_X10_greater zs_X10_greater ml_X10_199 (by decide) (fun _ _ h => m_X10_greater h) rfl rfl (Nat.le_of_ble_eq_true rfl) dX10_goRound_242 (fun v4 σ4 => ?_)
      refine z_iast C sB_11 dX10_goRound_245 (fun σ5 => ?_)
      refine z_aload_n C dX10_goRound_246 0 rfl ?_
      refine z_getR C fd_X10_38 dX10_goRound_247 ?_
      refine z_iload_n C dX10_goRound_250 1 rfl ?_
      refine z_aload_n C dX10_goRound_251 0 rfl ?_
      refine z_getR C fd_X10_38 dX10_goRound_252 ?_
      refine z_iload_n C dX10_goRound_255 1 rfl ?_
      refine z_iald C sB_8 dX10_goRound_256 (fun v6 => ?_)
      refine z_aload_n C dX10_goRound_257 0 rfl ?_
      refine z_getR C fd_X10_50 dX10_goRound_258 ?_
      refine z_iload_n C dX10_goRound_261 1 rfl ?_
      refine z_iald C sB_12 dX10_goRound_262 (fun v7 => ?_)
      refine z_callSi (As := [.int v6, .int v7]) (st := [.int x1, .ref (ga (kG K) 8)]) C zy_X10_lesser zs_X10_lesser ml_X10_202 (by decide) (fun _ _ h => m_X10_lesser h) rfl rfl (Nat.le_of_ble_eq_true rfl) dX10_goRound_263 (fun v8 σ8 => ?_)
      refine z_iast C sB_8 dX10_goRound_266 (fun σ9 => ?_)
      refine z_iinc (v := 1) (lv1 := [(1, .int (x1 + 1)), (0, .ref (ga (kG K) 0)), (2, .int x2)]) C dX10_goRound_267 1 rfl (by decide) (by decide) rfl ?_
      refine z_goto (tgt := 2) C dX10_goRound_270 (by decide) ?_
      exact z_sub [1, 0] rfl (hk2 (x1 + 1) σ9)
    · refine z_aload_n C dX10_goRound_138 0 rfl ?_
      refine z_getR C fd_X10_41 dX10_goRound_139 ?_
      refine z_iload_n C dX10_goRound_142 1 rfl ?_
      refine z_aload_n C dX10_goRound_143 0 rfl ?_
      refine z_getR C fd_X10_41 dX10_goRound_144 ?_
      refine z_iload_n C dX10_goRound_147 1 rfl ?_
      refine z_iald C sB_9 dX10_goRound_148 (fun v2 => ?_)
      refine z_aload_n C dX10_goRound_149 0 rfl ?_
      refine z_getR C fd_X10_35 dX10_goRound_150 ?_
      refine z_iload_n C dX10_goRound_153 1 rfl ?_
      refine z_iald C sB_7 dX10_goRound_154 (fun v3 => ?_)
      refine z_callSi (As := [.int v2, .int v3]) (st := [.int x1, .ref (ga (kG K) 9)]) C zy_X10_greater zs_X10_greater ml_X10_199 (by decide) (fun _ _ h => m_X10_greater h) rfl rfl (Nat.le_of_ble_eq_true rfl) dX10_goRound_155 (fun v4 σ4 => ?_)
      refine z_iast C sB_9 dX10_goRound_158 (fun σ5 => ?_)
      refine z_aload_n C dX10_goRound_159 0 rfl ?_
      refine z_getR C fd_X10_47 dX10_goRound_160 ?_
      refine z_iload_n C dX10_goRound_163 1 rfl ?_
      refine z_aload_n C dX10_goRound_164 0 rfl ?_
      refine z_getR C fd_X10_47 dX10_goRound_165 ?_
      refine z_iload_n C dX10_goRound_168 1 rfl ?_
      refine z_iald C sB_11 dX10_goRound_169 (fun v6 => ?_)
      refine z_aload_n C dX10_goRound_170 0 rfl ?_
      refine z_getR C fd_X10_41 dX10_goRound_171 ?_
      refine z_iload_n C dX10_goRound_174 1 rfl ?_
      refine z_iald C sB_9 dX10_goRound_175 (fun v7 => ?_)
      refine z_callSi (As := [.int v6, .int v7]) (st := [.int x1, .ref (ga (kG K) 11)]) C zy_X10_greater zs_X10_greater ml_X10_199 (by decide) (fun _ _ h => m_X10_greater h) rfl rfl (Nat.le_of_ble_eq_true rfl) dX10_goRound_176 (fun v8 σ8 => ?_)
      refine z_iast C sB_11 dX10_goRound_179 (fun σ9 => ?_)
      refine z_aload_n C dX10_goRound_180 0 rfl ?_
      refine z_getR C fd_X10_44 dX10_goRound_181 ?_
      refine z_iload_n C dX10_goRound_184 1 rfl ?_
      refine z_aload_n C dX10_goRound_185 0 rfl ?_
      refine z_getR C fd_X10_44 dX10_goRound_186 ?_
      refine z_iload_n C dX10_goRound_189 1 rfl ?_
      refine z_iald C sB_10 dX10_goRound_190 (fun v10 => ?_)
      refine z_aload_n C dX10_goRound_191 0 rfl ?_
      refine z_getR C fd_X10_50 dX10_goRound_192 ?_
      refine z_iload_n C dX10_goRound_195 1 rfl ?_
      refine z_iald C sB_12 dX10_goRound_196 (fun v11 => ?_)
      refine z_callSi (As := [.int v10, .int v11]) (st := [.int x1, .ref (ga (kG K) 10)]) C zy_X10_lesser zs_X10_lesser ml_X10_202 (by decide) (fun _ _ h => m_X10_lesser h) rfl rfl (Nat.le_of_ble_eq_true rfl) dX10_goRound_197 (fun v12 σ12 => ?_)
      refine z_iast C sB_10 dX10_goRound_200 (fun σ13 => ?_)
      refine z_aload_n C dX10_goRound_201 0 rfl ?_
      refine z_getR C fd_X10_38 dX10_goRound_202 ?_
      refine z_iload_n C dX10_goRound_205 1 rfl ?_
      refine z_aload_n C dX10_goRound_206 0 rfl ?_
      refine z_getR C fd_X10_38 dX10_goRound_207 ?_
      refine z_iload_n C dX10_goRound_210 1 rfl ?_
      refine z_iald C sB_8 dX10_goRound_211 (fun v14 => ?_)
      refine z_aload_n C dX10_goRound_212 0 rfl ?_
      refine z_getR C fd_X10_44 dX10_goRound_213 ?_
      refine z_iload_n C dX10_goRound_216 1 rfl ?_
      refine z_iald C sB_10 dX10_goRound_217 (fun v15 => ?_)
      refine z_callSi (As := [.int v14, .int v15]) (st := [.int x1, .ref (ga (kG K) 8)]) C zy_X10_lesser zs_X10_lesser ml_X10_202 (by decide) (fun _ _ h => m_X10_lesser h) rfl rfl (Nat.le_of_ble_eq_true rfl) dX10_goRound_218 (fun v16 σ16 => ?_)
      refine z_iast C sB_8 dX10_goRound_221 (fun σ17 => ?_)
      refine z_goto (tgt := 267) C dX10_goRound_222 (by decide) ?_
      refine z_iinc (v := 1) (lv1 := [(1, .int (x1 + 1)), (0, .ref (ga (kG K) 0)), (2, .int x2)]) C dX10_goRound_267 1 rfl (by decide) (by decide) rfl ?_
      refine z_goto (tgt := 2) C dX10_goRound_270 (by decide) ?_
      exact z_sub [1, 0] rfl (hk2 (x1 + 1) σ17)
  · refine z_aload_n C dX10_goRound_20 0 rfl ?_
    refine z_iload_n C dX10_goRound_21 1 rfl ?_
    refine z_bipush (v := 9) C dX10_goRound_22 (by decide) ?_
    refine z_callVi (q := 0) (As := [.int x1, .int 9]) (st := []) C zy_X10_at zv_X10_at ml_X10_172 rcB_0 (by decide) (fun _ _ h => m_X10_at h) rfl rfl (Nat.le_of_ble_eq_true rfl) dX10_goRound_24 (fun v1 σ1 => ?_)
    refine z_iload_n C dX10_goRound_27 2 rfl ?_
    refine z_icmp_ne (tgt := 73) C dX10_goRound_28 (by decide) ?_ ?_
    · refine z_aload_n C dX10_goRound_31 0 rfl ?_
      refine z_getR C fd_X10_35 dX10_goRound_32 ?_
      refine z_iload_n C dX10_goRound_35 1 rfl ?_
      refine z_aload_n C dX10_goRound_36 0 rfl ?_
      refine z_getR C fd_X10_35 dX10_goRound_37 ?_
      refine z_iload_n C dX10_goRound_40 1 rfl ?_
      refine z_iald C sB_7 dX10_goRound_41 (fun v2 => ?_)
      refine z_aload_n C dX10_goRound_42 0 rfl ?_
      refine z_getR C fd_X10_35 dX10_goRound_43 ?_
      refine z_iload_n C dX10_goRound_46 2 rfl ?_
      refine z_iald C sB_7 dX10_goRound_47 (fun v3 => ?_)
      refine z_callSi (As := [.int v2, .int v3]) (st := [.int x1, .ref (ga (kG K) 7)]) C zy_X10_greater zs_X10_greater ml_X10_199 (by decide) (fun _ _ h => m_X10_greater h) rfl rfl (Nat.le_of_ble_eq_true rfl) dX10_goRound_48 (fun v4 σ4 => ?_)
      refine z_iast C sB_7 dX10_goRound_51 (fun σ5 => ?_)
      refine z_aload_n C dX10_goRound_52 0 rfl ?_
      refine z_getR C fd_X10_38 dX10_goRound_53 ?_
      refine z_iload_n C dX10_goRound_56 2 rfl ?_
      refine z_aload_n C dX10_goRound_57 0 rfl ?_
      refine z_getR C fd_X10_38 dX10_goRound_58 ?_
      refine z_iload_n C dX10_goRound_61 2 rfl ?_
      refine z_iald C sB_8 dX10_goRound_62 (fun v6 => ?_)
      refine z_aload_n C dX10_goRound_63 0 rfl ?_
      refine z_getR C fd_X10_38 dX10_goRound_64 ?_
      refine z_iload_n C dX10_goRound_67 1 rfl ?_
      refine z_iald C sB_8 dX10_goRound_68 (fun v7 => ?_)
      refine z_callSi (As := [.int v6, .int v7]) (st := [.int x2, .ref (ga (kG K) 8)]) C zy_X10_lesser zs_X10_lesser ml_X10_202 (by decide) (fun _ _ h => m_X10_lesser h) rfl rfl (Nat.le_of_ble_eq_true rfl) dX10_goRound_69 (fun v8 σ8 => ?_)
      refine z_iast C sB_8 dX10_goRound_72 (fun σ9 => ?_)
      exact z_sub [0, 1, 2] rfl (b_X10_goRound_J73 K C x1 x2 _ ih σ9)
    · exact z_sub [0, 1, 2] rfl (b_X10_goRound_J73 K C x1 x2 _ ih σ1)
theorem b_X10_goRound_L2 (K : zK) (C : zOk zshB K RX10 cX10_goRound none 3 2) : ∀ (n : Nat) (x1 : Int32) (σ : zS), Zf zshB K (f_X10_goRound_L2 n x1 σ) 2 [(0, .ref (ga (kG K) 0)), (1, .int x1)] [] σ := by
  intro n
  induction n with
  | zero => intro x1 σ; rw [f_X10_goRound_L2]; exact z_none
  | succ n ih =>
  intro x1 σ
  rw [f_X10_goRound_L2]
  refine z_iload_n C dX10_goRound_2 1 rfl ?_
  refine z_aload_n C dX10_goRound_3 0 rfl ?_
  refine z_getI C fd_X10_78 dX10_goRound_4 ?_
  refine z_icmp_ge (tgt := 273) C dX10_goRound_7 (by decide) ?_ ?_
  · exact z_vret C dX10_goRound_273
  · refine z_iconst (v := 0) C dX10_goRound_10 (by decide) ?_
    refine z_istore_n (lv1 := [(2, .int 0), (0, .ref (ga (kG K) 0)), (1, .int x1)]) C dX10_goRound_11 (by decide) rfl ?_
    exact z_sub [1, 2, 0] rfl (b_X10_goRound_L12 K C x1 _ ih zfu 0 σ)
theorem b_X10_goRound (K : zK) (C : zOk zshB K RX10 cX10_goRound none 3 2) (σ : zS) : Zf zshB K (f_X10_goRound σ) 0 [(0, .ref (ga (kG K) 0))] [] σ := by
  unfold f_X10_goRound
  refine z_iconst (v := 0) C dX10_goRound_0 (by decide) ?_
  refine z_istore_n (lv1 := [(1, .int 0), (0, .ref (ga (kG K) 0))]) C dX10_goRound_1 (by decide) rfl ?_
  exact z_sub [1, 0] rfl (b_X10_goRound_L2 K C zfu 0 σ)
theorem m_X10_goRound {l : Launch} {G : zG} {σ σ1 : zS} {r : Int32} (h : f_X10_goRound σ = some (r, σ1)) : zM l G zshB yX10_goRound cX10_goRound 3 none 2 [.ref (ga G 0)] (zov none G r) σ σ1 :=
  z_met (by decide) (Nat.le_of_ble_eq_true rfl) h (fun K _ hG C => by subst hG; exact b_X10_goRound K C σ)
theorem b_X10_warmthOf (K : zK) (C : zOk zshB K RX10 cX10_warmthOf (some .int) 2 1) (x1 : Int32) (σ : zS) : Zf zshB K (f_X10_warmthOf x1 σ) 0 [(0, .ref (ga (kG K) 0)), (1, .int x1)] [] σ := by
  unfold f_X10_warmthOf
  refine z_aload_n C dX10_warmthOf_0 0 rfl ?_
  refine z_getR C fd_X10_7 dX10_warmthOf_1 ?_
  refine z_iconst (v := 3) C dX10_warmthOf_4 (by decide) ?_
  refine z_aload_n C dX10_warmthOf_5 0 rfl ?_
  refine z_iload_n C dX10_warmthOf_6 1 rfl ?_
  refine z_iconst (v := 0) C dX10_warmthOf_7 (by decide) ?_
  refine z_callVi (q := 0) (As := [.int x1, .int 0]) (st := [.int 3, .ref (ga (kG K) 1)]) C zy_X10_at zv_X10_at ml_X10_172 rcB_0 (by decide) (fun _ _ h => m_X10_at h) rfl rfl (Nat.le_of_ble_eq_true rfl) dX10_warmthOf_8 (fun v1 σ1 => ?_)
  refine z_imul C dX10_warmthOf_11 ?_
  refine z_iconst (v := 2) C dX10_warmthOf_12 (by decide) ?_
  refine z_iadd C dX10_warmthOf_13 ?_
  refine z_iald C sB_1 dX10_warmthOf_14 (fun v2 => ?_)
  exact z_iret C dX10_warmthOf_15
theorem m_X10_warmthOf {l : Launch} {G : zG} {x1 : Int32} {σ σ1 : zS} {r : Int32} (h : f_X10_warmthOf x1 σ = some (r, σ1)) : zM l G zshB yX10_warmthOf cX10_warmthOf 2 (some .int) 1 [.ref (ga G 0), .int x1] (zov (some .int) G r) σ σ1 :=
  z_met (by decide) (Nat.le_of_ble_eq_true rfl) h (fun K _ hG C => by subst hG; exact b_X10_warmthOf K C x1 σ)
theorem b_X10_ago (K : zK) (C : zOk zshB K RX10 cX10_ago (some .int) 3 0) (x0 : Int32) (x1 : Int32) (σ : zS) : Zf zshB K (f_X10_ago x0 x1 σ) 0 [(0, .int x0), (1, .int x1)] [] σ := by
  unfold f_X10_ago
  refine z_iload_n C dX10_ago_0 0 rfl ?_
  refine z_iload_n C dX10_ago_1 0 rfl ?_
  refine z_imul C dX10_ago_2 ?_
  refine z_iload_n C dX10_ago_3 1 rfl ?_
  refine z_idiv C dX10_ago_4 (fun v1 => ?_)
  refine z_istore_n (lv1 := [(2, .int v1), (0, .int x0), (1, .int x1)]) C dX10_ago_5 (by decide) rfl ?_
  refine z_iload_n C dX10_ago_6 0 rfl ?_
  refine z_sipush (v := 9999) C dX10_ago_7 (by decide) ?_
  refine z_icmp_le (tgt := 17) C dX10_ago_10 (by decide) ?_ ?_
  · refine z_sipush (v := 9999) C dX10_ago_17 (by decide) ?_
    refine z_iload_n C dX10_ago_20 0 rfl ?_
    refine z_isub C dX10_ago_21 ?_
    exact z_iret C dX10_ago_22
  · refine z_iconst (v := 0) C dX10_ago_13 (by decide) ?_
    refine z_goto (tgt := 22) C dX10_ago_14 (by decide) ?_
    exact z_iret C dX10_ago_22
theorem m_X10_ago {l : Launch} {G : zG} {x0 : Int32} {x1 : Int32} {σ σ1 : zS} {r : Int32} (h : f_X10_ago x0 x1 σ = some (r, σ1)) : zM l G zshB yX10_ago cX10_ago 3 (some .int) 0 [.int x0, .int x1] (zov (some .int) G r) σ σ1 :=
  z_met (by decide) (Nat.le_of_ble_eq_true rfl) h (fun K _ hG C => by subst hG; exact b_X10_ago K C x0 x1 σ)
theorem b_X10_begin_J233 (K : zK) (C : zOk zshB K RX10 cX10_begin none 5 3) (x1 : Int32) (σ : zS) : Zf zshB K (f_X10_begin_J233 x1 σ) 233 [(0, .ref (ga (kG K) 0)), (1, .int x1)] [] σ := by
  unfold f_X10_begin_J233
  refine z_aload_n C dX10_begin_233 0 rfl ?_
  refine z_getR C fd_X10_47 dX10_begin_234 ?_
  refine z_iload_n C dX10_begin_237 1 rfl ?_
  refine z_aload_n C dX10_begin_238 0 rfl ?_
  refine z_getR C fd_X10_7 dX10_begin_239 ?_
  refine z_iconst (v := 3) C dX10_begin_242 (by decide) ?_
  refine z_aload_n C dX10_begin_243 0 rfl ?_
  refine z_iload_n C dX10_begin_244 1 rfl ?_
  refine z_iconst (v := 0) C dX10_begin_245 (by decide) ?_
  refine z_callVi (q := 0) (As := [.int x1, .int 0]) (st := [.int 3, .ref (ga (kG K) 1), .int x1, .ref (ga (kG K) 11)]) C zy_X10_at zv_X10_at ml_X10_172 rcB_0 (by decide) (fun _ _ h => m_X10_at h) rfl rfl (Nat.le_of_ble_eq_true rfl) dX10_begin_246 (fun v1 σ1 => ?_)
  refine z_imul C dX10_begin_249 ?_
  refine z_iald C sB_1 dX10_begin_250 (fun v2 => ?_)
  refine z_iast C sB_11 dX10_begin_251 (fun σ3 => ?_)
  refine z_aload_n C dX10_begin_252 0 rfl ?_
  refine z_getR C fd_X10_50 dX10_begin_253 ?_
  refine z_iload_n C dX10_begin_256 1 rfl ?_
  refine z_aload_n C dX10_begin_257 0 rfl ?_
  refine z_getR C fd_X10_7 dX10_begin_258 ?_
  refine z_iconst (v := 3) C dX10_begin_261 (by decide) ?_
  refine z_aload_n C dX10_begin_262 0 rfl ?_
  refine z_iload_n C dX10_begin_263 1 rfl ?_
  refine z_iconst (v := 0) C dX10_begin_264 (by decide) ?_
  refine z_callVi (q := 0) (As := [.int x1, .int 0]) (st := [.int 3, .ref (ga (kG K) 1), .int x1, .ref (ga (kG K) 12)]) C zy_X10_at zv_X10_at ml_X10_172 rcB_0 (by decide) (fun _ _ h => m_X10_at h) rfl rfl (Nat.le_of_ble_eq_true rfl) dX10_begin_265 (fun v4 σ4 => ?_)
  refine z_imul C dX10_begin_268 ?_
  refine z_iconst (v := 1) C dX10_begin_269 (by decide) ?_
  refine z_iadd C dX10_begin_270 ?_
  refine z_iald C sB_1 dX10_begin_271 (fun v5 => ?_)
  refine z_iast C sB_12 dX10_begin_272 (fun σ6 => ?_)
  exact z_vret C dX10_begin_273
theorem b_X10_begin_J179 (K : zK) (C : zOk zshB K RX10 cX10_begin none 5 3) (x1 : Int32) (σ : zS) : Zf zshB K (f_X10_begin_J179 x1 σ) 179 [(0, .ref (ga (kG K) 0)), (1, .int x1)] [] σ := by
  unfold f_X10_begin_J179
  refine z_aload_n C dX10_begin_179 0 rfl ?_
  refine z_iload_n C dX10_begin_180 1 rfl ?_
  refine z_callVz (q := 0) (As := [.int x1]) (st := []) C zy_X10_isReused zv_X10_isReused ml_X10_196 rcB_0 (by decide) (fun _ _ h => m_X10_isReused h) rfl rfl (Nat.le_of_ble_eq_true rfl) dX10_begin_181 (fun v1 σ1 => ?_)
  refine z_if_eq (tgt := 233) C dX10_begin_184 (by decide) ?_ ?_
  · exact z_sub [0, 1] rfl (b_X10_begin_J233 K C x1 σ1)
  · refine z_aload_n C dX10_begin_187 0 rfl ?_
    refine z_getR C fd_X10_41 dX10_begin_188 ?_
    refine z_iload_n C dX10_begin_191 1 rfl ?_
    refine z_aload_n C dX10_begin_192 0 rfl ?_
    refine z_iload_n C dX10_begin_193 1 rfl ?_
    refine z_bipush (v := 8) C dX10_begin_194 (by decide) ?_
    refine z_callVi (q := 0) (As := [.int x1, .int 8]) (st := [.int x1, .ref (ga (kG K) 9)]) C zy_X10_at zv_X10_at ml_X10_172 rcB_0 (by decide) (fun _ _ h => m_X10_at h) rfl rfl (Nat.le_of_ble_eq_true rfl) dX10_begin_196 (fun v2 σ2 => ?_)
    refine z_iconst (v := 1) C dX10_begin_199 (by decide) ?_
    refine z_iadd C dX10_begin_200 ?_
    refine z_aload_n C dX10_begin_201 0 rfl ?_
    refine z_iload_n C dX10_begin_202 1 rfl ?_
    refine z_callVi (q := 0) (As := [.int x1]) (st := [.int (v2 + 1), .int x1, .ref (ga (kG K) 9)]) C zy_X10_warmthOf zv_X10_warmthOf ml_X10_190 rcB_0 (by decide) (fun _ _ h => m_X10_warmthOf h) rfl rfl (Nat.le_of_ble_eq_true rfl) dX10_begin_203 (fun v3 σ3 => ?_)
    refine z_callSi (As := [.int (v2 + 1), .int v3]) (st := [.int x1, .ref (ga (kG K) 9)]) C zy_X10_ago zs_X10_ago ml_X10_193 (by decide) (fun _ _ h => m_X10_ago h) rfl rfl (Nat.le_of_ble_eq_true rfl) dX10_begin_206 (fun v4 σ4 => ?_)
    refine z_iast C sB_9 dX10_begin_209 (fun σ5 => ?_)
    refine z_aload_n C dX10_begin_210 0 rfl ?_
    refine z_getR C fd_X10_44 dX10_begin_211 ?_
    refine z_iload_n C dX10_begin_214 1 rfl ?_
    refine z_aload_n C dX10_begin_215 0 rfl ?_
    refine z_iload_n C dX10_begin_216 1 rfl ?_
    refine z_bipush (v := 8) C dX10_begin_217 (by decide) ?_
    refine z_callVi (q := 0) (As := [.int x1, .int 8]) (st := [.int x1, .ref (ga (kG K) 10)]) C zy_X10_at zv_X10_at ml_X10_172 rcB_0 (by decide) (fun _ _ h => m_X10_at h) rfl rfl (Nat.le_of_ble_eq_true rfl) dX10_begin_219 (fun v6 σ6 => ?_)
    refine z_iconst (v := 1) C dX10_begin_222 (by decide) ?_
    refine z_isub C dX10_begin_223 ?_
    refine z_aload_n C dX10_begin_224 0 rfl ?_
    refine z_iload_n C dX10_begin_225 1 rfl ?_
    refine z_callVi (q := 0) (As := [.int x1]) (st := [.int (v6 - 1), .int x1, .ref (ga (kG K) 10)]) C zy_X10_warmthOf zv_X10_warmthOf ml_X10_190 rcB_0 (by decide) (fun _ _ h => m_X10_warmthOf h) rfl rfl (Nat.le_of_ble_eq_true rfl) dX10_begin_226 (fun v7 σ7 => ?_)
    refine z_callSi (As := [.int (v6 - 1), .int v7]) (st := [.int x1, .ref (ga (kG K) 10)]) C zy_X10_ago zs_X10_ago ml_X10_193 (by decide) (fun _ _ h => m_X10_ago h) rfl rfl (Nat.le_of_ble_eq_true rfl) dX10_begin_229 (fun v8 σ8 => ?_)
    refine z_iast C sB_10 dX10_begin_232 (fun σ9 => ?_)
    exact z_sub [0, 1] rfl (b_X10_begin_J233 K C x1 σ9)
theorem b_X10_begin_J155 (K : zK) (C : zOk zshB K RX10 cX10_begin none 5 3) (x1 : Int32) (s0 : Int32) (s1 : Int32) (σ : zS) : Zf zshB K (f_X10_begin_J155 x1 s0 s1 σ) 155 [(0, .ref (ga (kG K) 0)), (1, .int x1)] [.int s0, .int s1, .ref (ga (kG K) 7)] σ := by
  unfold f_X10_begin_J155
  refine z_iast C sB_7 dX10_begin_155 (fun σ1 => ?_)
  refine z_aload_n C dX10_begin_156 0 rfl ?_
  refine z_getR C fd_X10_38 dX10_begin_157 ?_
  refine z_iload_n C dX10_begin_160 1 rfl ?_
  refine z_aload_n C dX10_begin_161 0 rfl ?_
  refine z_iload_n C dX10_begin_162 1 rfl ?_
  refine z_bipush (v := 7) C dX10_begin_163 (by decide) ?_
  refine z_callVi (q := 0) (As := [.int x1, .int 7]) (st := [.int x1, .ref (ga (kG K) 8)]) C zy_X10_at zv_X10_at ml_X10_172 rcB_0 (by decide) (fun _ _ h => m_X10_at h) rfl rfl (Nat.le_of_ble_eq_true rfl) dX10_begin_165 (fun v2 σ2 => ?_)
  refine z_iconst (v := 1) C dX10_begin_168 (by decide) ?_
  refine z_isub C dX10_begin_169 ?_
  refine z_aload_n C dX10_begin_170 0 rfl ?_
  refine z_iload_n C dX10_begin_171 1 rfl ?_
  refine z_callVi (q := 0) (As := [.int x1]) (st := [.int (v2 - 1), .int x1, .ref (ga (kG K) 8)]) C zy_X10_warmthOf zv_X10_warmthOf ml_X10_190 rcB_0 (by decide) (fun _ _ h => m_X10_warmthOf h) rfl rfl (Nat.le_of_ble_eq_true rfl) dX10_begin_172 (fun v3 σ3 => ?_)
  refine z_callSi (As := [.int (v2 - 1), .int v3]) (st := [.int x1, .ref (ga (kG K) 8)]) C zy_X10_ago zs_X10_ago ml_X10_193 (by decide) (fun _ _ h => m_X10_ago h) rfl rfl (Nat.le_of_ble_eq_true rfl) dX10_begin_175 (fun v4 σ4 => ?_)
  refine z_iast C sB_8 dX10_begin_178 (fun σ5 => ?_)
  exact z_sub [0, 1] rfl (b_X10_begin_J179 K C x1 σ5)
theorem b_X10_begin_L21 (K : zK) (C : zOk zshB K RX10 cX10_begin none 5 3) (x1 : Int32) (x2 : Int32) : ∀ (n : Nat) (x3 : Int32) (x4 : Int32) (σ : zS), Zf zshB K (f_X10_begin_L21 x1 x2 n x3 x4 σ) 21 [(0, .ref (ga (kG K) 0)), (1, .int x1), (2, .int x2), (3, .int x3), (4, .int x4)] [] σ := by
  intro n
  induction n with
  | zero => intro x3 x4 σ; rw [f_X10_begin_L21]; exact z_none
  | succ n ih =>
  intro x3 x4 σ
  rw [f_X10_begin_L21]
  refine z_iload C dX10_begin_21 4 rfl ?_
  refine z_bipush (v := 9) C dX10_begin_23 (by decide) ?_
  refine z_icmp_ge (tgt := 77) C dX10_begin_25 (by decide) ?_ ?_
  · refine z_aload_n C dX10_begin_77 0 rfl ?_
    refine z_getR C fd_X10_35 dX10_begin_78 ?_
    refine z_iload_n C dX10_begin_81 1 rfl ?_
    refine z_iload_n C dX10_begin_82 3 rfl ?_
    refine z_iast C sB_7 dX10_begin_83 (fun σ1 => ?_)
    refine z_aload_n C dX10_begin_84 0 rfl ?_
    refine z_getR C fd_X10_38 dX10_begin_85 ?_
    refine z_iload_n C dX10_begin_88 1 rfl ?_
    refine z_sipush (v := 9999) C dX10_begin_89 (by decide) ?_
    refine z_iast C sB_8 dX10_begin_92 (fun σ2 => ?_)
    refine z_aload_n C dX10_begin_93 0 rfl ?_
    refine z_getR C fd_X10_41 dX10_begin_94 ?_
    refine z_iload_n C dX10_begin_97 1 rfl ?_
    refine z_iconst (v := 0) C dX10_begin_98 (by decide) ?_
    refine z_iast C sB_9 dX10_begin_99 (fun σ3 => ?_)
    refine z_aload_n C dX10_begin_100 0 rfl ?_
    refine z_getR C fd_X10_44 dX10_begin_101 ?_
    refine z_iload_n C dX10_begin_104 1 rfl ?_
    refine z_sipush (v := 9999) C dX10_begin_105 (by decide) ?_
    refine z_iast C sB_10 dX10_begin_108 (fun σ4 => ?_)
    refine z_aload_n C dX10_begin_109 0 rfl ?_
    refine z_iload_n C dX10_begin_110 1 rfl ?_
    refine z_bipush (v := 7) C dX10_begin_111 (by decide) ?_
    refine z_callVi (q := 0) (As := [.int x1, .int 7]) (st := []) C zy_X10_at zv_X10_at ml_X10_172 rcB_0 (by decide) (fun _ _ h => m_X10_at h) rfl rfl (Nat.le_of_ble_eq_true rfl) dX10_begin_113 (fun v5 σ5 => ?_)
    refine z_if_le (tgt := 179) C dX10_begin_116 (by decide) ?_ ?_
    · exact z_sub [0, 1] rfl (b_X10_begin_J179 K C x1 σ5)
    · refine z_aload_n C dX10_begin_119 0 rfl ?_
      refine z_iload_n C dX10_begin_120 1 rfl ?_
      refine z_bipush (v := 7) C dX10_begin_121 (by decide) ?_
      refine z_callVi (q := 0) (As := [.int x1, .int 7]) (st := []) C zy_X10_at zv_X10_at ml_X10_172 rcB_0 (by decide) (fun _ _ h => m_X10_at h) rfl rfl (Nat.le_of_ble_eq_true rfl) dX10_begin_123 (fun v6 σ6 => ?_)
      refine z_iconst (v := 1) C dX10_begin_126 (by decide) ?_
      refine z_iadd C dX10_begin_127 ?_
      refine z_aload_n C dX10_begin_128 0 rfl ?_
      refine z_iload_n C dX10_begin_129 1 rfl ?_
      refine z_callVi (q := 0) (As := [.int x1]) (st := [.int (v6 + 1)]) C zy_X10_warmthOf zv_X10_warmthOf ml_X10_190 rcB_0 (by decide) (fun _ _ h => m_X10_warmthOf h) rfl rfl (Nat.le_of_ble_eq_true rfl) dX10_begin_130 (fun v7 σ7 => ?_)
      refine z_callSi (As := [.int (v6 + 1), .int v7]) (st := []) C zy_X10_ago zs_X10_ago ml_X10_193 (by decide) (fun _ _ h => m_X10_ago h) rfl rfl (Nat.le_of_ble_eq_true rfl) dX10_begin_133 (fun v8 σ8 => ?_)
      refine z_istore (lv1 := [(4, .int v8), (0, .ref (ga (kG K) 0)), (1, .int x1), (2, .int x2), (3, .int x3)]) C dX10_begin_136 (by decide) rfl ?_
      refine z_aload_n C dX10_begin_138 1 rfl ?_
      refine z_getR C fd_X10_35 dX10_begin_139 ?_
      refine z_iload_n C dX10_begin_142 2 rfl ?_
      refine z_iload C dX10_begin_143 0 rfl ?_
      refine z_iload_n C dX10_begin_145 4 rfl ?_
      refine z_icmp_le (tgt := 154) C dX10_begin_146 (by decide) ?_ ?_
      · refine z_iload_n C dX10_begin_154 4 rfl ?_
        exact z_sub [1, 2] rfl (b_X10_begin_J155 K C x1 x3 x1 σ8)
      · refine z_iload C dX10_begin_149 0 rfl ?_
        refine z_goto (tgt := 155) C dX10_begin_151 (by decide) ?_
        exact z_sub [1, 2] rfl (b_X10_begin_J155 K C x1 v8 x1 σ8)
  · refine z_iload_n C dX10_begin_28 2 rfl ?_
    refine z_iload C dX10_begin_29 4 rfl ?_
    refine z_ishr C dX10_begin_31 ?_
    refine z_iconst (v := 1) C dX10_begin_32 (by decide) ?_
    refine z_iand C dX10_begin_33 ?_
    refine z_iconst (v := 1) C dX10_begin_34 (by decide) ?_
    refine z_icmp_ne (tgt := 69) C dX10_begin_35 (by decide) ?_ ?_
    · refine z_aload_n C dX10_begin_38 0 rfl ?_
      refine z_getR C fd_X10_16 dX10_begin_39 ?_
      refine z_bipush (v := 6) C dX10_begin_42 (by decide) ?_
      refine z_iload C dX10_begin_44 4 rfl ?_
      refine z_imul C dX10_begin_46 ?_
      refine z_iconst (v := 1) C dX10_begin_47 (by decide) ?_
      refine z_iadd C dX10_begin_48 ?_
      refine z_iald C sB_3 dX10_begin_49 (fun v1 => ?_)
      refine z_iload_n C dX10_begin_50 3 rfl ?_
      refine z_icmp_ge (tgt := 69) C dX10_begin_51 (by decide) ?_ ?_
      · refine z_iload_n C dX10_begin_69 3 rfl ?_
        refine z_istore_n (lv1 := [(3, .int x3), (0, .ref (ga (kG K) 0)), (1, .int x1), (2, .int x2), (4, .int x4)]) C dX10_begin_70 (by decide) rfl ?_
        refine z_iinc (v := 1) (lv1 := [(4, .int (x4 + 1)), (3, .int x3), (0, .ref (ga (kG K) 0)), (1, .int x1), (2, .int x2)]) C dX10_begin_71 4 rfl (by decide) (by decide) rfl ?_
        refine z_goto (tgt := 21) C dX10_begin_74 (by decide) ?_
        exact z_sub [2, 3, 4, 1, 0] rfl (ih x3 (x4 + 1) σ)
      · refine z_aload_n C dX10_begin_54 0 rfl ?_
        refine z_getR C fd_X10_16 dX10_begin_55 ?_
        refine z_bipush (v := 6) C dX10_begin_58 (by decide) ?_
        refine z_iload C dX10_begin_60 4 rfl ?_
        refine z_imul C dX10_begin_62 ?_
        refine z_iconst (v := 1) C dX10_begin_63 (by decide) ?_
        refine z_iadd C dX10_begin_64 ?_
        refine z_iald C sB_3 dX10_begin_65 (fun v2 => ?_)
        refine z_goto (tgt := 70) C dX10_begin_66 (by decide) ?_
        refine z_istore_n (lv1 := [(3, .int v2), (0, .ref (ga (kG K) 0)), (1, .int x1), (2, .int x2), (4, .int x4)]) C dX10_begin_70 (by decide) rfl ?_
        refine z_iinc (v := 1) (lv1 := [(4, .int (x4 + 1)), (3, .int v2), (0, .ref (ga (kG K) 0)), (1, .int x1), (2, .int x2)]) C dX10_begin_71 4 rfl (by decide) (by decide) rfl ?_
        refine z_goto (tgt := 21) C dX10_begin_74 (by decide) ?_
        exact z_sub [2, 3, 4, 1, 0] rfl (ih v2 (x4 + 1) σ)
    · refine z_iload_n C dX10_begin_69 3 rfl ?_
      refine z_istore_n (lv1 := [(3, .int x3), (0, .ref (ga (kG K) 0)), (1, .int x1), (2, .int x2), (4, .int x4)]) C dX10_begin_70 (by decide) rfl ?_
      refine z_iinc (v := 1) (lv1 := [(4, .int (x4 + 1)), (3, .int x3), (0, .ref (ga (kG K) 0)), (1, .int x1), (2, .int x2)]) C dX10_begin_71 4 rfl (by decide) (by decide) rfl ?_
      refine z_goto (tgt := 21) C dX10_begin_74 (by decide) ?_
      exact z_sub [2, 3, 4, 1, 0] rfl (ih x3 (x4 + 1) σ)
theorem b_X10_begin (K : zK) (C : zOk zshB K RX10 cX10_begin none 5 3) (x1 : Int32) (σ : zS) : Zf zshB K (f_X10_begin x1 σ) 0 [(0, .ref (ga (kG K) 0)), (1, .int x1)] [] σ := by
  unfold f_X10_begin
  refine z_aload_n C dX10_begin_0 0 rfl ?_
  refine z_iload_n C dX10_begin_1 1 rfl ?_
  refine z_callVi (q := 0) (As := [.int x1]) (st := []) C zy_X10_canBe zv_X10_canBe ml_X10_179 rcB_0 (by decide) (fun _ _ h => m_X10_canBe h) rfl rfl (Nat.le_of_ble_eq_true rfl) dX10_begin_2 (fun v1 σ1 => ?_)
  refine z_istore_n (lv1 := [(2, .int v1), (0, .ref (ga (kG K) 0)), (1, .int x1)]) C dX10_begin_5 (by decide) rfl ?_
  refine z_iload_n C dX10_begin_6 0 rfl ?_
  refine z_if_ne (tgt := 14) C dX10_begin_7 (by decide) ?_ ?_
  · refine z_iconst (v := 0) C dX10_begin_10 (by decide) ?_
    refine z_goto (tgt := 17) C dX10_begin_11 (by decide) ?_
    refine z_istore_n (lv1 := [(3, .int 0), (2, .int v1), (0, .ref (ga (kG K) 0)), (1, .int x1)]) C dX10_begin_17 (by decide) rfl ?_
    refine z_iconst (v := 0) C dX10_begin_18 (by decide) ?_
    refine z_istore (lv1 := [(4, .int 0), (3, .int 0), (2, .int v1), (0, .ref (ga (kG K) 0)), (1, .int x1)]) C dX10_begin_19 (by decide) rfl ?_
    exact z_sub [3, 4, 2, 1, 0] rfl (b_X10_begin_L21 K C x1 v1 zfu 0 0 σ1)
  · refine z_sipush (v := 9999) C dX10_begin_14 (by decide) ?_
    refine z_istore_n (lv1 := [(3, .int 9999), (2, .int v1), (0, .ref (ga (kG K) 0)), (1, .int x1)]) C dX10_begin_17 (by decide) rfl ?_
    refine z_iconst (v := 0) C dX10_begin_18 (by decide) ?_
    refine z_istore (lv1 := [(4, .int 0), (3, .int 9999), (2, .int v1), (0, .ref (ga (kG K) 0)), (1, .int x1)]) C dX10_begin_19 (by decide) rfl ?_
    exact z_sub [3, 4, 2, 1, 0] rfl (b_X10_begin_L21 K C x1 v1 zfu 9999 0 σ1)
theorem m_X10_begin {l : Launch} {G : zG} {x1 : Int32} {σ σ1 : zS} {r : Int32} (h : f_X10_begin x1 σ = some (r, σ1)) : zM l G zshB yX10_begin cX10_begin 5 none 3 [.ref (ga G 0), .int x1] (zov none G r) σ σ1 :=
  z_met (by decide) (Nat.le_of_ble_eq_true rfl) h (fun K _ hG C => by subst hG; exact b_X10_begin K C x1 σ)
theorem b_X10_areYears_J112 (K : zK) (C : zOk zshB K RX10 cX10_areYears (some .boolean) 3 4) (x2 : Int32) (k43 : Int32 → Int32 → zS → Option (Int32 × zS)) (hk43 : ∀ (x1 : Int32) (x2 : Int32) (σ : zS), Zf zshB K (k43 x1 x2 σ) 43 [(0, .ref (ga (kG K) 0)), (1, .int x1), (2, .int x2)] [] σ) (σ : zS) : Zf zshB K (f_X10_areYears_J112 k43 x2 σ) 112 [(0, .ref (ga (kG K) 0)), (2, .int x2)] [] σ := by
  unfold f_X10_areYears_J112
  refine z_iconst (v := 0) C dX10_areYears_112 (by decide) ?_
  refine z_istore_n (lv1 := [(1, .int 0), (0, .ref (ga (kG K) 0)), (2, .int x2)]) C dX10_areYears_113 (by decide) rfl ?_
  refine z_iinc (v := 1) (lv1 := [(2, .int (x2 + 1)), (1, .int 0), (0, .ref (ga (kG K) 0))]) C dX10_areYears_114 2 rfl (by decide) (by decide) rfl ?_
  refine z_goto (tgt := 43) C dX10_areYears_117 (by decide) ?_
  exact z_sub [2, 1, 0] rfl (hk43 0 (x2 + 1) σ)
theorem b_X10_areYears_L43 (K : zK) (C : zOk zshB K RX10 cX10_areYears (some .boolean) 3 4) : ∀ (n : Nat) (x1 : Int32) (x2 : Int32) (σ : zS), Zf zshB K (f_X10_areYears_L43 n x1 x2 σ) 43 [(0, .ref (ga (kG K) 0)), (1, .int x1), (2, .int x2)] [] σ := by
  intro n
  induction n with
  | zero => intro x1 x2 σ; rw [f_X10_areYears_L43]; exact z_none
  | succ n ih =>
  intro x1 x2 σ
  rw [f_X10_areYears_L43]
  refine z_iload_n C dX10_areYears_43 2 rfl ?_
  refine z_aload_n C dX10_areYears_44 0 rfl ?_
  refine z_getI C fd_X10_78 dX10_areYears_45 ?_
  refine z_icmp_ge (tgt := 120) C dX10_areYears_48 (by decide) ?_ ?_
  · refine z_iload_n C dX10_areYears_120 1 rfl ?_
    exact z_zrb C dX10_areYears_121
  · refine z_iload_n C dX10_areYears_51 1 rfl ?_
    refine z_if_eq (tgt := 112) C dX10_areYears_52 (by decide) ?_ ?_
    · exact z_sub [0, 2] rfl (b_X10_areYears_J112 K C x2 _ ih σ)
    · refine z_aload_n C dX10_areYears_55 0 rfl ?_
      refine z_getR C fd_X10_35 dX10_areYears_56 ?_
      refine z_iload_n C dX10_areYears_59 2 rfl ?_
      refine z_iald C sB_7 dX10_areYears_60 (fun v1 => ?_)
      refine z_aload_n C dX10_areYears_61 0 rfl ?_
      refine z_getR C fd_X10_38 dX10_areYears_62 ?_
      refine z_iload_n C dX10_areYears_65 2 rfl ?_
      refine z_iald C sB_8 dX10_areYears_66 (fun v2 => ?_)
      refine z_icmp_gt (tgt := 112) C dX10_areYears_67 (by decide) ?_ ?_
      · exact z_sub [0, 2] rfl (b_X10_areYears_J112 K C x2 _ ih σ)
      · refine z_aload_n C dX10_areYears_70 0 rfl ?_
        refine z_getR C fd_X10_47 dX10_areYears_71 ?_
        refine z_iload_n C dX10_areYears_74 2 rfl ?_
        refine z_iald C sB_11 dX10_areYears_75 (fun v3 => ?_)
        refine z_aload_n C dX10_areYears_76 0 rfl ?_
        refine z_getR C fd_X10_50 dX10_areYears_77 ?_
        refine z_iload_n C dX10_areYears_80 2 rfl ?_
        refine z_iald C sB_12 dX10_areYears_81 (fun v4 => ?_)
        refine z_icmp_gt (tgt := 112) C dX10_areYears_82 (by decide) ?_ ?_
        · exact z_sub [0, 2] rfl (b_X10_areYears_J112 K C x2 _ ih σ)
        · refine z_aload_n C dX10_areYears_85 0 rfl ?_
          refine z_iload_n C dX10_areYears_86 2 rfl ?_
          refine z_callVz (q := 0) (As := [.int x2]) (st := []) C zy_X10_isReused zv_X10_isReused ml_X10_196 rcB_0 (by decide) (fun _ _ h => m_X10_isReused h) rfl rfl (Nat.le_of_ble_eq_true rfl) dX10_areYears_87 (fun v5 σ5 => ?_)
          refine z_if_eq (tgt := 108) C dX10_areYears_90 (by decide) ?_ ?_
          · refine z_iconst (v := 1) C dX10_areYears_108 (by decide) ?_
            refine z_goto (tgt := 113) C dX10_areYears_109 (by decide) ?_
            refine z_istore_n (lv1 := [(1, .int 1), (0, .ref (ga (kG K) 0)), (2, .int x2)]) C dX10_areYears_113 (by decide) rfl ?_
            refine z_iinc (v := 1) (lv1 := [(2, .int (x2 + 1)), (1, .int 1), (0, .ref (ga (kG K) 0))]) C dX10_areYears_114 2 rfl (by decide) (by decide) rfl ?_
            refine z_goto (tgt := 43) C dX10_areYears_117 (by decide) ?_
            exact z_sub [2, 1, 0] rfl (ih 1 (x2 + 1) σ5)
          · refine z_aload_n C dX10_areYears_93 0 rfl ?_
            refine z_getR C fd_X10_41 dX10_areYears_94 ?_
            refine z_iload_n C dX10_areYears_97 2 rfl ?_
            refine z_iald C sB_9 dX10_areYears_98 (fun v6 => ?_)
            refine z_aload_n C dX10_areYears_99 0 rfl ?_
            refine z_getR C fd_X10_44 dX10_areYears_100 ?_
            refine z_iload_n C dX10_areYears_103 2 rfl ?_
            refine z_iald C sB_10 dX10_areYears_104 (fun v7 => ?_)
            refine z_icmp_gt (tgt := 112) C dX10_areYears_105 (by decide) ?_ ?_
            · exact z_sub [0, 2] rfl (b_X10_areYears_J112 K C x2 _ ih σ5)
            · refine z_iconst (v := 1) C dX10_areYears_108 (by decide) ?_
              refine z_goto (tgt := 113) C dX10_areYears_109 (by decide) ?_
              refine z_istore_n (lv1 := [(1, .int 1), (0, .ref (ga (kG K) 0)), (2, .int x2)]) C dX10_areYears_113 (by decide) rfl ?_
              refine z_iinc (v := 1) (lv1 := [(2, .int (x2 + 1)), (1, .int 1), (0, .ref (ga (kG K) 0))]) C dX10_areYears_114 2 rfl (by decide) (by decide) rfl ?_
              refine z_goto (tgt := 43) C dX10_areYears_117 (by decide) ?_
              exact z_sub [2, 1, 0] rfl (ih 1 (x2 + 1) σ5)
theorem b_X10_areYears_L23 (K : zK) (C : zOk zshB K RX10 cX10_areYears (some .boolean) 3 4) : ∀ (n : Nat) (x1 : Int32) (σ : zS), Zf zshB K (f_X10_areYears_L23 n x1 σ) 23 [(0, .ref (ga (kG K) 0)), (1, .int x1)] [] σ := by
  intro n
  induction n with
  | zero => intro x1 σ; rw [f_X10_areYears_L23]; exact z_none
  | succ n ih =>
  intro x1 σ
  rw [f_X10_areYears_L23]
  refine z_iload_n C dX10_areYears_23 1 rfl ?_
  refine z_bipush (v := 40) C dX10_areYears_24 (by decide) ?_
  refine z_icmp_ge (tgt := 39) C dX10_areYears_26 (by decide) ?_ ?_
  · refine z_iconst (v := 1) C dX10_areYears_39 (by decide) ?_
    refine z_istore_n (lv1 := [(1, .int 1), (0, .ref (ga (kG K) 0))]) C dX10_areYears_40 (by decide) rfl ?_
    refine z_iconst (v := 0) C dX10_areYears_41 (by decide) ?_
    refine z_istore_n (lv1 := [(2, .int 0), (1, .int 1), (0, .ref (ga (kG K) 0))]) C dX10_areYears_42 (by decide) rfl ?_
    exact z_sub [2, 1, 0] rfl (b_X10_areYears_L43 K C zfu 1 0 σ)
  · refine z_aload_n C dX10_areYears_29 0 rfl ?_
    refine z_callVv (q := 0) (As := []) (st := []) C zy_X10_goRound zv_X10_goRound ml_X10_211 rcB_0 (by decide) (fun _ _ h => m_X10_goRound h) rfl rfl (Nat.le_of_ble_eq_true rfl) dX10_areYears_30 (fun _ σ1 => ?_)
    refine z_iinc (v := 1) (lv1 := [(1, .int (x1 + 1)), (0, .ref (ga (kG K) 0))]) C dX10_areYears_33 1 rfl (by decide) (by decide) rfl ?_
    refine z_goto (tgt := 23) C dX10_areYears_36 (by decide) ?_
    exact z_sub [1, 0] rfl (ih (x1 + 1) σ1)
theorem b_X10_areYears_L2 (K : zK) (C : zOk zshB K RX10 cX10_areYears (some .boolean) 3 4) : ∀ (n : Nat) (x1 : Int32) (σ : zS), Zf zshB K (f_X10_areYears_L2 n x1 σ) 2 [(0, .ref (ga (kG K) 0)), (1, .int x1)] [] σ := by
  intro n
  induction n with
  | zero => intro x1 σ; rw [f_X10_areYears_L2]; exact z_none
  | succ n ih =>
  intro x1 σ
  rw [f_X10_areYears_L2]
  refine z_iload_n C dX10_areYears_2 1 rfl ?_
  refine z_aload_n C dX10_areYears_3 0 rfl ?_
  refine z_getI C fd_X10_78 dX10_areYears_4 ?_
  refine z_icmp_ge (tgt := 21) C dX10_areYears_7 (by decide) ?_ ?_
  · refine z_iconst (v := 0) C dX10_areYears_21 (by decide) ?_
    refine z_istore_n (lv1 := [(1, .int 0), (0, .ref (ga (kG K) 0))]) C dX10_areYears_22 (by decide) rfl ?_
    exact z_sub [1, 0] rfl (b_X10_areYears_L23 K C zfu 0 σ)
  · refine z_aload_n C dX10_areYears_10 0 rfl ?_
    refine z_iload_n C dX10_areYears_11 1 rfl ?_
    refine z_callVv (q := 0) (As := [.int x1]) (st := []) C zy_X10_begin zv_X10_begin ml_X10_208 rcB_0 (by decide) (fun _ _ h => m_X10_begin h) rfl rfl (Nat.le_of_ble_eq_true rfl) dX10_areYears_12 (fun _ σ1 => ?_)
    refine z_iinc (v := 1) (lv1 := [(1, .int (x1 + 1)), (0, .ref (ga (kG K) 0))]) C dX10_areYears_15 1 rfl (by decide) (by decide) rfl ?_
    refine z_goto (tgt := 2) C dX10_areYears_18 (by decide) ?_
    exact z_sub [1, 0] rfl (ih (x1 + 1) σ1)
theorem b_X10_areYears (K : zK) (C : zOk zshB K RX10 cX10_areYears (some .boolean) 3 4) (σ : zS) : Zf zshB K (f_X10_areYears σ) 0 [(0, .ref (ga (kG K) 0))] [] σ := by
  unfold f_X10_areYears
  refine z_iconst (v := 0) C dX10_areYears_0 (by decide) ?_
  refine z_istore_n (lv1 := [(1, .int 0), (0, .ref (ga (kG K) 0))]) C dX10_areYears_1 (by decide) rfl ?_
  exact z_sub [1, 0] rfl (b_X10_areYears_L2 K C zfu 0 σ)
theorem m_X10_areYears {l : Launch} {G : zG} {σ σ1 : zS} {r : Int32} (h : f_X10_areYears σ = some (r, σ1)) : zM l G zshB yX10_areYears cX10_areYears 3 (some .boolean) 4 [.ref (ga G 0)] (zov (some .boolean) G r) σ σ1 :=
  z_met (by decide) (Nat.le_of_ble_eq_true rfl) h (fun K _ hG C => by subst hG; exact b_X10_areYears K C σ)
theorem b_X10_span (K : zK) (C : zOk zshB K RX10 cX10_span (some .int) 3 5) (x1 : Int32) (x2 : Int32) (σ : zS) : Zf zshB K (f_X10_span x1 x2 σ) 0 [(0, .ref (ga (kG K) 0)), (1, .int x1), (2, .int x2)] [] σ := by
  unfold f_X10_span
  refine z_aload_n C dX10_span_0 0 rfl ?_
  refine z_iload_n C dX10_span_1 1 rfl ?_
  refine z_callVz (q := 0) (As := [.int x1]) (st := []) C zy_X10_isBlade zv_X10_isBlade ml_X10_169 rcB_0 (by decide) (fun _ _ h => m_X10_isBlade h) rfl rfl (Nat.le_of_ble_eq_true rfl) dX10_span_2 (fun v1 σ1 => ?_)
  refine z_if_ne (tgt := 11) C dX10_span_5 (by decide) ?_ ?_
  · refine z_bipush (v := (-2)) C dX10_span_8 (by decide) ?_
    exact z_iret C dX10_span_10
  · refine z_iload_n C dX10_span_11 2 rfl ?_
    refine z_iconst (v := 0) C dX10_span_12 (by decide) ?_
    refine z_iconst (v := 5) C dX10_span_13 (by decide) ?_
    refine z_callSz (As := [.int x2, .int 0, .int 5]) (st := []) C zy_X10_in zs_X10_in ml_X10_71 (by decide) (fun _ _ h => m_X10_in h) rfl rfl (Nat.le_of_ble_eq_true rfl) dX10_span_14 (fun v2 σ2 => ?_)
    refine z_if_ne (tgt := 23) C dX10_span_17 (by decide) ?_ ?_
    · refine z_bipush (v := (-3)) C dX10_span_20 (by decide) ?_
      exact z_iret C dX10_span_22
    · refine z_aload_n C dX10_span_23 0 rfl ?_
      refine z_callVz (q := 0) (As := []) (st := []) C zy_X10_areYears zv_X10_areYears ml_X10_214 rcB_0 (by decide) (fun _ _ h => m_X10_areYears h) rfl rfl (Nat.le_of_ble_eq_true rfl) dX10_span_24 (fun v3 σ3 => ?_)
      refine z_if_ne (tgt := 32) C dX10_span_27 (by decide) ?_ ?_
      · refine z_iconst (v := (-1)) C dX10_span_30 (by decide) ?_
        exact z_iret C dX10_span_31
      · refine z_iload_n C dX10_span_32 2 rfl ?_
        refine z_case 0 (fun hc33_0 => ?_) (fun hc33_0 => ?_)
        · refine z_tabIn (tgt := 68) C dX10_span_33 0 hc33_0 (by decide) (by decide) rfl (by decide) ?_
          refine z_aload_n C dX10_span_68 0 rfl ?_
          refine z_getR C fd_X10_35 dX10_span_69 ?_
          refine z_iload_n C dX10_span_72 1 rfl ?_
          refine z_iald C sB_7 dX10_span_73 (fun v4 => ?_)
          exact z_iret C dX10_span_74
        refine z_case 1 (fun hc33_1 => ?_) (fun hc33_1 => ?_)
        · refine z_tabIn (tgt := 75) C dX10_span_33 1 hc33_1 (by decide) (by decide) rfl (by decide) ?_
          refine z_aload_n C dX10_span_75 0 rfl ?_
          refine z_getR C fd_X10_38 dX10_span_76 ?_
          refine z_iload_n C dX10_span_79 1 rfl ?_
          refine z_iald C sB_8 dX10_span_80 (fun v4 => ?_)
          exact z_iret C dX10_span_81
        refine z_case 2 (fun hc33_2 => ?_) (fun hc33_2 => ?_)
        · refine z_tabIn (tgt := 82) C dX10_span_33 2 hc33_2 (by decide) (by decide) rfl (by decide) ?_
          refine z_aload_n C dX10_span_82 0 rfl ?_
          refine z_iload_n C dX10_span_83 1 rfl ?_
          refine z_callVz (q := 0) (As := [.int x1]) (st := []) C zy_X10_isReused zv_X10_isReused ml_X10_196 rcB_0 (by decide) (fun _ _ h => m_X10_isReused h) rfl rfl (Nat.le_of_ble_eq_true rfl) dX10_span_84 (fun v4 σ4 => ?_)
          refine z_if_eq (tgt := 99) C dX10_span_87 (by decide) ?_ ?_
          · refine z_iconst (v := (-1)) C dX10_span_99 (by decide) ?_
            exact z_iret C dX10_span_100
          · refine z_aload_n C dX10_span_90 0 rfl ?_
            refine z_getR C fd_X10_41 dX10_span_91 ?_
            refine z_iload_n C dX10_span_94 1 rfl ?_
            refine z_iald C sB_9 dX10_span_95 (fun v5 => ?_)
            refine z_goto (tgt := 100) C dX10_span_96 (by decide) ?_
            exact z_iret C dX10_span_100
        refine z_case 3 (fun hc33_3 => ?_) (fun hc33_3 => ?_)
        · refine z_tabIn (tgt := 101) C dX10_span_33 3 hc33_3 (by decide) (by decide) rfl (by decide) ?_
          refine z_aload_n C dX10_span_101 0 rfl ?_
          refine z_iload_n C dX10_span_102 1 rfl ?_
          refine z_callVz (q := 0) (As := [.int x1]) (st := []) C zy_X10_isReused zv_X10_isReused ml_X10_196 rcB_0 (by decide) (fun _ _ h => m_X10_isReused h) rfl rfl (Nat.le_of_ble_eq_true rfl) dX10_span_103 (fun v4 σ4 => ?_)
          refine z_if_eq (tgt := 118) C dX10_span_106 (by decide) ?_ ?_
          · refine z_iconst (v := (-1)) C dX10_span_118 (by decide) ?_
            exact z_iret C dX10_span_119
          · refine z_aload_n C dX10_span_109 0 rfl ?_
            refine z_getR C fd_X10_44 dX10_span_110 ?_
            refine z_iload_n C dX10_span_113 1 rfl ?_
            refine z_iald C sB_10 dX10_span_114 (fun v5 => ?_)
            refine z_goto (tgt := 119) C dX10_span_115 (by decide) ?_
            exact z_iret C dX10_span_119
        refine z_case 4 (fun hc33_4 => ?_) (fun hc33_4 => ?_)
        · refine z_tabIn (tgt := 120) C dX10_span_33 4 hc33_4 (by decide) (by decide) rfl (by decide) ?_
          refine z_aload_n C dX10_span_120 0 rfl ?_
          refine z_getR C fd_X10_47 dX10_span_121 ?_
          refine z_iload_n C dX10_span_124 1 rfl ?_
          refine z_iald C sB_11 dX10_span_125 (fun v4 => ?_)
          exact z_iret C dX10_span_126
        refine z_tabD (tgt := 127) C [0, 1, 2, 3, 4] (List.forall_mem_cons.mpr ⟨ztoi hc33_0 rfl, (List.forall_mem_cons.mpr ⟨ztoi hc33_1 rfl, (List.forall_mem_cons.mpr ⟨ztoi hc33_2 rfl, (List.forall_mem_cons.mpr ⟨ztoi hc33_3 rfl, (List.forall_mem_cons.mpr ⟨ztoi hc33_4 rfl, (fun _ h => absurd h List.not_mem_nil)⟩)⟩)⟩)⟩)⟩) dX10_span_33 (by decide +kernel) (by decide) ?_
        refine z_aload_n C dX10_span_127 0 rfl ?_
        refine z_getR C fd_X10_50 dX10_span_128 ?_
        refine z_iload_n C dX10_span_131 1 rfl ?_
        refine z_iald C sB_12 dX10_span_132 (fun v4 => ?_)
        exact z_iret C dX10_span_133
theorem m_X10_span {l : Launch} {G : zG} {x1 : Int32} {x2 : Int32} {σ σ1 : zS} {r : Int32} (h : f_X10_span x1 x2 σ = some (r, σ1)) : zM l G zshB yX10_span cX10_span 3 (some .int) 5 [.ref (ga G 0), .int x1, .int x2] (zov (some .int) G r) σ σ1 :=
  z_met (by decide) (Nat.le_of_ble_eq_true rfl) h (fun K _ hG C => by subst hG; exact b_X10_span K C x1 x2 σ)
theorem b_X10_heirloom_J67 (K : zK) (C : zOk zshB K RX10 cX10_heirloom (some .int) 4 5) (x1 : Int32) (x2 : Int32) (s0 : Int32) (σ : zS) : Zf zshB K (f_X10_heirloom_J67 x1 x2 s0 σ) 67 [(0, .ref (ga (kG K) 0)), (1, .int x1), (2, .int x2)] [.int s0] σ := by
  unfold f_X10_heirloom_J67
  refine z_istore_n (lv1 := [(3, .int s0), (0, .ref (ga (kG K) 0)), (1, .int x1), (2, .int x2)]) C dX10_heirloom_67 (by decide) rfl ?_
  refine z_iload_n C dX10_heirloom_68 0 rfl ?_
  refine z_aload_n C dX10_heirloom_69 1 rfl ?_
  refine z_getR C fd_X10_47 dX10_heirloom_70 ?_
  refine z_iload_n C dX10_heirloom_73 2 rfl ?_
  refine z_iald C sB_11 dX10_heirloom_74 (fun v1 => ?_)
  refine z_icmp_ge (tgt := 82) C dX10_heirloom_75 (by decide) ?_ ?_
  · refine z_iload_n C dX10_heirloom_82 3 rfl ?_
    refine z_aload_n C dX10_heirloom_83 1 rfl ?_
    refine z_getR C fd_X10_50 dX10_heirloom_84 ?_
    refine z_iload_n C dX10_heirloom_87 2 rfl ?_
    refine z_iald C sB_12 dX10_heirloom_88 (fun v2 => ?_)
    refine z_icmp_ge (tgt := 96) C dX10_heirloom_89 (by decide) ?_ ?_
    · refine z_iconst (v := 0) C dX10_heirloom_96 (by decide) ?_
      exact z_iret C dX10_heirloom_97
    · refine z_iconst (v := 1) C dX10_heirloom_92 (by decide) ?_
      refine z_goto (tgt := 97) C dX10_heirloom_93 (by decide) ?_
      exact z_iret C dX10_heirloom_97
  · refine z_iconst (v := 2) C dX10_heirloom_78 (by decide) ?_
    refine z_goto (tgt := 97) C dX10_heirloom_79 (by decide) ?_
    exact z_iret C dX10_heirloom_97
theorem b_X10_heirloom_J43 (K : zK) (C : zOk zshB K RX10 cX10_heirloom (some .int) 4 5) (x1 : Int32) (s0 : Int32) (σ : zS) : Zf zshB K (f_X10_heirloom_J43 x1 s0 σ) 43 [(0, .ref (ga (kG K) 0)), (1, .int x1)] [.int s0] σ := by
  unfold f_X10_heirloom_J43
  refine z_istore_n (lv1 := [(2, .int s0), (0, .ref (ga (kG K) 0)), (1, .int x1)]) C dX10_heirloom_43 (by decide) rfl ?_
  refine z_aload_n C dX10_heirloom_44 1 rfl ?_
  refine z_iload_n C dX10_heirloom_45 2 rfl ?_
  refine z_callVz (q := 0) (As := [.int x1]) (st := []) C zy_X10_isReused zv_X10_isReused ml_X10_196 rcB_0 (by decide) (fun _ _ h => m_X10_isReused h) rfl rfl (Nat.le_of_ble_eq_true rfl) dX10_heirloom_46 (fun v1 σ1 => ?_)
  refine z_if_eq (tgt := 61) C dX10_heirloom_49 (by decide) ?_ ?_
  · refine z_aload_n C dX10_heirloom_61 1 rfl ?_
    refine z_getR C fd_X10_38 dX10_heirloom_62 ?_
    refine z_iload_n C dX10_heirloom_65 2 rfl ?_
    refine z_iald C sB_8 dX10_heirloom_66 (fun v2 => ?_)
    exact z_sub [1, 2, 0] rfl (b_X10_heirloom_J67 K C x1 s0 v2 σ1)
  · refine z_aload_n C dX10_heirloom_52 1 rfl ?_
    refine z_getR C fd_X10_44 dX10_heirloom_53 ?_
    refine z_iload_n C dX10_heirloom_56 2 rfl ?_
    refine z_iald C sB_10 dX10_heirloom_57 (fun v2 => ?_)
    refine z_goto (tgt := 67) C dX10_heirloom_58 (by decide) ?_
    exact z_sub [1, 2, 0] rfl (b_X10_heirloom_J67 K C x1 s0 v2 σ1)
theorem b_X10_heirloom (K : zK) (C : zOk zshB K RX10 cX10_heirloom (some .int) 4 5) (x1 : Int32) (σ : zS) : Zf zshB K (f_X10_heirloom x1 σ) 0 [(0, .ref (ga (kG K) 0)), (1, .int x1)] [] σ := by
  unfold f_X10_heirloom
  refine z_aload_n C dX10_heirloom_0 0 rfl ?_
  refine z_iload_n C dX10_heirloom_1 1 rfl ?_
  refine z_callVz (q := 0) (As := [.int x1]) (st := []) C zy_X10_isBlade zv_X10_isBlade ml_X10_169 rcB_0 (by decide) (fun _ _ h => m_X10_isBlade h) rfl rfl (Nat.le_of_ble_eq_true rfl) dX10_heirloom_2 (fun v1 σ1 => ?_)
  refine z_if_ne (tgt := 11) C dX10_heirloom_5 (by decide) ?_ ?_
  · refine z_bipush (v := (-2)) C dX10_heirloom_8 (by decide) ?_
    exact z_iret C dX10_heirloom_10
  · refine z_aload_n C dX10_heirloom_11 0 rfl ?_
    refine z_callVz (q := 0) (As := []) (st := []) C zy_X10_areYears zv_X10_areYears ml_X10_214 rcB_0 (by decide) (fun _ _ h => m_X10_areYears h) rfl rfl (Nat.le_of_ble_eq_true rfl) dX10_heirloom_12 (fun v2 σ2 => ?_)
    refine z_if_ne (tgt := 20) C dX10_heirloom_15 (by decide) ?_ ?_
    · refine z_iconst (v := (-1)) C dX10_heirloom_18 (by decide) ?_
      exact z_iret C dX10_heirloom_19
    · refine z_aload_n C dX10_heirloom_20 0 rfl ?_
      refine z_iload_n C dX10_heirloom_21 1 rfl ?_
      refine z_callVz (q := 0) (As := [.int x1]) (st := []) C zy_X10_isReused zv_X10_isReused ml_X10_196 rcB_0 (by decide) (fun _ _ h => m_X10_isReused h) rfl rfl (Nat.le_of_ble_eq_true rfl) dX10_heirloom_22 (fun v3 σ3 => ?_)
      refine z_if_eq (tgt := 37) C dX10_heirloom_25 (by decide) ?_ ?_
      · refine z_aload_n C dX10_heirloom_37 0 rfl ?_
        refine z_getR C fd_X10_35 dX10_heirloom_38 ?_
        refine z_iload_n C dX10_heirloom_41 1 rfl ?_
        refine z_iald C sB_7 dX10_heirloom_42 (fun v4 => ?_)
        exact z_sub [0, 1] rfl (b_X10_heirloom_J43 K C x1 v4 σ3)
      · refine z_aload_n C dX10_heirloom_28 0 rfl ?_
        refine z_getR C fd_X10_41 dX10_heirloom_29 ?_
        refine z_iload_n C dX10_heirloom_32 1 rfl ?_
        refine z_iald C sB_9 dX10_heirloom_33 (fun v4 => ?_)
        refine z_goto (tgt := 43) C dX10_heirloom_34 (by decide) ?_
        exact z_sub [0, 1] rfl (b_X10_heirloom_J43 K C x1 v4 σ3)
theorem m_X10_heirloom {l : Launch} {G : zG} {x1 : Int32} {σ σ1 : zS} {r : Int32} (h : f_X10_heirloom x1 σ = some (r, σ1)) : zM l G zshB yX10_heirloom cX10_heirloom 4 (some .int) 5 [.ref (ga G 0), .int x1] (zov (some .int) G r) σ σ1 :=
  z_met (by decide) (Nat.le_of_ble_eq_true rfl) h (fun K _ hG C => by subst hG; exact b_X10_heirloom K C x1 σ)
theorem b_X10_mayBeFrom_J99 (K : zK) (C : zOk zshB K RX10 cX10_mayBeFrom (some .int) 5 5) (x1 : Int32) (x3 : Int32) (x4 : Int32) (s0 : Int32) (s1 : Int32) (k13 : Int32 → Int32 → zS → Option (Int32 × zS)) (hk13 : ∀ (x2 : Int32) (x4 : Int32) (σ : zS), Zf zshB K (k13 x2 x4 σ) 13 [(0, .ref (ga (kG K) 0)), (1, .int x1), (2, .int x2), (3, .int x3), (4, .int x4)] [] σ) (σ : zS) : Zf zshB K (f_X10_mayBeFrom_J99 k13 x1 x3 x4 s0 s1 σ) 99 [(0, .ref (ga (kG K) 0)), (1, .int x1), (3, .int x3), (4, .int x4)] [.int s0, .int s1] σ := by
  unfold f_X10_mayBeFrom_J99
  refine z_ior C dX10_mayBeFrom_99 ?_
  refine z_istore_n (lv1 := [(2, .int (s1 ||| s0)), (0, .ref (ga (kG K) 0)), (1, .int x1), (3, .int x3), (4, .int x4)]) C dX10_mayBeFrom_100 (by decide) rfl ?_
  refine z_aload_n C dX10_mayBeFrom_101 1 rfl ?_
  refine z_getR C fd_X10_32 dX10_mayBeFrom_102 ?_
  refine z_bipush (v := 11) C dX10_mayBeFrom_105 (by decide) ?_
  refine z_iload_n C dX10_mayBeFrom_107 2 rfl ?_
  refine z_imul C dX10_mayBeFrom_108 ?_
  refine z_bipush (v := 9) C dX10_mayBeFrom_109 (by decide) ?_
  refine z_iadd C dX10_mayBeFrom_111 ?_
  refine z_iload_n C dX10_mayBeFrom_112 3 rfl ?_
  refine z_iast C sB_6 dX10_mayBeFrom_113 (fun σ1 => ?_)
  refine z_iinc (v := 1) (lv1 := [(4, .int (x4 + 1)), (2, .int (s1 ||| s0)), (0, .ref (ga (kG K) 0)), (1, .int x1), (3, .int x3)]) C dX10_mayBeFrom_114 4 rfl (by decide) (by decide) rfl ?_
  refine z_goto (tgt := 13) C dX10_mayBeFrom_117 (by decide) ?_
  exact z_sub [2, 3, 1, 4, 0] rfl (hk13 (s1 ||| s0) (x4 + 1) σ1)
theorem b_X10_mayBeFrom_L13 (K : zK) (C : zOk zshB K RX10 cX10_mayBeFrom (some .int) 5 5) (x1 : Int32) (x3 : Int32) : ∀ (n : Nat) (x2 : Int32) (x4 : Int32) (σ : zS), Zf zshB K (f_X10_mayBeFrom_L13 x1 x3 n x2 x4 σ) 13 [(0, .ref (ga (kG K) 0)), (1, .int x1), (2, .int x2), (3, .int x3), (4, .int x4)] [] σ := by
  intro n
  induction n with
  | zero => intro x2 x4 σ; rw [f_X10_mayBeFrom_L13]; exact z_none
  | succ n ih =>
  intro x2 x4 σ
  rw [f_X10_mayBeFrom_L13]
  refine z_iload C dX10_mayBeFrom_13 4 rfl ?_
  refine z_aload_n C dX10_mayBeFrom_15 0 rfl ?_
  refine z_getI C fd_X10_78 dX10_mayBeFrom_16 ?_
  refine z_icmp_ge (tgt := 120) C dX10_mayBeFrom_19 (by decide) ?_ ?_
  · refine z_iload_n C dX10_mayBeFrom_120 2 rfl ?_
    exact z_iret C dX10_mayBeFrom_121
  · refine z_iload C dX10_mayBeFrom_22 4 rfl ?_
    refine z_iload_n C dX10_mayBeFrom_24 1 rfl ?_
    refine z_icmp_eq (tgt := 114) C dX10_mayBeFrom_25 (by decide) ?_ ?_
    · refine z_iinc (v := 1) (lv1 := [(4, .int (x4 + 1)), (0, .ref (ga (kG K) 0)), (1, .int x1), (2, .int x2), (3, .int x3)]) C dX10_mayBeFrom_114 4 rfl (by decide) (by decide) rfl ?_
      refine z_goto (tgt := 13) C dX10_mayBeFrom_117 (by decide) ?_
      exact z_sub [1, 2, 3, 4, 0] rfl (ih x2 (x4 + 1) σ)
    · refine z_aload_n C dX10_mayBeFrom_28 0 rfl ?_
      refine z_iload_n C dX10_mayBeFrom_29 1 rfl ?_
      refine z_callVi (q := 0) (As := [.int x1]) (st := []) C zy_X10_canBe zv_X10_canBe ml_X10_179 rcB_0 (by decide) (fun _ _ h => m_X10_canBe h) rfl rfl (Nat.le_of_ble_eq_true rfl) dX10_mayBeFrom_30 (fun v1 σ1 => ?_)
      refine z_aload_n C dX10_mayBeFrom_33 0 rfl ?_
      refine z_iload C dX10_mayBeFrom_34 4 rfl ?_
      refine z_callVi (q := 0) (As := [.int x4]) (st := [.int v1]) C zy_X10_canBe zv_X10_canBe ml_X10_179 rcB_0 (by decide) (fun _ _ h => m_X10_canBe h) rfl rfl (Nat.le_of_ble_eq_true rfl) dX10_mayBeFrom_36 (fun v2 σ2 => ?_)
      refine z_iand C dX10_mayBeFrom_39 ?_
      refine z_if_eq (tgt := 114) C dX10_mayBeFrom_40 (by decide) ?_ ?_
      · refine z_iinc (v := 1) (lv1 := [(4, .int (x4 + 1)), (0, .ref (ga (kG K) 0)), (1, .int x1), (2, .int x2), (3, .int x3)]) C dX10_mayBeFrom_114 4 rfl (by decide) (by decide) rfl ?_
        refine z_goto (tgt := 13) C dX10_mayBeFrom_117 (by decide) ?_
        exact z_sub [1, 2, 3, 4, 0] rfl (ih x2 (x4 + 1) σ2)
      · refine z_aload_n C dX10_mayBeFrom_43 0 rfl ?_
        refine z_iload C dX10_mayBeFrom_44 4 rfl ?_
        refine z_iconst (v := 5) C dX10_mayBeFrom_46 (by decide) ?_
        refine z_callVi (q := 0) (As := [.int x4, .int 5]) (st := []) C zy_X10_at zv_X10_at ml_X10_172 rcB_0 (by decide) (fun _ _ h => m_X10_at h) rfl rfl (Nat.le_of_ble_eq_true rfl) dX10_mayBeFrom_47 (fun v3 σ3 => ?_)
        refine z_aload_n C dX10_mayBeFrom_50 0 rfl ?_
        refine z_iload_n C dX10_mayBeFrom_51 1 rfl ?_
        refine z_iconst (v := 5) C dX10_mayBeFrom_52 (by decide) ?_
        refine z_callVi (q := 0) (As := [.int x1, .int 5]) (st := [.int v3]) C zy_X10_at zv_X10_at ml_X10_172 rcB_0 (by decide) (fun _ _ h => m_X10_at h) rfl rfl (Nat.le_of_ble_eq_true rfl) dX10_mayBeFrom_53 (fun v4 σ4 => ?_)
        refine z_icmp_le (tgt := 114) C dX10_mayBeFrom_56 (by decide) ?_ ?_
        · refine z_iinc (v := 1) (lv1 := [(4, .int (x4 + 1)), (0, .ref (ga (kG K) 0)), (1, .int x1), (2, .int x2), (3, .int x3)]) C dX10_mayBeFrom_114 4 rfl (by decide) (by decide) rfl ?_
          refine z_goto (tgt := 13) C dX10_mayBeFrom_117 (by decide) ?_
          exact z_sub [1, 2, 3, 4, 0] rfl (ih x2 (x4 + 1) σ4)
        · refine z_aload_n C dX10_mayBeFrom_59 0 rfl ?_
          refine z_iload C dX10_mayBeFrom_60 4 rfl ?_
          refine z_iload_n C dX10_mayBeFrom_62 1 rfl ?_
          refine z_callVz (q := 0) (As := [.int x4, .int x1]) (st := []) C zy_X10_isFrom zv_X10_isFrom ml_X10_186 rcB_0 (by decide) (fun _ _ h => m_X10_isFrom h) rfl rfl (Nat.le_of_ble_eq_true rfl) dX10_mayBeFrom_63 (fun v5 σ5 => ?_)
          refine z_if_ne (tgt := 114) C dX10_mayBeFrom_66 (by decide) ?_ ?_
          · refine z_aload_n C dX10_mayBeFrom_69 0 rfl ?_
            refine z_getR C fd_X10_32 dX10_mayBeFrom_70 ?_
            refine z_bipush (v := 11) C dX10_mayBeFrom_73 (by decide) ?_
            refine z_iload_n C dX10_mayBeFrom_75 1 rfl ?_
            refine z_imul C dX10_mayBeFrom_76 ?_
            refine z_bipush (v := 9) C dX10_mayBeFrom_77 (by decide) ?_
            refine z_iadd C dX10_mayBeFrom_79 ?_
            refine z_iload C dX10_mayBeFrom_80 4 rfl ?_
            refine z_iast C sB_6 dX10_mayBeFrom_82 (fun σ6 => ?_)
            refine z_iload_n C dX10_mayBeFrom_83 2 rfl ?_
            refine z_aload_n C dX10_mayBeFrom_84 0 rfl ?_
            refine z_callVz (q := 0) (As := []) (st := [.int x2]) C zy_X10_areYears zv_X10_areYears ml_X10_214 rcB_0 (by decide) (fun _ _ h => m_X10_areYears h) rfl rfl (Nat.le_of_ble_eq_true rfl) dX10_mayBeFrom_85 (fun v7 σ7 => ?_)
            refine z_if_eq (tgt := 98) C dX10_mayBeFrom_88 (by decide) ?_ ?_
            · refine z_iconst (v := 0) C dX10_mayBeFrom_98 (by decide) ?_
              exact z_sub [0, 1, 3, 4] rfl (b_X10_mayBeFrom_J99 K C x1 x3 x4 0 x2 _ ih σ7)
            · refine z_iconst (v := 1) C dX10_mayBeFrom_91 (by decide) ?_
              refine z_iload C dX10_mayBeFrom_92 4 rfl ?_
              refine z_ishl C dX10_mayBeFrom_94 ?_
              refine z_goto (tgt := 99) C dX10_mayBeFrom_95 (by decide) ?_
              exact z_sub [0, 1, 3, 4] rfl (b_X10_mayBeFrom_J99 K C x1 x3 x4 ((1 : Int32) <<< (x4 &&& 31)) x2 _ ih σ7)
          · refine z_iinc (v := 1) (lv1 := [(4, .int (x4 + 1)), (0, .ref (ga (kG K) 0)), (1, .int x1), (2, .int x2), (3, .int x3)]) C dX10_mayBeFrom_114 4 rfl (by decide) (by decide) rfl ?_
            refine z_goto (tgt := 13) C dX10_mayBeFrom_117 (by decide) ?_
            exact z_sub [1, 2, 3, 4, 0] rfl (ih x2 (x4 + 1) σ5)
theorem b_X10_mayBeFrom (K : zK) (C : zOk zshB K RX10 cX10_mayBeFrom (some .int) 5 5) (x1 : Int32) (σ : zS) : Zf zshB K (f_X10_mayBeFrom x1 σ) 0 [(0, .ref (ga (kG K) 0)), (1, .int x1)] [] σ := by
  unfold f_X10_mayBeFrom
  refine z_iconst (v := 0) C dX10_mayBeFrom_0 (by decide) ?_
  refine z_istore_n (lv1 := [(2, .int 0), (0, .ref (ga (kG K) 0)), (1, .int x1)]) C dX10_mayBeFrom_1 (by decide) rfl ?_
  refine z_aload_n C dX10_mayBeFrom_2 1 rfl ?_
  refine z_iload_n C dX10_mayBeFrom_3 2 rfl ?_
  refine z_bipush (v := 9) C dX10_mayBeFrom_4 (by decide) ?_
  refine z_callVi (q := 0) (As := [.int x1, .int 9]) (st := []) C zy_X10_at zv_X10_at ml_X10_172 rcB_0 (by decide) (fun _ _ h => m_X10_at h) rfl rfl (Nat.le_of_ble_eq_true rfl) dX10_mayBeFrom_6 (fun v1 σ1 => ?_)
  refine z_istore_n (lv1 := [(3, .int v1), (2, .int 0), (0, .ref (ga (kG K) 0)), (1, .int x1)]) C dX10_mayBeFrom_9 (by decide) rfl ?_
  refine z_iconst (v := 0) C dX10_mayBeFrom_10 (by decide) ?_
  refine z_istore (lv1 := [(4, .int 0), (3, .int v1), (2, .int 0), (0, .ref (ga (kG K) 0)), (1, .int x1)]) C dX10_mayBeFrom_11 (by decide) rfl ?_
  exact z_sub [3, 4, 2, 1, 0] rfl (b_X10_mayBeFrom_L13 K C x1 v1 zfu 0 0 σ1)
theorem m_X10_mayBeFrom {l : Launch} {G : zG} {x1 : Int32} {σ σ1 : zS} {r : Int32} (h : f_X10_mayBeFrom x1 σ = some (r, σ1)) : zM l G zshB yX10_mayBeFrom cX10_mayBeFrom 5 (some .int) 5 [.ref (ga G 0), .int x1] (zov (some .int) G r) σ σ1 :=
  z_met (by decide) (Nat.le_of_ble_eq_true rfl) h (fun K _ hG C => by subst hG; exact b_X10_mayBeFrom K C x1 σ)
theorem b_X10_from (K : zK) (C : zOk zshB K RX10 cX10_from (some .int) 2 6) (x1 : Int32) (σ : zS) : Zf zshB K (f_X10_from x1 σ) 0 [(0, .ref (ga (kG K) 0)), (1, .int x1)] [] σ := by
  unfold f_X10_from
  refine z_aload_n C dX10_from_0 0 rfl ?_
  refine z_iload_n C dX10_from_1 1 rfl ?_
  refine z_callVz (q := 0) (As := [.int x1]) (st := []) C zy_X10_isBlade zv_X10_isBlade ml_X10_169 rcB_0 (by decide) (fun _ _ h => m_X10_isBlade h) rfl rfl (Nat.le_of_ble_eq_true rfl) dX10_from_2 (fun v1 σ1 => ?_)
  refine z_if_eq (tgt := 16) C dX10_from_5 (by decide) ?_ ?_
  · refine z_bipush (v := (-2)) C dX10_from_16 (by decide) ?_
    exact z_iret C dX10_from_18
  · refine z_aload_n C dX10_from_8 0 rfl ?_
    refine z_iload_n C dX10_from_9 1 rfl ?_
    refine z_callVi (q := 0) (As := [.int x1]) (st := []) C zy_X10_mayBeFrom zv_X10_mayBeFrom ml_X10_217 rcB_0 (by decide) (fun _ _ h => m_X10_mayBeFrom h) rfl rfl (Nat.le_of_ble_eq_true rfl) dX10_from_10 (fun v2 σ2 => ?_)
    refine z_goto (tgt := 18) C dX10_from_13 (by decide) ?_
    exact z_iret C dX10_from_18
theorem m_X10_from {l : Launch} {G : zG} {x1 : Int32} {σ σ1 : zS} {r : Int32} (h : f_X10_from x1 σ = some (r, σ1)) : zM l G zshB yX10_from cX10_from 2 (some .int) 6 [.ref (ga G 0), .int x1] (zov (some .int) G r) σ σ1 :=
  z_met (by decide) (Nat.le_of_ble_eq_true rfl) h (fun K _ hG C => by subst hG; exact b_X10_from K C x1 σ)
theorem b_X10_chain_L238 (K : zK) (C : zOk zshB K RX10 cX10_chain (some .int) 8 6) (x1 : Int32) (x2 : Int32) (x3 : Int32) (x4 : Int32) (x5 : Int32) (k213 : Int32 → Int32 → zS → Option (Int32 × zS)) (hk213 : ∀ (x2 : Int32) (x5 : Int32) (σ : zS), Zf zshB K (k213 x2 x5 σ) 213 [(0, .ref (ga (kG K) 0)), (1, .int x1), (2, .int x2), (3, .int x3), (4, .int x4), (5, .int x5)] [] σ) : ∀ (n : Nat) (x6 : Int32) (x7 : Int32) (σ : zS), Zf zshB K (f_X10_chain_L238 k213 x1 x2 x3 x4 x5 n x6 x7 σ) 238 [(0, .ref (ga (kG K) 0)), (1, .int x1), (2, .int x2), (3, .int x3), (4, .int x4), (5, .int x5), (6, .int x6), (7, .int x7)] [] σ := by
  intro n
  induction n with
  | zero => intro x6 x7 σ; rw [f_X10_chain_L238]; exact z_none
  | succ n ih =>
  intro x6 x7 σ
  rw [f_X10_chain_L238]
  refine z_iload C dX10_chain_238 7 rfl ?_
  refine z_if_lt (tgt := 291) C dX10_chain_240 (by decide) ?_ ?_
  · refine z_iload C dX10_chain_291 6 rfl ?_
    refine z_iconst (v := (-1)) C dX10_chain_293 (by decide) ?_
    refine z_icmp_ne (tgt := 301) C dX10_chain_294 (by decide) ?_ ?_
    · refine z_iload_n C dX10_chain_297 2 rfl ?_
      refine z_goto (tgt := 303) C dX10_chain_298 (by decide) ?_
      refine z_istore_n (lv1 := [(2, .int x2), (0, .ref (ga (kG K) 0)), (1, .int x1), (3, .int x3), (4, .int x4), (5, .int x5), (6, .int x6), (7, .int x7)]) C dX10_chain_303 (by decide) rfl ?_
      refine z_iinc (v := 1) (lv1 := [(5, .int (x5 + 1)), (2, .int x2), (0, .ref (ga (kG K) 0)), (1, .int x1), (3, .int x3), (4, .int x4), (6, .int x6), (7, .int x7)]) C dX10_chain_304 5 rfl (by decide) (by decide) rfl ?_
      refine z_goto (tgt := 213) C dX10_chain_307 (by decide) ?_
      exact z_sub [2, 3, 1, 4, 5, 0] rfl (hk213 x2 (x5 + 1) σ)
    · refine z_iload C dX10_chain_301 6 rfl ?_
      refine z_istore_n (lv1 := [(2, .int x6), (0, .ref (ga (kG K) 0)), (1, .int x1), (3, .int x3), (4, .int x4), (5, .int x5), (6, .int x6), (7, .int x7)]) C dX10_chain_303 (by decide) rfl ?_
      refine z_iinc (v := 1) (lv1 := [(5, .int (x5 + 1)), (2, .int x6), (0, .ref (ga (kG K) 0)), (1, .int x1), (3, .int x3), (4, .int x4), (6, .int x6), (7, .int x7)]) C dX10_chain_304 5 rfl (by decide) (by decide) rfl ?_
      refine z_goto (tgt := 213) C dX10_chain_307 (by decide) ?_
      exact z_sub [2, 3, 1, 4, 5, 0] rfl (hk213 x6 (x5 + 1) σ)
  · refine z_aload_n C dX10_chain_243 0 rfl ?_
    refine z_getR C fd_X10_53 dX10_chain_244 ?_
    refine z_iload C dX10_chain_247 7 rfl ?_
    refine z_iald C sB_13 dX10_chain_249 (fun v1 => ?_)
    refine z_iload_n C dX10_chain_250 2 rfl ?_
    refine z_ishr C dX10_chain_251 ?_
    refine z_iconst (v := 1) C dX10_chain_252 (by decide) ?_
    refine z_iand C dX10_chain_253 ?_
    refine z_iconst (v := 1) C dX10_chain_254 (by decide) ?_
    refine z_icmp_ne (tgt := 281) C dX10_chain_255 (by decide) ?_ ?_
    · refine z_aload_n C dX10_chain_258 0 rfl ?_
      refine z_getR C fd_X10_56 dX10_chain_259 ?_
      refine z_iload C dX10_chain_262 7 rfl ?_
      refine z_iald C sB_14 dX10_chain_264 (fun v2 => ?_)
      refine z_iconst (v := 1) C dX10_chain_265 (by decide) ?_
      refine z_iadd C dX10_chain_266 ?_
      refine z_aload_n C dX10_chain_267 0 rfl ?_
      refine z_getR C fd_X10_56 dX10_chain_268 ?_
      refine z_iload_n C dX10_chain_271 2 rfl ?_
      refine z_iald C sB_14 dX10_chain_272 (fun v3 => ?_)
      refine z_icmp_ne (tgt := 281) C dX10_chain_273 (by decide) ?_ ?_
      · refine z_iload C dX10_chain_276 7 rfl ?_
        refine z_goto (tgt := 283) C dX10_chain_278 (by decide) ?_
        refine z_istore (lv1 := [(6, .int x7), (0, .ref (ga (kG K) 0)), (1, .int x1), (2, .int x2), (3, .int x3), (4, .int x4), (5, .int x5), (7, .int x7)]) C dX10_chain_283 (by decide) rfl ?_
        refine z_iinc (v := (-1)) (lv1 := [(7, .int (x7 + (-1))), (6, .int x7), (0, .ref (ga (kG K) 0)), (1, .int x1), (2, .int x2), (3, .int x3), (4, .int x4), (5, .int x5)]) C dX10_chain_285 7 rfl (by decide) (by decide) rfl ?_
        refine z_goto (tgt := 238) C dX10_chain_288 (by decide) ?_
        exact z_sub [2, 3, 4, 5, 6, 7, 1, 0] rfl (ih x7 (x7 + (-1)) σ)
      · refine z_iload C dX10_chain_281 6 rfl ?_
        refine z_istore (lv1 := [(6, .int x6), (0, .ref (ga (kG K) 0)), (1, .int x1), (2, .int x2), (3, .int x3), (4, .int x4), (5, .int x5), (7, .int x7)]) C dX10_chain_283 (by decide) rfl ?_
        refine z_iinc (v := (-1)) (lv1 := [(7, .int (x7 + (-1))), (6, .int x6), (0, .ref (ga (kG K) 0)), (1, .int x1), (2, .int x2), (3, .int x3), (4, .int x4), (5, .int x5)]) C dX10_chain_285 7 rfl (by decide) (by decide) rfl ?_
        refine z_goto (tgt := 238) C dX10_chain_288 (by decide) ?_
        exact z_sub [2, 3, 4, 5, 6, 7, 1, 0] rfl (ih x6 (x7 + (-1)) σ)
    · refine z_iload C dX10_chain_281 6 rfl ?_
      refine z_istore (lv1 := [(6, .int x6), (0, .ref (ga (kG K) 0)), (1, .int x1), (2, .int x2), (3, .int x3), (4, .int x4), (5, .int x5), (7, .int x7)]) C dX10_chain_283 (by decide) rfl ?_
      refine z_iinc (v := (-1)) (lv1 := [(7, .int (x7 + (-1))), (6, .int x6), (0, .ref (ga (kG K) 0)), (1, .int x1), (2, .int x2), (3, .int x3), (4, .int x4), (5, .int x5)]) C dX10_chain_285 7 rfl (by decide) (by decide) rfl ?_
      refine z_goto (tgt := 238) C dX10_chain_288 (by decide) ?_
      exact z_sub [2, 3, 4, 5, 6, 7, 1, 0] rfl (ih x6 (x7 + (-1)) σ)
theorem b_X10_chain_L213 (K : zK) (C : zOk zshB K RX10 cX10_chain (some .int) 8 6) (x1 : Int32) (x3 : Int32) (x4 : Int32) : ∀ (n : Nat) (x2 : Int32) (x5 : Int32) (σ : zS), Zf zshB K (f_X10_chain_L213 x1 x3 x4 n x2 x5 σ) 213 [(0, .ref (ga (kG K) 0)), (1, .int x1), (2, .int x2), (3, .int x3), (4, .int x4), (5, .int x5)] [] σ := by
  intro n
  induction n with
  | zero => intro x2 x5 σ; rw [f_X10_chain_L213]; exact z_none
  | succ n ih =>
  intro x2 x5 σ
  rw [f_X10_chain_L213]
  refine z_iload C dX10_chain_213 5 rfl ?_
  refine z_iload_n C dX10_chain_215 3 rfl ?_
  refine z_icmp_ge (tgt := 310) C dX10_chain_216 (by decide) ?_ ?_
  · refine z_iload_n C dX10_chain_310 1 rfl ?_
    refine z_iconst (v := (-1)) C dX10_chain_311 (by decide) ?_
    refine z_icmp_ne (tgt := 319) C dX10_chain_312 (by decide) ?_ ?_
    · refine z_iload_n C dX10_chain_315 3 rfl ?_
      refine z_goto (tgt := 343) C dX10_chain_316 (by decide) ?_
      exact z_iret C dX10_chain_343
    · refine z_iload_n C dX10_chain_319 1 rfl ?_
      refine z_bipush (v := (-2)) C dX10_chain_320 (by decide) ?_
      refine z_icmp_ne (tgt := 342) C dX10_chain_322 (by decide) ?_ ?_
      · refine z_aload_n C dX10_chain_325 0 rfl ?_
        refine z_iload C dX10_chain_326 4 rfl ?_
        refine z_iconst (v := 5) C dX10_chain_328 (by decide) ?_
        refine z_callVi (q := 0) (As := [.int x4, .int 5]) (st := []) C zy_X10_at zv_X10_at ml_X10_172 rcB_0 (by decide) (fun _ _ h => m_X10_at h) rfl rfl (Nat.le_of_ble_eq_true rfl) dX10_chain_329 (fun v1 σ1 => ?_)
        refine z_aload_n C dX10_chain_332 0 rfl ?_
        refine z_iload_n C dX10_chain_333 2 rfl ?_
        refine z_iconst (v := 5) C dX10_chain_334 (by decide) ?_
        refine z_callVi (q := 0) (As := [.int x2, .int 5]) (st := [.int v1]) C zy_X10_at zv_X10_at ml_X10_172 rcB_0 (by decide) (fun _ _ h => m_X10_at h) rfl rfl (Nat.le_of_ble_eq_true rfl) dX10_chain_335 (fun v2 σ2 => ?_)
        refine z_isub C dX10_chain_338 ?_
        refine z_goto (tgt := 343) C dX10_chain_339 (by decide) ?_
        exact z_iret C dX10_chain_343
      · refine z_iconst (v := (-1)) C dX10_chain_342 (by decide) ?_
        exact z_iret C dX10_chain_343
  · refine z_iload C dX10_chain_219 5 rfl ?_
    refine z_iload_n C dX10_chain_221 1 rfl ?_
    refine z_icmp_ne (tgt := 227) C dX10_chain_222 (by decide) ?_ ?_
    · refine z_iload_n C dX10_chain_225 2 rfl ?_
      exact z_iret C dX10_chain_226
    · refine z_iconst (v := (-1)) C dX10_chain_227 (by decide) ?_
      refine z_istore (lv1 := [(6, .int (-1)), (0, .ref (ga (kG K) 0)), (1, .int x1), (2, .int x2), (3, .int x3), (4, .int x4), (5, .int x5)]) C dX10_chain_228 (by decide) rfl ?_
      refine z_aload_n C dX10_chain_230 1 rfl ?_
      refine z_getI C fd_X10_78 dX10_chain_231 ?_
      refine z_iconst (v := 1) C dX10_chain_234 (by decide) ?_
      refine z_isub C dX10_chain_235 ?_
      refine z_istore (lv1 := [(7, .int ((σ 0 16) - 1)), (6, .int (-1)), (0, .ref (ga (kG K) 0)), (1, .int x1), (2, .int x2), (3, .int x3), (4, .int x4), (5, .int x5)]) C dX10_chain_236 (by decide) rfl ?_
      exact z_sub [2, 3, 4, 5, 6, 7, 1, 0] rfl (b_X10_chain_L238 K C x1 x2 x3 x4 x5 _ ih zfu (-1) ((σ 0 16) - 1) σ)
theorem b_X10_chain_L145 (K : zK) (C : zOk zshB K RX10 cX10_chain (some .int) 8 6) (x1 : Int32) : ∀ (n : Nat) (x2 : Int32) (x3 : Int32) (σ : zS), Zf zshB K (f_X10_chain_L145 x1 n x2 x3 σ) 145 [(0, .ref (ga (kG K) 0)), (1, .int x1), (2, .int x2), (3, .int x3)] [] σ := by
  intro n
  induction n with
  | zero => intro x2 x3 σ; rw [f_X10_chain_L145]; exact z_none
  | succ n ih =>
  intro x2 x3 σ
  rw [f_X10_chain_L145]
  refine z_iload_n C dX10_chain_145 3 rfl ?_
  refine z_aload_n C dX10_chain_146 0 rfl ?_
  refine z_getI C fd_X10_78 dX10_chain_147 ?_
  refine z_icmp_ge (tgt := 185) C dX10_chain_150 (by decide) ?_ ?_
  · refine z_iload_n C dX10_chain_185 2 rfl ?_
    refine z_iconst (v := (-1)) C dX10_chain_186 (by decide) ?_
    refine z_icmp_ne (tgt := 200) C dX10_chain_187 (by decide) ?_ ?_
    · refine z_iload_n C dX10_chain_190 1 rfl ?_
      refine z_if_lt (tgt := 198) C dX10_chain_191 (by decide) ?_ ?_
      · refine z_iconst (v := 0) C dX10_chain_198 (by decide) ?_
        exact z_iret C dX10_chain_199
      · refine z_iconst (v := (-1)) C dX10_chain_194 (by decide) ?_
        refine z_goto (tgt := 199) C dX10_chain_195 (by decide) ?_
        exact z_iret C dX10_chain_199
    · refine z_aload_n C dX10_chain_200 0 rfl ?_
      refine z_getR C fd_X10_56 dX10_chain_201 ?_
      refine z_iload_n C dX10_chain_204 2 rfl ?_
      refine z_iald C sB_14 dX10_chain_205 (fun v1 => ?_)
      refine z_istore_n (lv1 := [(3, .int v1), (0, .ref (ga (kG K) 0)), (1, .int x1), (2, .int x2)]) C dX10_chain_206 (by decide) rfl ?_
      refine z_iload_n C dX10_chain_207 3 rfl ?_
      refine z_istore (lv1 := [(4, .int x2), (3, .int v1), (0, .ref (ga (kG K) 0)), (1, .int x1), (2, .int x2)]) C dX10_chain_208 (by decide) rfl ?_
      refine z_iconst (v := 0) C dX10_chain_210 (by decide) ?_
      refine z_istore (lv1 := [(5, .int 0), (4, .int x2), (3, .int v1), (0, .ref (ga (kG K) 0)), (1, .int x1), (2, .int x2)]) C dX10_chain_211 (by decide) rfl ?_
      exact z_sub [3, 4, 5, 2, 1, 0] rfl (b_X10_chain_L213 K C x1 v1 x2 zfu x2 0 σ)
  · refine z_iload_n C dX10_chain_153 2 rfl ?_
    refine z_iconst (v := (-1)) C dX10_chain_154 (by decide) ?_
    refine z_icmp_eq (tgt := 173) C dX10_chain_155 (by decide) ?_ ?_
    · refine z_iload_n C dX10_chain_173 3 rfl ?_
      refine z_goto (tgt := 178) C dX10_chain_174 (by decide) ?_
      refine z_istore_n (lv1 := [(2, .int x3), (0, .ref (ga (kG K) 0)), (1, .int x1), (3, .int x3)]) C dX10_chain_178 (by decide) rfl ?_
      refine z_iinc (v := 1) (lv1 := [(3, .int (x3 + 1)), (2, .int x3), (0, .ref (ga (kG K) 0)), (1, .int x1)]) C dX10_chain_179 3 rfl (by decide) (by decide) rfl ?_
      refine z_goto (tgt := 145) C dX10_chain_182 (by decide) ?_
      exact z_sub [2, 3, 1, 0] rfl (ih x3 (x3 + 1) σ)
    · refine z_aload_n C dX10_chain_158 0 rfl ?_
      refine z_getR C fd_X10_56 dX10_chain_159 ?_
      refine z_iload_n C dX10_chain_162 3 rfl ?_
      refine z_iald C sB_14 dX10_chain_163 (fun v1 => ?_)
      refine z_aload_n C dX10_chain_164 0 rfl ?_
      refine z_getR C fd_X10_56 dX10_chain_165 ?_
      refine z_iload_n C dX10_chain_168 2 rfl ?_
      refine z_iald C sB_14 dX10_chain_169 (fun v2 => ?_)
      refine z_icmp_le (tgt := 177) C dX10_chain_170 (by decide) ?_ ?_
      · refine z_iload_n C dX10_chain_177 2 rfl ?_
        refine z_istore_n (lv1 := [(2, .int x2), (0, .ref (ga (kG K) 0)), (1, .int x1), (3, .int x3)]) C dX10_chain_178 (by decide) rfl ?_
        refine z_iinc (v := 1) (lv1 := [(3, .int (x3 + 1)), (2, .int x2), (0, .ref (ga (kG K) 0)), (1, .int x1)]) C dX10_chain_179 3 rfl (by decide) (by decide) rfl ?_
        refine z_goto (tgt := 145) C dX10_chain_182 (by decide) ?_
        exact z_sub [2, 3, 1, 0] rfl (ih x2 (x3 + 1) σ)
      · refine z_iload_n C dX10_chain_173 3 rfl ?_
        refine z_goto (tgt := 178) C dX10_chain_174 (by decide) ?_
        refine z_istore_n (lv1 := [(2, .int x3), (0, .ref (ga (kG K) 0)), (1, .int x1), (3, .int x3)]) C dX10_chain_178 (by decide) rfl ?_
        refine z_iinc (v := 1) (lv1 := [(3, .int (x3 + 1)), (2, .int x3), (0, .ref (ga (kG K) 0)), (1, .int x1)]) C dX10_chain_179 3 rfl (by decide) (by decide) rfl ?_
        refine z_goto (tgt := 145) C dX10_chain_182 (by decide) ?_
        exact z_sub [2, 3, 1, 0] rfl (ih x3 (x3 + 1) σ)
theorem b_X10_chain_L66 (K : zK) (C : zOk zshB K RX10 cX10_chain (some .int) 8 6) (x1 : Int32) (x2 : Int32) (x3 : Int32) (k55 : Int32 → zS → Option (Int32 × zS)) (hk55 : ∀ (x3 : Int32) (σ : zS), Zf zshB K (k55 x3 σ) 55 [(0, .ref (ga (kG K) 0)), (1, .int x1), (2, .int x2), (3, .int x3)] [] σ) : ∀ (n : Nat) (x4 : Int32) (σ : zS), Zf zshB K (f_X10_chain_L66 k55 x1 x2 x3 n x4 σ) 66 [(0, .ref (ga (kG K) 0)), (1, .int x1), (2, .int x2), (3, .int x3), (4, .int x4)] [] σ := by
  intro n
  induction n with
  | zero => intro x4 σ; rw [f_X10_chain_L66]; exact z_none
  | succ n ih =>
  intro x4 σ
  rw [f_X10_chain_L66]
  refine z_iload C dX10_chain_66 4 rfl ?_
  refine z_aload_n C dX10_chain_68 0 rfl ?_
  refine z_getI C fd_X10_78 dX10_chain_69 ?_
  refine z_icmp_ge (tgt := 129) C dX10_chain_72 (by decide) ?_ ?_
  · refine z_iinc (v := 1) (lv1 := [(3, .int (x3 + 1)), (0, .ref (ga (kG K) 0)), (1, .int x1), (2, .int x2), (4, .int x4)]) C dX10_chain_129 3 rfl (by decide) (by decide) rfl ?_
    refine z_goto (tgt := 55) C dX10_chain_132 (by decide) ?_
    exact z_sub [1, 2, 3, 0] rfl (hk55 (x3 + 1) σ)
  · refine z_aload_n C dX10_chain_75 0 rfl ?_
    refine z_getR C fd_X10_56 dX10_chain_76 ?_
    refine z_iload_n C dX10_chain_79 3 rfl ?_
    refine z_aload_n C dX10_chain_80 0 rfl ?_
    refine z_getR C fd_X10_53 dX10_chain_81 ?_
    refine z_iload C dX10_chain_84 4 rfl ?_
    refine z_iald C sB_13 dX10_chain_86 (fun v1 => ?_)
    refine z_iload_n C dX10_chain_87 3 rfl ?_
    refine z_ishr C dX10_chain_88 ?_
    refine z_iconst (v := 1) C dX10_chain_89 (by decide) ?_
    refine z_iand C dX10_chain_90 ?_
    refine z_iconst (v := 1) C dX10_chain_91 (by decide) ?_
    refine z_icmp_ne (tgt := 116) C dX10_chain_92 (by decide) ?_ ?_
    · refine z_aload_n C dX10_chain_95 0 rfl ?_
      refine z_getR C fd_X10_56 dX10_chain_96 ?_
      refine z_iload_n C dX10_chain_99 3 rfl ?_
      refine z_iald C sB_14 dX10_chain_100 (fun v2 => ?_)
      refine z_aload_n C dX10_chain_101 0 rfl ?_
      refine z_getR C fd_X10_56 dX10_chain_102 ?_
      refine z_iload C dX10_chain_105 4 rfl ?_
      refine z_iald C sB_14 dX10_chain_107 (fun v3 => ?_)
      refine z_iconst (v := 1) C dX10_chain_108 (by decide) ?_
      refine z_iadd C dX10_chain_109 ?_
      refine z_callSi (As := [.int v2, .int (v3 + 1)]) (st := [.int x3, .ref (ga (kG K) 14)]) C zy_X10_greater zs_X10_greater ml_X10_199 (by decide) (fun _ _ h => m_X10_greater h) rfl rfl (Nat.le_of_ble_eq_true rfl) dX10_chain_110 (fun v4 σ4 => ?_)
      refine z_goto (tgt := 122) C dX10_chain_113 (by decide) ?_
      refine z_iast C sB_14 dX10_chain_122 (fun σ5 => ?_)
      refine z_iinc (v := 1) (lv1 := [(4, .int (x4 + 1)), (0, .ref (ga (kG K) 0)), (1, .int x1), (2, .int x2), (3, .int x3)]) C dX10_chain_123 4 rfl (by decide) (by decide) rfl ?_
      refine z_goto (tgt := 66) C dX10_chain_126 (by decide) ?_
      exact z_sub [1, 2, 3, 4, 0] rfl (ih (x4 + 1) σ5)
    · refine z_aload_n C dX10_chain_116 0 rfl ?_
      refine z_getR C fd_X10_56 dX10_chain_117 ?_
      refine z_iload_n C dX10_chain_120 3 rfl ?_
      refine z_iald C sB_14 dX10_chain_121 (fun v2 => ?_)
      refine z_iast C sB_14 dX10_chain_122 (fun σ3 => ?_)
      refine z_iinc (v := 1) (lv1 := [(4, .int (x4 + 1)), (0, .ref (ga (kG K) 0)), (1, .int x1), (2, .int x2), (3, .int x3)]) C dX10_chain_123 4 rfl (by decide) (by decide) rfl ?_
      refine z_goto (tgt := 66) C dX10_chain_126 (by decide) ?_
      exact z_sub [1, 2, 3, 4, 0] rfl (ih (x4 + 1) σ3)
theorem b_X10_chain_L55 (K : zK) (C : zOk zshB K RX10 cX10_chain (some .int) 8 6) (x1 : Int32) (x2 : Int32) (k45 : Int32 → zS → Option (Int32 × zS)) (hk45 : ∀ (x2 : Int32) (σ : zS), Zf zshB K (k45 x2 σ) 45 [(0, .ref (ga (kG K) 0)), (1, .int x1), (2, .int x2)] [] σ) : ∀ (n : Nat) (x3 : Int32) (σ : zS), Zf zshB K (f_X10_chain_L55 k45 x1 x2 n x3 σ) 55 [(0, .ref (ga (kG K) 0)), (1, .int x1), (2, .int x2), (3, .int x3)] [] σ := by
  intro n
  induction n with
  | zero => intro x3 σ; rw [f_X10_chain_L55]; exact z_none
  | succ n ih =>
  intro x3 σ
  rw [f_X10_chain_L55]
  refine z_iload_n C dX10_chain_55 3 rfl ?_
  refine z_aload_n C dX10_chain_56 0 rfl ?_
  refine z_getI C fd_X10_78 dX10_chain_57 ?_
  refine z_icmp_ge (tgt := 135) C dX10_chain_60 (by decide) ?_ ?_
  · refine z_iinc (v := 1) (lv1 := [(2, .int (x2 + 1)), (0, .ref (ga (kG K) 0)), (1, .int x1), (3, .int x3)]) C dX10_chain_135 2 rfl (by decide) (by decide) rfl ?_
    refine z_goto (tgt := 45) C dX10_chain_138 (by decide) ?_
    exact z_sub [1, 2, 0] rfl (hk45 (x2 + 1) σ)
  · refine z_iconst (v := 0) C dX10_chain_63 (by decide) ?_
    refine z_istore (lv1 := [(4, .int 0), (0, .ref (ga (kG K) 0)), (1, .int x1), (2, .int x2), (3, .int x3)]) C dX10_chain_64 (by decide) rfl ?_
    exact z_sub [1, 2, 3, 4, 0] rfl (b_X10_chain_L66 K C x1 x2 x3 _ ih zfu 0 σ)
theorem b_X10_chain_L45 (K : zK) (C : zOk zshB K RX10 cX10_chain (some .int) 8 6) (x1 : Int32) : ∀ (n : Nat) (x2 : Int32) (σ : zS), Zf zshB K (f_X10_chain_L45 x1 n x2 σ) 45 [(0, .ref (ga (kG K) 0)), (1, .int x1), (2, .int x2)] [] σ := by
  intro n
  induction n with
  | zero => intro x2 σ; rw [f_X10_chain_L45]; exact z_none
  | succ n ih =>
  intro x2 σ
  rw [f_X10_chain_L45]
  refine z_iload_n C dX10_chain_45 2 rfl ?_
  refine z_aload_n C dX10_chain_46 0 rfl ?_
  refine z_getI C fd_X10_78 dX10_chain_47 ?_
  refine z_icmp_ge (tgt := 141) C dX10_chain_50 (by decide) ?_ ?_
  · refine z_iconst (v := (-1)) C dX10_chain_141 (by decide) ?_
    refine z_istore_n (lv1 := [(2, .int (-1)), (0, .ref (ga (kG K) 0)), (1, .int x1)]) C dX10_chain_142 (by decide) rfl ?_
    refine z_iconst (v := 0) C dX10_chain_143 (by decide) ?_
    refine z_istore_n (lv1 := [(3, .int 0), (2, .int (-1)), (0, .ref (ga (kG K) 0)), (1, .int x1)]) C dX10_chain_144 (by decide) rfl ?_
    exact z_sub [2, 3, 1, 0] rfl (b_X10_chain_L145 K C x1 zfu (-1) 0 σ)
  · refine z_iconst (v := 0) C dX10_chain_53 (by decide) ?_
    refine z_istore_n (lv1 := [(3, .int 0), (0, .ref (ga (kG K) 0)), (1, .int x1), (2, .int x2)]) C dX10_chain_54 (by decide) rfl ?_
    exact z_sub [1, 2, 3, 0] rfl (b_X10_chain_L55 K C x1 x2 _ ih zfu 0 σ)
theorem b_X10_chain_L11 (K : zK) (C : zOk zshB K RX10 cX10_chain (some .int) 8 6) (x1 : Int32) : ∀ (n : Nat) (x2 : Int32) (σ : zS), Zf zshB K (f_X10_chain_L11 x1 n x2 σ) 11 [(0, .ref (ga (kG K) 0)), (1, .int x1), (2, .int x2)] [] σ := by
  intro n
  induction n with
  | zero => intro x2 σ; rw [f_X10_chain_L11]; exact z_none
  | succ n ih =>
  intro x2 σ
  rw [f_X10_chain_L11]
  refine z_iload_n C dX10_chain_11 2 rfl ?_
  refine z_aload_n C dX10_chain_12 0 rfl ?_
  refine z_getI C fd_X10_78 dX10_chain_13 ?_
  refine z_icmp_ge (tgt := 43) C dX10_chain_16 (by decide) ?_ ?_
  · refine z_iconst (v := 0) C dX10_chain_43 (by decide) ?_
    refine z_istore_n (lv1 := [(2, .int 0), (0, .ref (ga (kG K) 0)), (1, .int x1)]) C dX10_chain_44 (by decide) rfl ?_
    exact z_sub [1, 2, 0] rfl (b_X10_chain_L45 K C x1 zfu 0 σ)
  · refine z_aload_n C dX10_chain_19 0 rfl ?_
    refine z_getR C fd_X10_53 dX10_chain_20 ?_
    refine z_iload_n C dX10_chain_23 2 rfl ?_
    refine z_aload_n C dX10_chain_24 0 rfl ?_
    refine z_iload_n C dX10_chain_25 2 rfl ?_
    refine z_callVi (q := 0) (As := [.int x2]) (st := [.int x2, .ref (ga (kG K) 13)]) C zy_X10_mayBeFrom zv_X10_mayBeFrom ml_X10_217 rcB_0 (by decide) (fun _ _ h => m_X10_mayBeFrom h) rfl rfl (Nat.le_of_ble_eq_true rfl) dX10_chain_26 (fun v1 σ1 => ?_)
    refine z_iast C sB_13 dX10_chain_29 (fun σ2 => ?_)
    refine z_aload_n C dX10_chain_30 0 rfl ?_
    refine z_getR C fd_X10_56 dX10_chain_31 ?_
    refine z_iload_n C dX10_chain_34 2 rfl ?_
    refine z_iconst (v := 1) C dX10_chain_35 (by decide) ?_
    refine z_iast C sB_14 dX10_chain_36 (fun σ3 => ?_)
    refine z_iinc (v := 1) (lv1 := [(2, .int (x2 + 1)), (0, .ref (ga (kG K) 0)), (1, .int x1)]) C dX10_chain_37 2 rfl (by decide) (by decide) rfl ?_
    refine z_goto (tgt := 11) C dX10_chain_40 (by decide) ?_
    exact z_sub [1, 2, 0] rfl (ih (x2 + 1) σ3)
theorem b_X10_chain (K : zK) (C : zOk zshB K RX10 cX10_chain (some .int) 8 6) (x1 : Int32) (σ : zS) : Zf zshB K (f_X10_chain x1 σ) 0 [(0, .ref (ga (kG K) 0)), (1, .int x1)] [] σ := by
  unfold f_X10_chain
  refine z_iload_n C dX10_chain_0 1 rfl ?_
  refine z_bipush (v := (-2)) C dX10_chain_1 (by decide) ?_
  refine z_icmp_ge (tgt := 9) C dX10_chain_3 (by decide) ?_ ?_
  · refine z_iconst (v := 0) C dX10_chain_9 (by decide) ?_
    refine z_istore_n (lv1 := [(2, .int 0), (0, .ref (ga (kG K) 0)), (1, .int x1)]) C dX10_chain_10 (by decide) rfl ?_
    exact z_sub [1, 2, 0] rfl (b_X10_chain_L11 K C x1 zfu 0 σ)
  · refine z_bipush (v := (-3)) C dX10_chain_6 (by decide) ?_
    exact z_iret C dX10_chain_8
theorem m_X10_chain {l : Launch} {G : zG} {x1 : Int32} {σ σ1 : zS} {r : Int32} (h : f_X10_chain x1 σ = some (r, σ1)) : zM l G zshB yX10_chain cX10_chain 8 (some .int) 6 [.ref (ga G 0), .int x1] (zov (some .int) G r) σ σ1 :=
  z_met (by decide) (Nat.le_of_ble_eq_true rfl) h (fun K _ hG C => by subst hG; exact b_X10_chain K C x1 σ)
theorem b_X10_isLive (K : zK) (C : zOk zshB K RX10 cX10_isLive (some .boolean) 3 1) (x1 : Int32) (x2 : Int32) (σ : zS) : Zf zshB K (f_X10_isLive x1 x2 σ) 0 [(0, .ref (ga (kG K) 0)), (1, .int x1), (2, .int x2)] [] σ := by
  unfold f_X10_isLive
  refine z_iload_n C dX10_isLive_0 2 rfl ?_
  refine z_aload_n C dX10_isLive_1 0 rfl ?_
  refine z_getR C fd_X10_7 dX10_isLive_2 ?_
  refine z_iconst (v := 3) C dX10_isLive_5 (by decide) ?_
  refine z_iload_n C dX10_isLive_6 1 rfl ?_
  refine z_imul C dX10_isLive_7 ?_
  refine z_iald C sB_1 dX10_isLive_8 (fun v1 => ?_)
  refine z_aload_n C dX10_isLive_9 0 rfl ?_
  refine z_getR C fd_X10_7 dX10_isLive_10 ?_
  refine z_iconst (v := 3) C dX10_isLive_13 (by decide) ?_
  refine z_iload_n C dX10_isLive_14 1 rfl ?_
  refine z_imul C dX10_isLive_15 ?_
  refine z_iconst (v := 1) C dX10_isLive_16 (by decide) ?_
  refine z_iadd C dX10_isLive_17 ?_
  refine z_iald C sB_1 dX10_isLive_18 (fun v2 => ?_)
  refine z_callSz (As := [.int x2, .int v1, .int v2]) (st := []) C zy_X10_in zs_X10_in ml_X10_71 (by decide) (fun _ _ h => m_X10_in h) rfl rfl (Nat.le_of_ble_eq_true rfl) dX10_isLive_19 (fun v3 σ3 => ?_)
  exact z_zrb C dX10_isLive_22
theorem m_X10_isLive {l : Launch} {G : zG} {x1 : Int32} {x2 : Int32} {σ σ1 : zS} {r : Int32} (h : f_X10_isLive x1 x2 σ = some (r, σ1)) : zM l G zshB yX10_isLive cX10_isLive 3 (some .boolean) 1 [.ref (ga G 0), .int x1, .int x2] (zov (some .boolean) G r) σ σ1 :=
  z_met (by decide) (Nat.le_of_ble_eq_true rfl) h (fun K _ hG C => by subst hG; exact b_X10_isLive K C x1 x2 σ)
theorem b_X10_layOut_J227 (K : zK) (C : zOk zshB K RX10 cX10_layOut none 10 2) (x2 : Int32) (x3 : Int32) (x4 : Int32) (x5 : Int32) (x6 : Int32) (x9 : Int32) (s0 : Int32) (s1 : Int32) (k71 : Int32 → zS → Option (Int32 × zS)) (hk71 : ∀ (x6 : Int32) (σ : zS), Zf zshB K (k71 x6 σ) 71 [(0, .ref (ga (kG K) 0)), (2, .int x2), (3, .int x3), (4, .int x4), (5, .int x5), (6, .int x6)] [] σ) (σ : zS) : Zf zshB K (f_X10_layOut_J227 k71 x2 x3 x4 x5 x6 x9 s0 s1 σ) 227 [(0, .ref (ga (kG K) 0)), (2, .int x2), (3, .int x3), (4, .int x4), (5, .int x5), (6, .int x6), (9, .int x9)] [.int s0, .int s1, .ref (ga (kG K) 15)] σ := by
  unfold f_X10_layOut_J227
  refine z_iast C sB_15 dX10_layOut_227 (fun σ1 => ?_)
  refine z_aload_n C dX10_layOut_228 0 rfl ?_
  refine z_getR C fd_X10_62 dX10_layOut_229 ?_
  refine z_iload C dX10_layOut_232 5 rfl ?_
  refine z_aload_n C dX10_layOut_234 0 rfl ?_
  refine z_getR C fd_X10_62 dX10_layOut_235 ?_
  refine z_iload C dX10_layOut_238 5 rfl ?_
  refine z_iald C sB_16 dX10_layOut_240 (fun v2 => ?_)
  refine z_iconst (v := (-1)) C dX10_layOut_241 (by decide) ?_
  refine z_icmp_ne (tgt := 258) C dX10_layOut_242 (by decide) ?_ ?_
  · refine z_aload_n C dX10_layOut_245 0 rfl ?_
    refine z_getR C fd_X10_62 dX10_layOut_246 ?_
    refine z_iload C dX10_layOut_249 4 rfl ?_
    refine z_iald C sB_16 dX10_layOut_251 (fun v3 => ?_)
    refine z_iload C dX10_layOut_252 6 rfl ?_
    refine z_iadd C dX10_layOut_254 ?_
    refine z_goto (tgt := 278) C dX10_layOut_255 (by decide) ?_
    refine z_iast C sB_16 dX10_layOut_278 (fun σ4 => ?_)
    refine z_iinc (v := 1) (lv1 := [(6, .int (x6 + 1)), (0, .ref (ga (kG K) 0)), (2, .int x2), (3, .int x3), (4, .int x4), (5, .int x5), (9, .int x9)]) C dX10_layOut_279 5 rfl (by decide) (by decide) rfl ?_
    refine z_goto (tgt := 71) C dX10_layOut_282 (by decide) ?_
    exact z_sub [1, 2, 3, 4, 5, 0] rfl (hk71 (x6 + 1) σ4)
  · refine z_aload_n C dX10_layOut_258 0 rfl ?_
    refine z_getR C fd_X10_62 dX10_layOut_259 ?_
    refine z_iload C dX10_layOut_262 5 rfl ?_
    refine z_iald C sB_16 dX10_layOut_264 (fun v3 => ?_)
    refine z_aload_n C dX10_layOut_265 0 rfl ?_
    refine z_getR C fd_X10_62 dX10_layOut_266 ?_
    refine z_iload C dX10_layOut_269 4 rfl ?_
    refine z_iald C sB_16 dX10_layOut_271 (fun v4 => ?_)
    refine z_iload C dX10_layOut_272 6 rfl ?_
    refine z_iadd C dX10_layOut_274 ?_
    refine z_callSi (As := [.int v3, .int (v4 + x9)]) (st := [.int x6, .ref (ga (kG K) 16)]) C zy_X10_lesser zs_X10_lesser ml_X10_202 (by decide) (fun _ _ h => m_X10_lesser h) rfl rfl (Nat.le_of_ble_eq_true rfl) dX10_layOut_275 (fun v5 σ5 => ?_)
    refine z_iast C sB_16 dX10_layOut_278 (fun σ6 => ?_)
    refine z_iinc (v := 1) (lv1 := [(6, .int (x6 + 1)), (0, .ref (ga (kG K) 0)), (2, .int x2), (3, .int x3), (4, .int x4), (5, .int x5), (9, .int x9)]) C dX10_layOut_279 5 rfl (by decide) (by decide) rfl ?_
    refine z_goto (tgt := 71) C dX10_layOut_282 (by decide) ?_
    exact z_sub [1, 2, 3, 4, 5, 0] rfl (hk71 (x6 + 1) σ6)
theorem b_X10_layOut_J179 (K : zK) (C : zOk zshB K RX10 cX10_layOut none 10 2) (x2 : Int32) (x3 : Int32) (x4 : Int32) (x5 : Int32) (x6 : Int32) (x9 : Int32) (k71 : Int32 → zS → Option (Int32 × zS)) (hk71 : ∀ (x6 : Int32) (σ : zS), Zf zshB K (k71 x6 σ) 71 [(0, .ref (ga (kG K) 0)), (2, .int x2), (3, .int x3), (4, .int x4), (5, .int x5), (6, .int x6)] [] σ) (σ : zS) : Zf zshB K (f_X10_layOut_J179 k71 x2 x3 x4 x5 x6 x9 σ) 179 [(0, .ref (ga (kG K) 0)), (2, .int x2), (3, .int x3), (4, .int x4), (5, .int x5), (6, .int x6), (9, .int x9)] [] σ := by
  unfold f_X10_layOut_J179
  refine z_aload_n C dX10_layOut_179 0 rfl ?_
  refine z_getR C fd_X10_59 dX10_layOut_180 ?_
  refine z_iload C dX10_layOut_183 5 rfl ?_
  refine z_aload_n C dX10_layOut_185 0 rfl ?_
  refine z_getR C fd_X10_59 dX10_layOut_186 ?_
  refine z_iload C dX10_layOut_189 5 rfl ?_
  refine z_iald C sB_15 dX10_layOut_191 (fun v1 => ?_)
  refine z_iconst (v := (-1)) C dX10_layOut_192 (by decide) ?_
  refine z_icmp_ne (tgt := 208) C dX10_layOut_193 (by decide) ?_ ?_
  · refine z_aload_n C dX10_layOut_196 0 rfl ?_
    refine z_getR C fd_X10_59 dX10_layOut_197 ?_
    refine z_iload C dX10_layOut_200 4 rfl ?_
    refine z_iald C sB_15 dX10_layOut_202 (fun v2 => ?_)
    refine z_iconst (v := 1) C dX10_layOut_203 (by decide) ?_
    refine z_iadd C dX10_layOut_204 ?_
    refine z_goto (tgt := 227) C dX10_layOut_205 (by decide) ?_
    exact z_sub [0, 1, 2, 3, 4, 5, 6] rfl (b_X10_layOut_J227 K C x2 x3 x4 x5 x6 x9 (v2 + 1) x6 k71 hk71 σ)
  · refine z_aload_n C dX10_layOut_208 0 rfl ?_
    refine z_getR C fd_X10_59 dX10_layOut_209 ?_
    refine z_iload C dX10_layOut_212 5 rfl ?_
    refine z_iald C sB_15 dX10_layOut_214 (fun v2 => ?_)
    refine z_aload_n C dX10_layOut_215 0 rfl ?_
    refine z_getR C fd_X10_59 dX10_layOut_216 ?_
    refine z_iload C dX10_layOut_219 4 rfl ?_
    refine z_iald C sB_15 dX10_layOut_221 (fun v3 => ?_)
    refine z_iconst (v := 1) C dX10_layOut_222 (by decide) ?_
    refine z_iadd C dX10_layOut_223 ?_
    refine z_callSi (As := [.int v2, .int (v3 + 1)]) (st := [.int x6, .ref (ga (kG K) 15)]) C zy_X10_lesser zs_X10_lesser ml_X10_202 (by decide) (fun _ _ h => m_X10_lesser h) rfl rfl (Nat.le_of_ble_eq_true rfl) dX10_layOut_224 (fun v4 σ4 => ?_)
    exact z_sub [0, 1, 2, 3, 4, 5, 6] rfl (b_X10_layOut_J227 K C x2 x3 x4 x5 x6 x9 v4 x6 k71 hk71 σ4)
theorem b_X10_layOut_J157 (K : zK) (C : zOk zshB K RX10 cX10_layOut none 10 2) (x2 : Int32) (x3 : Int32) (x4 : Int32) (x5 : Int32) (x6 : Int32) (s0 : Int32) (k71 : Int32 → zS → Option (Int32 × zS)) (hk71 : ∀ (x6 : Int32) (σ : zS), Zf zshB K (k71 x6 σ) 71 [(0, .ref (ga (kG K) 0)), (2, .int x2), (3, .int x3), (4, .int x4), (5, .int x5), (6, .int x6)] [] σ) (σ : zS) : Zf zshB K (f_X10_layOut_J157 k71 x2 x3 x4 x5 x6 s0 σ) 157 [(0, .ref (ga (kG K) 0)), (2, .int x2), (3, .int x3), (4, .int x4), (5, .int x5), (6, .int x6)] [.int s0] σ := by
  unfold f_X10_layOut_J157
  refine z_istore (lv1 := [(9, .int s0), (0, .ref (ga (kG K) 0)), (2, .int x2), (3, .int x3), (4, .int x4), (5, .int x5), (6, .int x6)]) C dX10_layOut_157 (by decide) rfl ?_
  refine z_iload C dX10_layOut_159 0 rfl ?_
  refine z_if_le (tgt := 279) C dX10_layOut_161 (by decide) ?_ ?_
  · refine z_iinc (v := 1) (lv1 := [(6, .int (x6 + 1)), (9, .int s0), (0, .ref (ga (kG K) 0)), (2, .int x2), (3, .int x3), (4, .int x4), (5, .int x5)]) C dX10_layOut_279 6 rfl (by decide) (by decide) rfl ?_
    refine z_goto (tgt := 71) C dX10_layOut_282 (by decide) ?_
    exact z_sub [2, 3, 4, 5, 6, 0] rfl (hk71 (x6 + 1) σ)
  · refine z_iload_n C dX10_layOut_164 2 rfl ?_
    refine z_iconst (v := (-1)) C dX10_layOut_165 (by decide) ?_
    refine z_icmp_eq (tgt := 179) C dX10_layOut_166 (by decide) ?_ ?_
    · exact z_sub [1, 2, 3, 4, 5, 6, 0] rfl (b_X10_layOut_J179 K C x2 x3 x4 x5 x6 s0 k71 hk71 σ)
    · refine z_aload_n C dX10_layOut_169 1 rfl ?_
      refine z_iload C dX10_layOut_170 6 rfl ?_
      refine z_iload_n C dX10_layOut_172 2 rfl ?_
      refine z_callVz (q := 0) (As := [.int x6, .int x2]) (st := []) C zy_X10_isLive zv_X10_isLive ml_X10_220 rcB_0 (by decide) (fun _ _ h => m_X10_isLive h) rfl rfl (Nat.le_of_ble_eq_true rfl) dX10_layOut_173 (fun v1 σ1 => ?_)
      refine z_if_eq (tgt := 279) C dX10_layOut_176 (by decide) ?_ ?_
      · refine z_iinc (v := 1) (lv1 := [(6, .int (x6 + 1)), (9, .int s0), (0, .ref (ga (kG K) 0)), (2, .int x2), (3, .int x3), (4, .int x4), (5, .int x5)]) C dX10_layOut_279 6 rfl (by decide) (by decide) rfl ?_
        refine z_goto (tgt := 71) C dX10_layOut_282 (by decide) ?_
        exact z_sub [2, 3, 4, 5, 6, 0] rfl (hk71 (x6 + 1) σ1)
      · exact z_sub [1, 2, 3, 4, 5, 6, 0] rfl (b_X10_layOut_J179 K C x2 x3 x4 x5 x6 s0 k71 hk71 σ1)
theorem b_X10_layOut_J128 (K : zK) (C : zOk zshB K RX10 cX10_layOut none 10 2) (x2 : Int32) (x3 : Int32) (x4 : Int32) (x5 : Int32) (x6 : Int32) (x7 : Int32) (s0 : Int32) (k71 : Int32 → zS → Option (Int32 × zS)) (hk71 : ∀ (x6 : Int32) (σ : zS), Zf zshB K (k71 x6 σ) 71 [(0, .ref (ga (kG K) 0)), (2, .int x2), (3, .int x3), (4, .int x4), (5, .int x5), (6, .int x6)] [] σ) (σ : zS) : Zf zshB K (f_X10_layOut_J128 k71 x2 x3 x4 x5 x6 x7 s0 σ) 128 [(0, .ref (ga (kG K) 0)), (2, .int x2), (3, .int x3), (4, .int x4), (5, .int x5), (6, .int x6), (7, .int x7)] [.int s0] σ := by
  unfold f_X10_layOut_J128
  refine z_istore (lv1 := [(8, .int s0), (0, .ref (ga (kG K) 0)), (2, .int x2), (3, .int x3), (4, .int x4), (5, .int x5), (6, .int x6), (7, .int x7)]) C dX10_layOut_128 (by decide) rfl ?_
  refine z_iload C dX10_layOut_130 7 rfl ?_
  refine z_if_ne (tgt := 140) C dX10_layOut_132 (by decide) ?_ ?_
  · refine z_iload C dX10_layOut_135 0 rfl ?_
    refine z_goto (tgt := 157) C dX10_layOut_137 (by decide) ?_
    exact z_sub [1, 2, 3, 4, 5, 6] rfl (b_X10_layOut_J157 K C x2 x3 x4 x5 x6 s0 k71 hk71 σ)
  · refine z_iload C dX10_layOut_140 0 rfl ?_
    refine z_if_ne (tgt := 150) C dX10_layOut_142 (by decide) ?_ ?_
    · refine z_iload C dX10_layOut_145 7 rfl ?_
      refine z_goto (tgt := 157) C dX10_layOut_147 (by decide) ?_
      exact z_sub [1, 2, 3, 4, 5, 6] rfl (b_X10_layOut_J157 K C x2 x3 x4 x5 x6 x7 k71 hk71 σ)
    · refine z_iload C dX10_layOut_150 7 rfl ?_
      refine z_iload C dX10_layOut_152 0 rfl ?_
      refine z_callSi (As := [.int x7, .int s0]) (st := []) C zy_X10_lesser zs_X10_lesser ml_X10_202 (by decide) (fun _ _ h => m_X10_lesser h) rfl rfl (Nat.le_of_ble_eq_true rfl) dX10_layOut_154 (fun v1 σ1 => ?_)
      exact z_sub [1, 2, 3, 4, 5, 6] rfl (b_X10_layOut_J157 K C x2 x3 x4 x5 x6 v1 k71 hk71 σ1)
theorem b_X10_layOut_L71 (K : zK) (C : zOk zshB K RX10 cX10_layOut none 10 2) (x2 : Int32) (x3 : Int32) (x4 : Int32) (x5 : Int32) (k61 : Int32 → zS → Option (Int32 × zS)) (hk61 : ∀ (x5 : Int32) (σ : zS), Zf zshB K (k61 x5 σ) 61 [(0, .ref (ga (kG K) 0)), (2, .int x2), (3, .int x3), (4, .int x4), (5, .int x5)] [] σ) : ∀ (n : Nat) (x6 : Int32) (σ : zS), Zf zshB K (f_X10_layOut_L71 k61 x2 x3 x4 x5 n x6 σ) 71 [(0, .ref (ga (kG K) 0)), (2, .int x2), (3, .int x3), (4, .int x4), (5, .int x5), (6, .int x6)] [] σ := by
  intro n
  induction n with
  | zero => intro x6 σ; rw [f_X10_layOut_L71]; exact z_none
  | succ n ih =>
  intro x6 σ
  rw [f_X10_layOut_L71]
  refine z_iload C dX10_layOut_71 5 rfl ?_
  refine z_bipush (v := 10) C dX10_layOut_73 (by decide) ?_
  refine z_icmp_ge (tgt := 285) C dX10_layOut_75 (by decide) ?_ ?_
  · refine z_iinc (v := 1) (lv1 := [(5, .int (x5 + 1)), (0, .ref (ga (kG K) 0)), (2, .int x2), (3, .int x3), (4, .int x4), (6, .int x6)]) C dX10_layOut_285 4 rfl (by decide) (by decide) rfl ?_
    refine z_goto (tgt := 61) C dX10_layOut_288 (by decide) ?_
    exact z_sub [1, 2, 3, 4, 0] rfl (hk61 (x5 + 1) σ)
  · refine z_aload_n C dX10_layOut_78 0 rfl ?_
    refine z_getR C fd_X10_59 dX10_layOut_79 ?_
    refine z_iload C dX10_layOut_82 4 rfl ?_
    refine z_iald C sB_15 dX10_layOut_84 (fun v1 => ?_)
    refine z_iconst (v := (-1)) C dX10_layOut_85 (by decide) ?_
    refine z_icmp_eq (tgt := 285) C dX10_layOut_86 (by decide) ?_ ?_
    · refine z_iinc (v := 1) (lv1 := [(5, .int (x5 + 1)), (0, .ref (ga (kG K) 0)), (2, .int x2), (3, .int x3), (4, .int x4), (6, .int x6)]) C dX10_layOut_285 4 rfl (by decide) (by decide) rfl ?_
      refine z_goto (tgt := 61) C dX10_layOut_288 (by decide) ?_
      exact z_sub [1, 2, 3, 4, 0] rfl (hk61 (x5 + 1) σ)
    · refine z_aload_n C dX10_layOut_89 0 rfl ?_
      refine z_getR C fd_X10_13 dX10_layOut_90 ?_
      refine z_bipush (v := 10) C dX10_layOut_93 (by decide) ?_
      refine z_iload C dX10_layOut_95 4 rfl ?_
      refine z_imul C dX10_layOut_97 ?_
      refine z_iload C dX10_layOut_98 5 rfl ?_
      refine z_iadd C dX10_layOut_100 ?_
      refine z_iald C sB_2 dX10_layOut_101 (fun v2 => ?_)
      refine z_istore (lv1 := [(7, .int v2), (0, .ref (ga (kG K) 0)), (2, .int x2), (3, .int x3), (4, .int x4), (5, .int x5), (6, .int x6)]) C dX10_layOut_102 (by decide) rfl ?_
      refine z_iload_n C dX10_layOut_104 3 rfl ?_
      refine z_if_eq (tgt := 127) C dX10_layOut_105 (by decide) ?_ ?_
      · refine z_iconst (v := 0) C dX10_layOut_127 (by decide) ?_
        exact z_sub [1, 2, 3, 4, 5, 6, 0] rfl (b_X10_layOut_J128 K C x2 x3 x4 x5 x6 v2 0 _ ih σ)
      · refine z_aload_n C dX10_layOut_108 1 rfl ?_
        refine z_getR C fd_X10_13 dX10_layOut_109 ?_
        refine z_bipush (v := 100) C dX10_layOut_112 (by decide) ?_
        refine z_bipush (v := 10) C dX10_layOut_114 (by decide) ?_
        refine z_iload C dX10_layOut_116 5 rfl ?_
        refine z_imul C dX10_layOut_118 ?_
        refine z_iadd C dX10_layOut_119 ?_
        refine z_iload C dX10_layOut_120 6 rfl ?_
        refine z_iadd C dX10_layOut_122 ?_
        refine z_iald C sB_2 dX10_layOut_123 (fun v3 => ?_)
        refine z_goto (tgt := 128) C dX10_layOut_124 (by decide) ?_
        exact z_sub [1, 2, 3, 4, 5, 6, 0] rfl (b_X10_layOut_J128 K C x2 x3 x4 x5 x6 v2 v3 _ ih σ)
theorem b_X10_layOut_L61 (K : zK) (C : zOk zshB K RX10 cX10_layOut none 10 2) (x2 : Int32) (x3 : Int32) (x4 : Int32) (k51 : Int32 → zS → Option (Int32 × zS)) (hk51 : ∀ (x4 : Int32) (σ : zS), Zf zshB K (k51 x4 σ) 51 [(0, .ref (ga (kG K) 0)), (2, .int x2), (3, .int x3), (4, .int x4)] [] σ) : ∀ (n : Nat) (x5 : Int32) (σ : zS), Zf zshB K (f_X10_layOut_L61 k51 x2 x3 x4 n x5 σ) 61 [(0, .ref (ga (kG K) 0)), (2, .int x2), (3, .int x3), (4, .int x4), (5, .int x5)] [] σ := by
  intro n
  induction n with
  | zero => intro x5 σ; rw [f_X10_layOut_L61]; exact z_none
  | succ n ih =>
  intro x5 σ
  rw [f_X10_layOut_L61]
  refine z_iload C dX10_layOut_61 4 rfl ?_
  refine z_bipush (v := 10) C dX10_layOut_63 (by decide) ?_
  refine z_icmp_ge (tgt := 291) C dX10_layOut_65 (by decide) ?_ ?_
  · refine z_iinc (v := 1) (lv1 := [(4, .int (x4 + 1)), (0, .ref (ga (kG K) 0)), (2, .int x2), (3, .int x3), (5, .int x5)]) C dX10_layOut_291 3 rfl (by decide) (by decide) rfl ?_
    refine z_goto (tgt := 51) C dX10_layOut_294 (by decide) ?_
    exact z_sub [1, 2, 3, 0] rfl (hk51 (x4 + 1) σ)
  · refine z_iconst (v := 0) C dX10_layOut_68 (by decide) ?_
    refine z_istore (lv1 := [(6, .int 0), (0, .ref (ga (kG K) 0)), (2, .int x2), (3, .int x3), (4, .int x4), (5, .int x5)]) C dX10_layOut_69 (by decide) rfl ?_
    exact z_sub [1, 2, 3, 4, 5, 0] rfl (b_X10_layOut_L71 K C x2 x3 x4 x5 _ ih zfu 0 σ)
theorem b_X10_layOut_L51 (K : zK) (C : zOk zshB K RX10 cX10_layOut none 10 2) (x2 : Int32) (x3 : Int32) : ∀ (n : Nat) (x4 : Int32) (σ : zS), Zf zshB K (f_X10_layOut_L51 x2 x3 n x4 σ) 51 [(0, .ref (ga (kG K) 0)), (2, .int x2), (3, .int x3), (4, .int x4)] [] σ := by
  intro n
  induction n with
  | zero => intro x4 σ; rw [f_X10_layOut_L51]; exact z_none
  | succ n ih =>
  intro x4 σ
  rw [f_X10_layOut_L51]
  refine z_iload C dX10_layOut_51 3 rfl ?_
  refine z_bipush (v := 10) C dX10_layOut_53 (by decide) ?_
  refine z_icmp_ge (tgt := 297) C dX10_layOut_55 (by decide) ?_ ?_
  · exact z_vret C dX10_layOut_297
  · refine z_iconst (v := 0) C dX10_layOut_58 (by decide) ?_
    refine z_istore (lv1 := [(5, .int 0), (0, .ref (ga (kG K) 0)), (2, .int x2), (3, .int x3), (4, .int x4)]) C dX10_layOut_59 (by decide) rfl ?_
    exact z_sub [1, 2, 3, 4, 0] rfl (b_X10_layOut_L61 K C x2 x3 x4 _ ih zfu 0 σ)
theorem b_X10_layOut_J27 (K : zK) (C : zOk zshB K RX10 cX10_layOut none 10 2) (x1 : Int32) (x2 : Int32) (x3 : Int32) (x4 : Int32) (s0 : Int32) (s1 : Int32) (k3 : Int32 → zS → Option (Int32 × zS)) (hk3 : ∀ (x4 : Int32) (σ : zS), Zf zshB K (k3 x4 σ) 3 [(0, .ref (ga (kG K) 0)), (1, .int x1), (2, .int x2), (3, .int x3), (4, .int x4)] [] σ) (σ : zS) : Zf zshB K (f_X10_layOut_J27 k3 x1 x2 x3 x4 s0 s1 σ) 27 [(0, .ref (ga (kG K) 0)), (1, .int x1), (2, .int x2), (3, .int x3), (4, .int x4)] [.int s0, .int s1, .ref (ga (kG K) 15)] σ := by
  unfold f_X10_layOut_J27
  refine z_iast C sB_15 dX10_layOut_27 (fun σ1 => ?_)
  refine z_aload_n C dX10_layOut_28 0 rfl ?_
  refine z_getR C fd_X10_62 dX10_layOut_29 ?_
  refine z_iload C dX10_layOut_32 4 rfl ?_
  refine z_aload_n C dX10_layOut_34 0 rfl ?_
  refine z_getR C fd_X10_59 dX10_layOut_35 ?_
  refine z_iload C dX10_layOut_38 4 rfl ?_
  refine z_iald C sB_15 dX10_layOut_40 (fun v2 => ?_)
  refine z_iast C sB_16 dX10_layOut_41 (fun σ3 => ?_)
  refine z_iinc (v := 1) (lv1 := [(4, .int (x4 + 1)), (0, .ref (ga (kG K) 0)), (1, .int x1), (2, .int x2), (3, .int x3)]) C dX10_layOut_42 4 rfl (by decide) (by decide) rfl ?_
  refine z_goto (tgt := 3) C dX10_layOut_45 (by decide) ?_
  exact z_sub [1, 2, 3, 4, 0] rfl (hk3 (x4 + 1) σ3)
theorem b_X10_layOut_L3 (K : zK) (C : zOk zshB K RX10 cX10_layOut none 10 2) (x1 : Int32) (x2 : Int32) (x3 : Int32) : ∀ (n : Nat) (x4 : Int32) (σ : zS), Zf zshB K (f_X10_layOut_L3 x1 x2 x3 n x4 σ) 3 [(0, .ref (ga (kG K) 0)), (1, .int x1), (2, .int x2), (3, .int x3), (4, .int x4)] [] σ := by
  intro n
  induction n with
  | zero => intro x4 σ; rw [f_X10_layOut_L3]; exact z_none
  | succ n ih =>
  intro x4 σ
  rw [f_X10_layOut_L3]
  refine z_iload C dX10_layOut_3 4 rfl ?_
  refine z_bipush (v := 10) C dX10_layOut_5 (by decide) ?_
  refine z_icmp_ge (tgt := 48) C dX10_layOut_7 (by decide) ?_ ?_
  · refine z_iconst (v := 0) C dX10_layOut_48 (by decide) ?_
    refine z_istore (lv1 := [(4, .int 0), (0, .ref (ga (kG K) 0)), (1, .int x1), (2, .int x2), (3, .int x3)]) C dX10_layOut_49 (by decide) rfl ?_
    exact z_sub [1, 3, 4, 0] rfl (b_X10_layOut_L51 K C x2 x3 zfu 0 σ)
  · refine z_aload_n C dX10_layOut_10 0 rfl ?_
    refine z_getR C fd_X10_59 dX10_layOut_11 ?_
    refine z_iload C dX10_layOut_14 4 rfl ?_
    refine z_iload C dX10_layOut_16 4 rfl ?_
    refine z_iload_n C dX10_layOut_18 1 rfl ?_
    refine z_icmp_ne (tgt := 26) C dX10_layOut_19 (by decide) ?_ ?_
    · refine z_iconst (v := 0) C dX10_layOut_22 (by decide) ?_
      refine z_goto (tgt := 27) C dX10_layOut_23 (by decide) ?_
      exact z_sub [0, 1, 2, 3, 4] rfl (b_X10_layOut_J27 K C x1 x2 x3 x4 0 x4 _ ih σ)
    · refine z_iconst (v := (-1)) C dX10_layOut_26 (by decide) ?_
      exact z_sub [0, 1, 2, 3, 4] rfl (b_X10_layOut_J27 K C x1 x2 x3 x4 (-1) x4 _ ih σ)
theorem b_X10_layOut (K : zK) (C : zOk zshB K RX10 cX10_layOut none 10 2) (x1 : Int32) (x2 : Int32) (x3 : Int32) (σ : zS) : Zf zshB K (f_X10_layOut x1 x2 x3 σ) 0 [(0, .ref (ga (kG K) 0)), (1, .int x1), (2, .int x2), (3, .int x3)] [] σ := by
  unfold f_X10_layOut
  refine z_iconst (v := 0) C dX10_layOut_0 (by decide) ?_
  refine z_istore (lv1 := [(4, .int 0), (0, .ref (ga (kG K) 0)), (1, .int x1), (2, .int x2), (3, .int x3)]) C dX10_layOut_1 (by decide) rfl ?_
  exact z_sub [1, 2, 3, 4, 0] rfl (b_X10_layOut_L3 K C x1 x2 x3 zfu 0 σ)
theorem m_X10_layOut {l : Launch} {G : zG} {x1 : Int32} {x2 : Int32} {x3 : Int32} {σ σ1 : zS} {r : Int32} (h : f_X10_layOut x1 x2 x3 σ = some (r, σ1)) : zM l G zshB yX10_layOut cX10_layOut 10 none 2 [.ref (ga G 0), .int x1, .int x2, .int x3] (zov none G r) σ σ1 :=
  z_met (by decide) (Nat.le_of_ble_eq_true rfl) h (fun K _ hG C => by subst hG; exact b_X10_layOut K C x1 x2 x3 σ)
