theorem b_X10_isLine_J100 (K : zK) (C : zOk zshB K RX10 cX10_isLine (some .boolean) 2 4) (x1 : Int32) (s0 : Int32) (s1 : Int32) (σ : zS) : Zf zshB K (f_X10_isLine_J100 x1 s0 s1 σ) 100 [(0, .ref (ga (kG K) 0)), (1, .int x1)] [.int s0, .int s1, .ref (ga (kG K) 5)] σ := by
  unfold f_X10_isLine_J100
  refine z_iast C sB_5 dX10_isLine_100 (fun σ1 => ?_)
  refine z_aload_n C dX10_isLine_101 0 rfl ?_
  refine z_getR C fd_X10_29 dX10_isLine_102 ?_
  refine z_iload_n C dX10_isLine_105 1 rfl ?_
  refine z_iald C sB_5 dX10_isLine_106 (fun v2 => ?_)
  refine z_case 0 (fun hc107_0 => ?_) (fun hc107_0 => ?_)
  · refine z_tabIn (tgt := 144) C dX10_isLine_107 0 hc107_0 (by decide) (by decide) rfl (by decide) ?_
    refine z_aload_n C dX10_isLine_144 0 rfl ?_
    refine z_iload_n C dX10_isLine_145 1 rfl ?_
    refine z_iconst (v := 1) C dX10_isLine_146 (by decide) ?_
    refine z_iadd C dX10_isLine_147 ?_
    refine z_iconst (v := 0) C dX10_isLine_148 (by decide) ?_
    refine z_bipush (v := 9) C dX10_isLine_149 (by decide) ?_
    refine z_callVz (q := 0) (As := [.int (x1 + 1), .int 0, .int 9]) (st := []) C zy_X10_isNumber zv_X10_isNumber ml_X10_124 rcB_0 (by decide) (fun _ _ h => m_X10_isNumber h) rfl rfl (Nat.le_of_ble_eq_true rfl) dX10_isLine_151 (fun v3 σ3 => ?_)
    refine z_if_eq (tgt := 210) C dX10_isLine_154 (by decide) ?_ ?_
    · refine z_iconst (v := 0) C dX10_isLine_210 (by decide) ?_
      exact z_zret C (by decide) dX10_isLine_211
    · refine z_aload_n C dX10_isLine_157 0 rfl ?_
      refine z_iload_n C dX10_isLine_158 1 rfl ?_
      refine z_iconst (v := 2) C dX10_isLine_159 (by decide) ?_
      refine z_iadd C dX10_isLine_160 ?_
      refine z_iconst (v := 0) C dX10_isLine_161 (by decide) ?_
      refine z_sipush (v := 9999) C dX10_isLine_162 (by decide) ?_
      refine z_callVz (q := 0) (As := [.int (x1 + 2), .int 0, .int 9999]) (st := []) C zy_X10_isNumber zv_X10_isNumber ml_X10_124 rcB_0 (by decide) (fun _ _ h => m_X10_isNumber h) rfl rfl (Nat.le_of_ble_eq_true rfl) dX10_isLine_165 (fun v4 σ4 => ?_)
      refine z_if_eq (tgt := 210) C dX10_isLine_168 (by decide) ?_ ?_
      · refine z_iconst (v := 0) C dX10_isLine_210 (by decide) ?_
        exact z_zret C (by decide) dX10_isLine_211
      · refine z_aload_n C dX10_isLine_171 0 rfl ?_
        refine z_iload_n C dX10_isLine_172 1 rfl ?_
        refine z_iconst (v := 3) C dX10_isLine_173 (by decide) ?_
        refine z_iadd C dX10_isLine_174 ?_
        refine z_aload_n C dX10_isLine_175 0 rfl ?_
        refine z_getR C fd_X10_29 dX10_isLine_176 ?_
        refine z_iload_n C dX10_isLine_179 1 rfl ?_
        refine z_iconst (v := 2) C dX10_isLine_180 (by decide) ?_
        refine z_iadd C dX10_isLine_181 ?_
        refine z_iald C sB_5 dX10_isLine_182 (fun v5 => ?_)
        refine z_sipush (v := 9999) C dX10_isLine_183 (by decide) ?_
        refine z_callVz (q := 0) (As := [.int (x1 + 3), .int v5, .int 9999]) (st := []) C zy_X10_isNumber zv_X10_isNumber ml_X10_124 rcB_0 (by decide) (fun _ _ h => m_X10_isNumber h) rfl rfl (Nat.le_of_ble_eq_true rfl) dX10_isLine_186 (fun v6 σ6 => ?_)
        refine z_if_eq (tgt := 210) C dX10_isLine_189 (by decide) ?_ ?_
        · refine z_iconst (v := 0) C dX10_isLine_210 (by decide) ?_
          exact z_zret C (by decide) dX10_isLine_211
        · refine z_aload_n C dX10_isLine_192 0 rfl ?_
          refine z_iload_n C dX10_isLine_193 1 rfl ?_
          refine z_iconst (v := 4) C dX10_isLine_194 (by decide) ?_
          refine z_iadd C dX10_isLine_195 ?_
          refine z_iconst (v := 1) C dX10_isLine_196 (by decide) ?_
          refine z_sipush (v := 999) C dX10_isLine_197 (by decide) ?_
          refine z_callVz (q := 0) (As := [.int (x1 + 4), .int 1, .int 999]) (st := []) C zy_X10_isNumber zv_X10_isNumber ml_X10_124 rcB_0 (by decide) (fun _ _ h => m_X10_isNumber h) rfl rfl (Nat.le_of_ble_eq_true rfl) dX10_isLine_200 (fun v7 σ7 => ?_)
          refine z_if_eq (tgt := 210) C dX10_isLine_203 (by decide) ?_ ?_
          · refine z_iconst (v := 0) C dX10_isLine_210 (by decide) ?_
            exact z_zret C (by decide) dX10_isLine_211
          · refine z_iconst (v := 1) C dX10_isLine_206 (by decide) ?_
            refine z_goto (tgt := 211) C dX10_isLine_207 (by decide) ?_
            exact z_zret C (by decide) dX10_isLine_211
  refine z_case 1 (fun hc107_1 => ?_) (fun hc107_1 => ?_)
  · refine z_tabIn (tgt := 212) C dX10_isLine_107 1 hc107_1 (by decide) (by decide) rfl (by decide) ?_
    refine z_aload_n C dX10_isLine_212 0 rfl ?_
    refine z_iload_n C dX10_isLine_213 1 rfl ?_
    refine z_iconst (v := 1) C dX10_isLine_214 (by decide) ?_
    refine z_iadd C dX10_isLine_215 ?_
    refine z_iconst (v := 0) C dX10_isLine_216 (by decide) ?_
    refine z_bipush (v := 8) C dX10_isLine_217 (by decide) ?_
    refine z_callVz (q := 0) (As := [.int (x1 + 1), .int 0, .int 8]) (st := []) C zy_X10_isNumber zv_X10_isNumber ml_X10_124 rcB_0 (by decide) (fun _ _ h => m_X10_isNumber h) rfl rfl (Nat.le_of_ble_eq_true rfl) dX10_isLine_219 (fun v3 σ3 => ?_)
    refine z_if_eq (tgt := 313) C dX10_isLine_222 (by decide) ?_ ?_
    · refine z_iconst (v := 0) C dX10_isLine_313 (by decide) ?_
      exact z_zret C (by decide) dX10_isLine_314
    · refine z_aload_n C dX10_isLine_225 0 rfl ?_
      refine z_iload_n C dX10_isLine_226 1 rfl ?_
      refine z_iconst (v := 2) C dX10_isLine_227 (by decide) ?_
      refine z_iadd C dX10_isLine_228 ?_
      refine z_iconst (v := 0) C dX10_isLine_229 (by decide) ?_
      refine z_bipush (v := 9) C dX10_isLine_230 (by decide) ?_
      refine z_callVz (q := 0) (As := [.int (x1 + 2), .int 0, .int 9]) (st := []) C zy_X10_isNumber zv_X10_isNumber ml_X10_124 rcB_0 (by decide) (fun _ _ h => m_X10_isNumber h) rfl rfl (Nat.le_of_ble_eq_true rfl) dX10_isLine_232 (fun v4 σ4 => ?_)
      refine z_if_eq (tgt := 313) C dX10_isLine_235 (by decide) ?_ ?_
      · refine z_iconst (v := 0) C dX10_isLine_313 (by decide) ?_
        exact z_zret C (by decide) dX10_isLine_314
      · refine z_aload_n C dX10_isLine_238 0 rfl ?_
        refine z_iload_n C dX10_isLine_239 1 rfl ?_
        refine z_iconst (v := 3) C dX10_isLine_240 (by decide) ?_
        refine z_iadd C dX10_isLine_241 ?_
        refine z_iconst (v := 0) C dX10_isLine_242 (by decide) ?_
        refine z_sipush (v := 9999) C dX10_isLine_243 (by decide) ?_
        refine z_callVz (q := 0) (As := [.int (x1 + 3), .int 0, .int 9999]) (st := []) C zy_X10_isNumber zv_X10_isNumber ml_X10_124 rcB_0 (by decide) (fun _ _ h => m_X10_isNumber h) rfl rfl (Nat.le_of_ble_eq_true rfl) dX10_isLine_246 (fun v5 σ5 => ?_)
        refine z_if_eq (tgt := 313) C dX10_isLine_249 (by decide) ?_ ?_
        · refine z_iconst (v := 0) C dX10_isLine_313 (by decide) ?_
          exact z_zret C (by decide) dX10_isLine_314
        · refine z_aload_n C dX10_isLine_252 0 rfl ?_
          refine z_iload_n C dX10_isLine_253 1 rfl ?_
          refine z_iconst (v := 4) C dX10_isLine_254 (by decide) ?_
          refine z_iadd C dX10_isLine_255 ?_
          refine z_iconst (v := 0) C dX10_isLine_256 (by decide) ?_
          refine z_sipush (v := 999) C dX10_isLine_257 (by decide) ?_
          refine z_callVz (q := 0) (As := [.int (x1 + 4), .int 0, .int 999]) (st := []) C zy_X10_isNumber zv_X10_isNumber ml_X10_124 rcB_0 (by decide) (fun _ _ h => m_X10_isNumber h) rfl rfl (Nat.le_of_ble_eq_true rfl) dX10_isLine_260 (fun v6 σ6 => ?_)
          refine z_if_eq (tgt := 313) C dX10_isLine_263 (by decide) ?_ ?_
          · refine z_iconst (v := 0) C dX10_isLine_313 (by decide) ?_
            exact z_zret C (by decide) dX10_isLine_314
          · refine z_aload_n C dX10_isLine_266 0 rfl ?_
            refine z_iload_n C dX10_isLine_267 1 rfl ?_
            refine z_iconst (v := 5) C dX10_isLine_268 (by decide) ?_
            refine z_iadd C dX10_isLine_269 ?_
            refine z_iconst (v := 0) C dX10_isLine_270 (by decide) ?_
            refine z_sipush (v := 999) C dX10_isLine_271 (by decide) ?_
            refine z_callVz (q := 0) (As := [.int (x1 + 5), .int 0, .int 999]) (st := []) C zy_X10_isNumber zv_X10_isNumber ml_X10_124 rcB_0 (by decide) (fun _ _ h => m_X10_isNumber h) rfl rfl (Nat.le_of_ble_eq_true rfl) dX10_isLine_274 (fun v7 σ7 => ?_)
            refine z_if_eq (tgt := 313) C dX10_isLine_277 (by decide) ?_ ?_
            · refine z_iconst (v := 0) C dX10_isLine_313 (by decide) ?_
              exact z_zret C (by decide) dX10_isLine_314
            · refine z_aload_n C dX10_isLine_280 0 rfl ?_
              refine z_iload_n C dX10_isLine_281 1 rfl ?_
              refine z_bipush (v := 6) C dX10_isLine_282 (by decide) ?_
              refine z_iadd C dX10_isLine_284 ?_
              refine z_iconst (v := 0) C dX10_isLine_285 (by decide) ?_
              refine z_sipush (v := 999) C dX10_isLine_286 (by decide) ?_
              refine z_callVz (q := 0) (As := [.int (x1 + 6), .int 0, .int 999]) (st := []) C zy_X10_isNumber zv_X10_isNumber ml_X10_124 rcB_0 (by decide) (fun _ _ h => m_X10_isNumber h) rfl rfl (Nat.le_of_ble_eq_true rfl) dX10_isLine_289 (fun v8 σ8 => ?_)
              refine z_if_eq (tgt := 313) C dX10_isLine_292 (by decide) ?_ ?_
              · refine z_iconst (v := 0) C dX10_isLine_313 (by decide) ?_
                exact z_zret C (by decide) dX10_isLine_314
              · refine z_aload_n C dX10_isLine_295 0 rfl ?_
                refine z_iload_n C dX10_isLine_296 1 rfl ?_
                refine z_bipush (v := 7) C dX10_isLine_297 (by decide) ?_
                refine z_iadd C dX10_isLine_299 ?_
                refine z_iconst (v := 0) C dX10_isLine_300 (by decide) ?_
                refine z_bipush (v := 99) C dX10_isLine_301 (by decide) ?_
                refine z_callVz (q := 0) (As := [.int (x1 + 7), .int 0, .int 99]) (st := []) C zy_X10_isNumber zv_X10_isNumber ml_X10_124 rcB_0 (by decide) (fun _ _ h => m_X10_isNumber h) rfl rfl (Nat.le_of_ble_eq_true rfl) dX10_isLine_303 (fun v9 σ9 => ?_)
                refine z_if_eq (tgt := 313) C dX10_isLine_306 (by decide) ?_ ?_
                · refine z_iconst (v := 0) C dX10_isLine_313 (by decide) ?_
                  exact z_zret C (by decide) dX10_isLine_314
                · refine z_iconst (v := 1) C dX10_isLine_309 (by decide) ?_
                  refine z_goto (tgt := 314) C dX10_isLine_310 (by decide) ?_
                  exact z_zret C (by decide) dX10_isLine_314
  refine z_case 2 (fun hc107_2 => ?_) (fun hc107_2 => ?_)
  · refine z_tabIn (tgt := 315) C dX10_isLine_107 2 hc107_2 (by decide) (by decide) rfl (by decide) ?_
    refine z_aload_n C dX10_isLine_315 0 rfl ?_
    refine z_iload_n C dX10_isLine_316 1 rfl ?_
    refine z_callVz (q := 0) (As := [.int x1]) (st := []) C zy_X10_isWay zv_X10_isWay ml_X10_139 rcB_0 (by decide) (fun _ _ h => m_X10_isWay h) rfl rfl (Nat.le_of_ble_eq_true rfl) dX10_isLine_317 (fun v3 σ3 => ?_)
    exact z_zrb C dX10_isLine_320
  refine z_case 3 (fun hc107_3 => ?_) (fun hc107_3 => ?_)
  · refine z_tabIn (tgt := 315) C dX10_isLine_107 3 hc107_3 (by decide) (by decide) rfl (by decide) ?_
    refine z_aload_n C dX10_isLine_315 0 rfl ?_
    refine z_iload_n C dX10_isLine_316 1 rfl ?_
    refine z_callVz (q := 0) (As := [.int x1]) (st := []) C zy_X10_isWay zv_X10_isWay ml_X10_139 rcB_0 (by decide) (fun _ _ h => m_X10_isWay h) rfl rfl (Nat.le_of_ble_eq_true rfl) dX10_isLine_317 (fun v3 σ3 => ?_)
    exact z_zrb C dX10_isLine_320
  refine z_case 4 (fun hc107_4 => ?_) (fun hc107_4 => ?_)
  · refine z_tabIn (tgt := 321) C dX10_isLine_107 4 hc107_4 (by decide) (by decide) rfl (by decide) ?_
    refine z_aload_n C dX10_isLine_321 0 rfl ?_
    refine z_iload_n C dX10_isLine_322 1 rfl ?_
    refine z_iconst (v := 1) C dX10_isLine_323 (by decide) ?_
    refine z_iadd C dX10_isLine_324 ?_
    refine z_iconst (v := 0) C dX10_isLine_325 (by decide) ?_
    refine z_sipush (v := 999) C dX10_isLine_326 (by decide) ?_
    refine z_callVz (q := 0) (As := [.int (x1 + 1), .int 0, .int 999]) (st := []) C zy_X10_isNumber zv_X10_isNumber ml_X10_124 rcB_0 (by decide) (fun _ _ h => m_X10_isNumber h) rfl rfl (Nat.le_of_ble_eq_true rfl) dX10_isLine_329 (fun v3 σ3 => ?_)
    exact z_zrb C dX10_isLine_332
  refine z_case 5 (fun hc107_5 => ?_) (fun hc107_5 => ?_)
  · refine z_tabIn (tgt := 321) C dX10_isLine_107 5 hc107_5 (by decide) (by decide) rfl (by decide) ?_
    refine z_aload_n C dX10_isLine_321 0 rfl ?_
    refine z_iload_n C dX10_isLine_322 1 rfl ?_
    refine z_iconst (v := 1) C dX10_isLine_323 (by decide) ?_
    refine z_iadd C dX10_isLine_324 ?_
    refine z_iconst (v := 0) C dX10_isLine_325 (by decide) ?_
    refine z_sipush (v := 999) C dX10_isLine_326 (by decide) ?_
    refine z_callVz (q := 0) (As := [.int (x1 + 1), .int 0, .int 999]) (st := []) C zy_X10_isNumber zv_X10_isNumber ml_X10_124 rcB_0 (by decide) (fun _ _ h => m_X10_isNumber h) rfl rfl (Nat.le_of_ble_eq_true rfl) dX10_isLine_329 (fun v3 σ3 => ?_)
    exact z_zrb C dX10_isLine_332
  refine z_tabD (tgt := 333) C [0, 1, 2, 3, 4, 5] (List.forall_mem_cons.mpr ⟨ztoi hc107_0 rfl, (List.forall_mem_cons.mpr ⟨ztoi hc107_1 rfl, (List.forall_mem_cons.mpr ⟨ztoi hc107_2 rfl, (List.forall_mem_cons.mpr ⟨ztoi hc107_3 rfl, (List.forall_mem_cons.mpr ⟨ztoi hc107_4 rfl, (List.forall_mem_cons.mpr ⟨ztoi hc107_5 rfl, (fun _ h => absurd h List.not_mem_nil)⟩)⟩)⟩)⟩)⟩)⟩) dX10_isLine_107 (by decide +kernel) (by decide) ?_
  refine z_aload_n C dX10_isLine_333 0 rfl ?_
  refine z_callVz (q := 0) (As := []) (st := []) C zy_X10_fails zv_X10_fails ml_X10_120 rcB_0 (by decide) (fun _ _ h => m_X10_fails h) rfl rfl (Nat.le_of_ble_eq_true rfl) dX10_isLine_334 (fun v3 σ3 => ?_)
  exact z_zrb C dX10_isLine_337
theorem b_X10_isLine (K : zK) (C : zOk zshB K RX10 cX10_isLine (some .boolean) 2 4) (x1 : Int32) (σ : zS) : Zf zshB K (f_X10_isLine x1 σ) 0 [(0, .ref (ga (kG K) 0)), (1, .int x1)] [] σ := by
  unfold f_X10_isLine
  refine z_aload_n C dX10_isLine_0 0 rfl ?_
  refine z_callVv (q := 0) (As := []) (st := []) C zy_X10_nextToken zv_X10_nextToken ml_X10_117 rcB_0 (by decide) (fun _ _ h => m_X10_nextToken h) rfl rfl (Nat.le_of_ble_eq_true rfl) dX10_isLine_1 (fun _ σ1 => ?_)
  refine z_aload_n C dX10_isLine_4 0 rfl ?_
  refine z_getR C fd_X10_29 dX10_isLine_5 ?_
  refine z_iload_n C dX10_isLine_8 1 rfl ?_
  refine z_aload_n C dX10_isLine_9 0 rfl ?_
  refine z_getL C fd_X10_100 dX10_isLine_10 ?_
  refine z_ldc2 (v := 8740067) C dX10_isLine_13 ko_X10_127 ?_
  refine z_lcmp C dX10_isLine_16 ?_
  refine z_if_ne (tgt := 24) C dX10_isLine_17 (by decide) ?_ ?_
  · refine z_iconst (v := 0) C dX10_isLine_20 (by decide) ?_
    refine z_goto (tgt := 100) C dX10_isLine_21 (by decide) ?_
    exact z_sub [0, 1] rfl (b_X10_isLine_J100 K C x1 0 x1 σ1)
  · refine z_aload_n C dX10_isLine_24 0 rfl ?_
    refine z_getL C fd_X10_100 dX10_isLine_25 ?_
    refine z_ldc2 (v := 127274) C dX10_isLine_28 ko_X10_129 ?_
    refine z_lcmp C dX10_isLine_31 ?_
    refine z_if_ne (tgt := 39) C dX10_isLine_32 (by decide) ?_ ?_
    · refine z_iconst (v := 1) C dX10_isLine_35 (by decide) ?_
      refine z_goto (tgt := 100) C dX10_isLine_36 (by decide) ?_
      exact z_sub [0, 1] rfl (b_X10_isLine_J100 K C x1 1 x1 σ1)
    · refine z_aload_n C dX10_isLine_39 0 rfl ?_
      refine z_getL C fd_X10_100 dX10_isLine_40 ?_
      refine z_ldc2 (v := 237307) C dX10_isLine_43 ko_X10_131 ?_
      refine z_lcmp C dX10_isLine_46 ?_
      refine z_if_ne (tgt := 54) C dX10_isLine_47 (by decide) ?_ ?_
      · refine z_iconst (v := 2) C dX10_isLine_50 (by decide) ?_
        refine z_goto (tgt := 100) C dX10_isLine_51 (by decide) ?_
        exact z_sub [0, 1] rfl (b_X10_isLine_J100 K C x1 2 x1 σ1)
      · refine z_aload_n C dX10_isLine_54 0 rfl ?_
        refine z_getL C fd_X10_100 dX10_isLine_55 ?_
        refine z_ldc2 (v := 50348) C dX10_isLine_58 ko_X10_133 ?_
        refine z_lcmp C dX10_isLine_61 ?_
        refine z_if_ne (tgt := 69) C dX10_isLine_62 (by decide) ?_ ?_
        · refine z_iconst (v := 3) C dX10_isLine_65 (by decide) ?_
          refine z_goto (tgt := 100) C dX10_isLine_66 (by decide) ?_
          exact z_sub [0, 1] rfl (b_X10_isLine_J100 K C x1 3 x1 σ1)
        · refine z_aload_n C dX10_isLine_69 0 rfl ?_
          refine z_getL C fd_X10_100 dX10_isLine_70 ?_
          refine z_ldc2 (v := 279252) C dX10_isLine_73 ko_X10_135 ?_
          refine z_lcmp C dX10_isLine_76 ?_
          refine z_if_ne (tgt := 84) C dX10_isLine_77 (by decide) ?_ ?_
          · refine z_iconst (v := 4) C dX10_isLine_80 (by decide) ?_
            refine z_goto (tgt := 100) C dX10_isLine_81 (by decide) ?_
            exact z_sub [0, 1] rfl (b_X10_isLine_J100 K C x1 4 x1 σ1)
          · refine z_aload_n C dX10_isLine_84 0 rfl ?_
            refine z_getL C fd_X10_100 dX10_isLine_85 ?_
            refine z_ldc2 (v := 4419) C dX10_isLine_88 ko_X10_137 ?_
            refine z_lcmp C dX10_isLine_91 ?_
            refine z_if_ne (tgt := 99) C dX10_isLine_92 (by decide) ?_ ?_
            · refine z_iconst (v := 5) C dX10_isLine_95 (by decide) ?_
              refine z_goto (tgt := 100) C dX10_isLine_96 (by decide) ?_
              exact z_sub [0, 1] rfl (b_X10_isLine_J100 K C x1 5 x1 σ1)
            · refine z_iconst (v := (-1)) C dX10_isLine_99 (by decide) ?_
              exact z_sub [0, 1] rfl (b_X10_isLine_J100 K C x1 (-1) x1 σ1)
theorem m_X10_isLine {l : Launch} {G : zG} {x1 : Int32} {σ σ1 : zS} {r : Int32} (h : f_X10_isLine x1 σ = some (r, σ1)) : zM l G zshB yX10_isLine cX10_isLine 2 (some .boolean) 4 [.ref (ga G 0), .int x1] (zov (some .boolean) G r) σ σ1 :=
  z_met (by decide) (Nat.le_of_ble_eq_true rfl) h (fun K _ hG C => by subst hG; exact b_X10_isLine K C x1 σ)
theorem b_X10_isRead_L12 (K : zK) (C : zOk zshB K RX10 cX10_isRead (some .boolean) 2 5) : ∀ (n : Nat) (x1 : Int32) (σ : zS), Zf zshB K (f_X10_isRead_L12 n x1 σ) 12 [(0, .ref (ga (kG K) 0)), (1, .int x1)] [] σ := by
  intro n
  induction n with
  | zero => intro x1 σ; rw [f_X10_isRead_L12]; exact z_none
  | succ n ih =>
  intro x1 σ
  rw [f_X10_isRead_L12]
  refine z_iload_n C dX10_isRead_12 1 rfl ?_
  refine z_if_eq (tgt := 75) C dX10_isRead_13 (by decide) ?_ ?_
  · refine z_aload_n C dX10_isRead_75 0 rfl ?_
    refine z_getL C fd_X10_100 dX10_isRead_76 ?_
    refine z_ldc2 (v := (-2)) C dX10_isRead_79 ko_X10_98 ?_
    refine z_lcmp C dX10_isRead_82 ?_
    refine z_if_eq (tgt := 93) C dX10_isRead_83 (by decide) ?_ ?_
    · refine z_iconst (v := 1) C dX10_isRead_93 (by decide) ?_
      refine z_goto (tgt := 98) C dX10_isRead_94 (by decide) ?_
      exact z_zret C (by decide) dX10_isRead_98
    · refine z_aload_n C dX10_isRead_86 0 rfl ?_
      refine z_callVz (q := 0) (As := []) (st := []) C zy_X10_fails zv_X10_fails ml_X10_120 rcB_0 (by decide) (fun _ _ h => m_X10_fails h) rfl rfl (Nat.le_of_ble_eq_true rfl) dX10_isRead_87 (fun v1 σ1 => ?_)
      refine z_if_eq (tgt := 97) C dX10_isRead_90 (by decide) ?_ ?_
      · refine z_iconst (v := 0) C dX10_isRead_97 (by decide) ?_
        exact z_zret C (by decide) dX10_isRead_98
      · refine z_iconst (v := 1) C dX10_isRead_93 (by decide) ?_
        refine z_goto (tgt := 98) C dX10_isRead_94 (by decide) ?_
        exact z_zret C (by decide) dX10_isRead_98
  · refine z_aload_n C dX10_isRead_16 0 rfl ?_
    refine z_bipush (v := 8) C dX10_isRead_17 (by decide) ?_
    refine z_aload_n C dX10_isRead_19 0 rfl ?_
    refine z_getI C fd_X10_143 dX10_isRead_20 ?_
    refine z_imul C dX10_isRead_23 ?_
    refine z_callVz (q := 0) (As := [.int (8 * (σ 0 14))]) (st := []) C zy_X10_isLine zv_X10_isLine ml_X10_146 rcB_0 (by decide) (fun _ _ h => m_X10_isLine h) rfl rfl (Nat.le_of_ble_eq_true rfl) dX10_isRead_24 (fun v1 σ1 => ?_)
    refine z_if_ne (tgt := 32) C dX10_isRead_27 (by decide) ?_ ?_
    · refine z_iconst (v := 0) C dX10_isRead_30 (by decide) ?_
      exact z_zret C (by decide) dX10_isRead_31
    · refine z_aload_n C dX10_isRead_32 0 rfl ?_
      refine z_dup C dX10_isRead_33 rfl ?_
      refine z_getI C fd_X10_143 dX10_isRead_34 ?_
      refine z_iconst (v := 1) C dX10_isRead_37 (by decide) ?_
      refine z_iadd C dX10_isRead_38 ?_
      refine z_putI C fd_X10_143 fwB_0_14 (lgB 0) (by decide) dX10_isRead_39 (fun σ2 => ?_)
      refine z_aload_n C dX10_isRead_42 0 rfl ?_
      refine z_callVv (q := 0) (As := []) (st := []) C zy_X10_nextToken zv_X10_nextToken ml_X10_117 rcB_0 (by decide) (fun _ _ h => m_X10_nextToken h) rfl rfl (Nat.le_of_ble_eq_true rfl) dX10_isRead_43 (fun _ σ3 => ?_)
      refine z_aload_n C dX10_isRead_46 0 rfl ?_
      refine z_getL C fd_X10_100 dX10_isRead_47 ?_
      refine z_ldc2 (v := (-3)) C dX10_isRead_50 ko_X10_112 ?_
      refine z_lcmp C dX10_isRead_53 ?_
      refine z_if_ne (tgt := 70) C dX10_isRead_54 (by decide) ?_ ?_
      · refine z_aload_n C dX10_isRead_57 0 rfl ?_
        refine z_getI C fd_X10_143 dX10_isRead_58 ?_
        refine z_bipush (v := 8) C dX10_isRead_61 (by decide) ?_
        refine z_icmp_ge (tgt := 70) C dX10_isRead_63 (by decide) ?_ ?_
        · refine z_iconst (v := 0) C dX10_isRead_70 (by decide) ?_
          refine z_istore_n (lv1 := [(1, .int 0), (0, .ref (ga (kG K) 0))]) C dX10_isRead_71 (by decide) rfl ?_
          refine z_goto (tgt := 12) C dX10_isRead_72 (by decide) ?_
          exact z_sub [1, 0] rfl (ih 0 σ3)
        · refine z_iconst (v := 1) C dX10_isRead_66 (by decide) ?_
          refine z_goto (tgt := 71) C dX10_isRead_67 (by decide) ?_
          refine z_istore_n (lv1 := [(1, .int 1), (0, .ref (ga (kG K) 0))]) C dX10_isRead_71 (by decide) rfl ?_
          refine z_goto (tgt := 12) C dX10_isRead_72 (by decide) ?_
          exact z_sub [1, 0] rfl (ih 1 σ3)
      · refine z_iconst (v := 0) C dX10_isRead_70 (by decide) ?_
        refine z_istore_n (lv1 := [(1, .int 0), (0, .ref (ga (kG K) 0))]) C dX10_isRead_71 (by decide) rfl ?_
        refine z_goto (tgt := 12) C dX10_isRead_72 (by decide) ?_
        exact z_sub [1, 0] rfl (ih 0 σ3)
theorem b_X10_isRead (K : zK) (C : zOk zshB K RX10 cX10_isRead (some .boolean) 2 5) (σ : zS) : Zf zshB K (f_X10_isRead σ) 0 [(0, .ref (ga (kG K) 0))] [] σ := by
  unfold f_X10_isRead
  refine z_aload_n C dX10_isRead_0 0 rfl ?_
  refine z_iconst (v := 0) C dX10_isRead_1 (by decide) ?_
  refine z_putI C fd_X10_86 fwB_0_8 (lgB 0) (by decide) dX10_isRead_2 (fun σ1 => ?_)
  refine z_aload_n C dX10_isRead_5 0 rfl ?_
  refine z_iconst (v := 0) C dX10_isRead_6 (by decide) ?_
  refine z_putI C fd_X10_143 fwB_0_14 (lgB 0) (by decide) dX10_isRead_7 (fun σ2 => ?_)
  refine z_iconst (v := 1) C dX10_isRead_10 (by decide) ?_
  refine z_istore_n (lv1 := [(1, .int 1), (0, .ref (ga (kG K) 0))]) C dX10_isRead_11 (by decide) rfl ?_
  exact z_sub [1, 0] rfl (b_X10_isRead_L12 K C zfu 1 σ2)
theorem m_X10_isRead {l : Launch} {G : zG} {σ σ1 : zS} {r : Int32} (h : f_X10_isRead σ = some (r, σ1)) : zM l G zshB yX10_isRead cX10_isRead 2 (some .boolean) 5 [.ref (ga G 0)] (zov (some .boolean) G r) σ σ1 :=
  z_met (by decide) (Nat.le_of_ble_eq_true rfl) h (fun K _ hG C => by subst hG; exact b_X10_isRead K C σ)
theorem b_X10_fault (K : zK) (C : zOk zshB K RX10 cX10_fault (some .int) 1 6) (σ : zS) : Zf zshB K (f_X10_fault σ) 0 [(0, .ref (ga (kG K) 0))] [] σ := by
  unfold f_X10_fault
  refine z_aload_n C dX10_fault_0 0 rfl ?_
  refine z_callVz (q := 0) (As := []) (st := []) C zy_X10_isRead zv_X10_isRead ml_X10_149 rcB_0 (by decide) (fun _ _ h => m_X10_isRead h) rfl rfl (Nat.le_of_ble_eq_true rfl) dX10_fault_1 (fun v1 σ1 => ?_)
  refine z_if_eq (tgt := 11) C dX10_fault_4 (by decide) ?_ ?_
  · refine z_aload_n C dX10_fault_11 0 rfl ?_
    refine z_getI C fd_X10_114 dX10_fault_12 ?_
    exact z_iret C dX10_fault_15
  · refine z_iconst (v := (-1)) C dX10_fault_7 (by decide) ?_
    refine z_goto (tgt := 15) C dX10_fault_8 (by decide) ?_
    exact z_iret C dX10_fault_15
theorem m_X10_fault {l : Launch} {G : zG} {σ σ1 : zS} {r : Int32} (h : f_X10_fault σ = some (r, σ1)) : zM l G zshB yX10_fault cX10_fault 1 (some .int) 6 [.ref (ga G 0)] (zov (some .int) G r) σ σ1 :=
  z_met (by decide) (Nat.le_of_ble_eq_true rfl) h (fun K _ hG C => by subst hG; exact b_X10_fault K C σ)
theorem b_X10_doLine_L63 (K : zK) (C : zOk zshB K RX10 cX10_doLine none 5 0) (x1 : Int32) (x2 : Int32) : ∀ (n : Nat) (x4 : Int32) (σ : zS), Zf zshB K (f_X10_doLine_L63 x1 x2 n x4 σ) 63 [(0, .ref (ga (kG K) 0)), (1, .int x1), (2, .int x2), (4, .int x4)] [] σ := by
  intro n
  induction n with
  | zero => intro x4 σ; rw [f_X10_doLine_L63]; exact z_none
  | succ n ih =>
  intro x4 σ
  rw [f_X10_doLine_L63]
  refine z_iload C dX10_doLine_63 3 rfl ?_
  refine z_iconst (v := 3) C dX10_doLine_65 (by decide) ?_
  refine z_icmp_ge (tgt := 97) C dX10_doLine_66 (by decide) ?_ ?_
  · refine z_goto (tgt := 232) C dX10_doLine_97 (by decide) ?_
    exact z_vret C dX10_doLine_232
  · refine z_aload_n C dX10_doLine_69 0 rfl ?_
    refine z_getR C fd_X10_7 dX10_doLine_70 ?_
    refine z_iconst (v := 3) C dX10_doLine_73 (by decide) ?_
    refine z_iload_n C dX10_doLine_74 2 rfl ?_
    refine z_imul C dX10_doLine_75 ?_
    refine z_iload C dX10_doLine_76 3 rfl ?_
    refine z_iadd C dX10_doLine_78 ?_
    refine z_aload_n C dX10_doLine_79 0 rfl ?_
    refine z_getR C fd_X10_29 dX10_doLine_80 ?_
    refine z_iload_n C dX10_doLine_83 1 rfl ?_
    refine z_iconst (v := 2) C dX10_doLine_84 (by decide) ?_
    refine z_iadd C dX10_doLine_85 ?_
    refine z_iload C dX10_doLine_86 3 rfl ?_
    refine z_iadd C dX10_doLine_88 ?_
    refine z_iald C sB_5 dX10_doLine_89 (fun v1 => ?_)
    refine z_iast C sB_1 dX10_doLine_90 (fun σ2 => ?_)
    refine z_iinc (v := 1) (lv1 := [(4, .int (x4 + 1)), (0, .ref (ga (kG K) 0)), (1, .int x1), (2, .int x2)]) C dX10_doLine_91 3 rfl (by decide) (by decide) rfl ?_
    refine z_goto (tgt := 63) C dX10_doLine_94 (by decide) ?_
    exact z_sub [1, 2, 3, 0] rfl (ih (x4 + 1) σ2)
theorem b_X10_doLine_L115 (K : zK) (C : zOk zshB K RX10 cX10_doLine none 5 0) (x1 : Int32) (x2 : Int32) : ∀ (n : Nat) (x4 : Int32) (σ : zS), Zf zshB K (f_X10_doLine_L115 x1 x2 n x4 σ) 115 [(0, .ref (ga (kG K) 0)), (1, .int x1), (2, .int x2), (4, .int x4)] [] σ := by
  intro n
  induction n with
  | zero => intro x4 σ; rw [f_X10_doLine_L115]; exact z_none
  | succ n ih =>
  intro x4 σ
  rw [f_X10_doLine_L115]
  refine z_iload C dX10_doLine_115 3 rfl ?_
  refine z_bipush (v := 6) C dX10_doLine_117 (by decide) ?_
  refine z_icmp_ge (tgt := 151) C dX10_doLine_119 (by decide) ?_ ?_
  · refine z_goto (tgt := 232) C dX10_doLine_151 (by decide) ?_
    exact z_vret C dX10_doLine_232
  · refine z_aload_n C dX10_doLine_122 0 rfl ?_
    refine z_getR C fd_X10_16 dX10_doLine_123 ?_
    refine z_bipush (v := 6) C dX10_doLine_126 (by decide) ?_
    refine z_iload_n C dX10_doLine_128 2 rfl ?_
    refine z_imul C dX10_doLine_129 ?_
    refine z_iload C dX10_doLine_130 3 rfl ?_
    refine z_iadd C dX10_doLine_132 ?_
    refine z_aload_n C dX10_doLine_133 0 rfl ?_
    refine z_getR C fd_X10_29 dX10_doLine_134 ?_
    refine z_iload_n C dX10_doLine_137 1 rfl ?_
    refine z_iconst (v := 2) C dX10_doLine_138 (by decide) ?_
    refine z_iadd C dX10_doLine_139 ?_
    refine z_iload C dX10_doLine_140 3 rfl ?_
    refine z_iadd C dX10_doLine_142 ?_
    refine z_iald C sB_5 dX10_doLine_143 (fun v1 => ?_)
    refine z_iast C sB_3 dX10_doLine_144 (fun σ2 => ?_)
    refine z_iinc (v := 1) (lv1 := [(4, .int (x4 + 1)), (0, .ref (ga (kG K) 0)), (1, .int x1), (2, .int x2)]) C dX10_doLine_145 3 rfl (by decide) (by decide) rfl ?_
    refine z_goto (tgt := 115) C dX10_doLine_148 (by decide) ?_
    exact z_sub [1, 2, 3, 0] rfl (ih (x4 + 1) σ2)
theorem b_X10_doLine (K : zK) (C : zOk zshB K RX10 cX10_doLine none 5 0) (x1 : Int32) (σ : zS) : Zf zshB K (f_X10_doLine x1 σ) 0 [(0, .ref (ga (kG K) 0)), (1, .int x1)] [] σ := by
  unfold f_X10_doLine
  refine z_aload_n C dX10_doLine_0 0 rfl ?_
  refine z_getR C fd_X10_29 dX10_doLine_1 ?_
  refine z_iload_n C dX10_doLine_4 1 rfl ?_
  refine z_iconst (v := 1) C dX10_doLine_5 (by decide) ?_
  refine z_iadd C dX10_doLine_6 ?_
  refine z_iald C sB_5 dX10_doLine_7 (fun v1 => ?_)
  refine z_istore_n (lv1 := [(2, .int v1), (0, .ref (ga (kG K) 0)), (1, .int x1)]) C dX10_doLine_8 (by decide) rfl ?_
  refine z_aload_n C dX10_doLine_9 1 rfl ?_
  refine z_getR C fd_X10_29 dX10_doLine_10 ?_
  refine z_iload_n C dX10_doLine_13 2 rfl ?_
  refine z_iconst (v := 2) C dX10_doLine_14 (by decide) ?_
  refine z_iadd C dX10_doLine_15 ?_
  refine z_iald C sB_5 dX10_doLine_16 (fun v2 => ?_)
  refine z_istore_n (lv1 := [(3, .int v2), (2, .int v1), (0, .ref (ga (kG K) 0)), (1, .int x1)]) C dX10_doLine_17 (by decide) rfl ?_
  refine z_aload_n C dX10_doLine_18 2 rfl ?_
  refine z_getR C fd_X10_29 dX10_doLine_19 ?_
  refine z_iload_n C dX10_doLine_22 3 rfl ?_
  refine z_iald C sB_5 dX10_doLine_23 (fun v3 => ?_)
  refine z_case 0 (fun hc24_0 => ?_) (fun hc24_0 => ?_)
  · refine z_tabIn (tgt := 60) C dX10_doLine_24 0 hc24_0 (by decide) (by decide) rfl (by decide) ?_
    refine z_iconst (v := 0) C dX10_doLine_60 (by decide) ?_
    refine z_istore (lv1 := [(4, .int 0), (3, .int v2), (2, .int v1), (0, .ref (ga (kG K) 0)), (1, .int x1)]) C dX10_doLine_61 (by decide) rfl ?_
    exact z_sub [3, 4, 2, 0] rfl (b_X10_doLine_L63 K C x1 v1 zfu 0 σ)
  refine z_case 1 (fun hc24_1 => ?_) (fun hc24_1 => ?_)
  · refine z_tabIn (tgt := 100) C dX10_doLine_24 1 hc24_1 (by decide) (by decide) rfl (by decide) ?_
    refine z_aload_n C dX10_doLine_100 2 rfl ?_
    refine z_aload_n C dX10_doLine_101 2 rfl ?_
    refine z_getI C fd_X10_75 dX10_doLine_102 ?_
    refine z_iconst (v := 1) C dX10_doLine_105 (by decide) ?_
    refine z_iload_n C dX10_doLine_106 1 rfl ?_
    refine z_ishl C dX10_doLine_107 ?_
    refine z_ior C dX10_doLine_108 ?_
    refine z_putI C fd_X10_75 fwB_0_3 (lgB 0) (by decide) dX10_doLine_109 (fun σ4 => ?_)
    refine z_iconst (v := 0) C dX10_doLine_112 (by decide) ?_
    refine z_istore (lv1 := [(4, .int 0), (3, .int v2), (2, .int v1), (0, .ref (ga (kG K) 0)), (1, .int x1)]) C dX10_doLine_113 (by decide) rfl ?_
    exact z_sub [3, 4, 2, 0] rfl (b_X10_doLine_L115 K C x1 v1 zfu 0 σ4)
  refine z_case 2 (fun hc24_2 => ?_) (fun hc24_2 => ?_)
  · refine z_tabIn (tgt := 154) C dX10_doLine_24 2 hc24_2 (by decide) (by decide) rfl (by decide) ?_
    refine z_aload_n C dX10_doLine_154 2 rfl ?_
    refine z_getR C fd_X10_13 dX10_doLine_155 ?_
    refine z_bipush (v := 100) C dX10_doLine_158 (by decide) ?_
    refine z_aload_n C dX10_doLine_160 2 rfl ?_
    refine z_getR C fd_X10_29 dX10_doLine_161 ?_
    refine z_iload_n C dX10_doLine_164 3 rfl ?_
    refine z_iald C sB_5 dX10_doLine_165 (fun v4 => ?_)
    refine z_iconst (v := 2) C dX10_doLine_166 (by decide) ?_
    refine z_isub C dX10_doLine_167 ?_
    refine z_imul C dX10_doLine_168 ?_
    refine z_bipush (v := 10) C dX10_doLine_169 (by decide) ?_
    refine z_iload_n C dX10_doLine_171 1 rfl ?_
    refine z_imul C dX10_doLine_172 ?_
    refine z_iadd C dX10_doLine_173 ?_
    refine z_iload_n C dX10_doLine_174 0 rfl ?_
    refine z_iadd C dX10_doLine_175 ?_
    refine z_aload_n C dX10_doLine_176 2 rfl ?_
    refine z_getR C fd_X10_29 dX10_doLine_177 ?_
    refine z_iload_n C dX10_doLine_180 3 rfl ?_
    refine z_iconst (v := 3) C dX10_doLine_181 (by decide) ?_
    refine z_iadd C dX10_doLine_182 ?_
    refine z_iald C sB_5 dX10_doLine_183 (fun v5 => ?_)
    refine z_iast C sB_2 dX10_doLine_184 (fun σ6 => ?_)
    refine z_aload_n C dX10_doLine_185 2 rfl ?_
    refine z_getR C fd_X10_13 dX10_doLine_186 ?_
    refine z_bipush (v := 100) C dX10_doLine_189 (by decide) ?_
    refine z_aload_n C dX10_doLine_191 2 rfl ?_
    refine z_getR C fd_X10_29 dX10_doLine_192 ?_
    refine z_iload_n C dX10_doLine_195 3 rfl ?_
    refine z_iald C sB_5 dX10_doLine_196 (fun v7 => ?_)
    refine z_iconst (v := 2) C dX10_doLine_197 (by decide) ?_
    refine z_isub C dX10_doLine_198 ?_
    refine z_imul C dX10_doLine_199 ?_
    refine z_bipush (v := 10) C dX10_doLine_200 (by decide) ?_
    refine z_iload_n C dX10_doLine_202 0 rfl ?_
    refine z_imul C dX10_doLine_203 ?_
    refine z_iadd C dX10_doLine_204 ?_
    refine z_iload_n C dX10_doLine_205 1 rfl ?_
    refine z_iadd C dX10_doLine_206 ?_
    refine z_aload_n C dX10_doLine_207 2 rfl ?_
    refine z_getR C fd_X10_29 dX10_doLine_208 ?_
    refine z_iload_n C dX10_doLine_211 3 rfl ?_
    refine z_iconst (v := 3) C dX10_doLine_212 (by decide) ?_
    refine z_iadd C dX10_doLine_213 ?_
    refine z_iald C sB_5 dX10_doLine_214 (fun v8 => ?_)
    refine z_iast C sB_2 dX10_doLine_215 (fun σ9 => ?_)
    refine z_goto (tgt := 232) C dX10_doLine_216 (by decide) ?_
    exact z_vret C dX10_doLine_232
  refine z_case 3 (fun hc24_3 => ?_) (fun hc24_3 => ?_)
  · refine z_tabIn (tgt := 154) C dX10_doLine_24 3 hc24_3 (by decide) (by decide) rfl (by decide) ?_
    refine z_aload_n C dX10_doLine_154 2 rfl ?_
    refine z_getR C fd_X10_13 dX10_doLine_155 ?_
    refine z_bipush (v := 100) C dX10_doLine_158 (by decide) ?_
    refine z_aload_n C dX10_doLine_160 2 rfl ?_
    refine z_getR C fd_X10_29 dX10_doLine_161 ?_
    refine z_iload_n C dX10_doLine_164 3 rfl ?_
    refine z_iald C sB_5 dX10_doLine_165 (fun v4 => ?_)
    refine z_iconst (v := 2) C dX10_doLine_166 (by decide) ?_
    refine z_isub C dX10_doLine_167 ?_
    refine z_imul C dX10_doLine_168 ?_
    refine z_bipush (v := 10) C dX10_doLine_169 (by decide) ?_
    refine z_iload_n C dX10_doLine_171 1 rfl ?_
    refine z_imul C dX10_doLine_172 ?_
    refine z_iadd C dX10_doLine_173 ?_
    refine z_iload_n C dX10_doLine_174 0 rfl ?_
    refine z_iadd C dX10_doLine_175 ?_
    refine z_aload_n C dX10_doLine_176 2 rfl ?_
    refine z_getR C fd_X10_29 dX10_doLine_177 ?_
    refine z_iload_n C dX10_doLine_180 3 rfl ?_
    refine z_iconst (v := 3) C dX10_doLine_181 (by decide) ?_
    refine z_iadd C dX10_doLine_182 ?_
    refine z_iald C sB_5 dX10_doLine_183 (fun v5 => ?_)
    refine z_iast C sB_2 dX10_doLine_184 (fun σ6 => ?_)
    refine z_aload_n C dX10_doLine_185 2 rfl ?_
    refine z_getR C fd_X10_13 dX10_doLine_186 ?_
    refine z_bipush (v := 100) C dX10_doLine_189 (by decide) ?_
    refine z_aload_n C dX10_doLine_191 2 rfl ?_
    refine z_getR C fd_X10_29 dX10_doLine_192 ?_
    refine z_iload_n C dX10_doLine_195 3 rfl ?_
    refine z_iald C sB_5 dX10_doLine_196 (fun v7 => ?_)
    refine z_iconst (v := 2) C dX10_doLine_197 (by decide) ?_
    refine z_isub C dX10_doLine_198 ?_
    refine z_imul C dX10_doLine_199 ?_
    refine z_bipush (v := 10) C dX10_doLine_200 (by decide) ?_
    refine z_iload_n C dX10_doLine_202 0 rfl ?_
    refine z_imul C dX10_doLine_203 ?_
    refine z_iadd C dX10_doLine_204 ?_
    refine z_iload_n C dX10_doLine_205 1 rfl ?_
    refine z_iadd C dX10_doLine_206 ?_
    refine z_aload_n C dX10_doLine_207 2 rfl ?_
    refine z_getR C fd_X10_29 dX10_doLine_208 ?_
    refine z_iload_n C dX10_doLine_211 3 rfl ?_
    refine z_iconst (v := 3) C dX10_doLine_212 (by decide) ?_
    refine z_iadd C dX10_doLine_213 ?_
    refine z_iald C sB_5 dX10_doLine_214 (fun v8 => ?_)
    refine z_iast C sB_2 dX10_doLine_215 (fun σ9 => ?_)
    refine z_goto (tgt := 232) C dX10_doLine_216 (by decide) ?_
    exact z_vret C dX10_doLine_232
  refine z_case 4 (fun hc24_4 => ?_) (fun hc24_4 => ?_)
  · refine z_tabIn (tgt := 219) C dX10_doLine_24 4 hc24_4 (by decide) (by decide) rfl (by decide) ?_
    refine z_aload_n C dX10_doLine_219 2 rfl ?_
    refine z_iload_n C dX10_doLine_220 1 rfl ?_
    refine z_putI C fd_X10_19 fwB_0_4 (lgB 0) (by decide) dX10_doLine_221 (fun σ4 => ?_)
    refine z_goto (tgt := 232) C dX10_doLine_224 (by decide) ?_
    exact z_vret C dX10_doLine_232
  refine z_tabD (tgt := 227) C [0, 1, 2, 3, 4] (List.forall_mem_cons.mpr ⟨ztoi hc24_0 rfl, (List.forall_mem_cons.mpr ⟨ztoi hc24_1 rfl, (List.forall_mem_cons.mpr ⟨ztoi hc24_2 rfl, (List.forall_mem_cons.mpr ⟨ztoi hc24_3 rfl, (List.forall_mem_cons.mpr ⟨ztoi hc24_4 rfl, (fun _ h => absurd h List.not_mem_nil)⟩)⟩)⟩)⟩)⟩) dX10_doLine_24 (by decide +kernel) (by decide) ?_
  refine z_aload_n C dX10_doLine_227 2 rfl ?_
  refine z_iload_n C dX10_doLine_228 1 rfl ?_
  refine z_putI C fd_X10_23 fwB_0_5 (lgB 0) (by decide) dX10_doLine_229 (fun σ4 => ?_)
  exact z_vret C dX10_doLine_232
theorem m_X10_doLine {l : Launch} {G : zG} {x1 : Int32} {σ σ1 : zS} {r : Int32} (h : f_X10_doLine x1 σ = some (r, σ1)) : zM l G zshB yX10_doLine cX10_doLine 5 none 0 [.ref (ga G 0), .int x1] (zov none G r) σ σ1 :=
  z_met (by decide) (Nat.le_of_ble_eq_true rfl) h (fun K _ hG C => by subst hG; exact b_X10_doLine K C x1 σ)
theorem b_X10_land_L12 (K : zK) (C : zOk zshB K RX10 cX10_land (some .int) 2 6) : ∀ (n : Nat) (x1 : Int32) (σ : zS), Zf zshB K (f_X10_land_L12 n x1 σ) 12 [(0, .ref (ga (kG K) 0)), (1, .int x1)] [] σ := by
  intro n
  induction n with
  | zero => intro x1 σ; rw [f_X10_land_L12]; exact z_none
  | succ n ih =>
  intro x1 σ
  rw [f_X10_land_L12]
  refine z_iload_n C dX10_land_12 1 rfl ?_
  refine z_aload_n C dX10_land_13 0 rfl ?_
  refine z_getI C fd_X10_143 dX10_land_14 ?_
  refine z_icmp_ge (tgt := 34) C dX10_land_17 (by decide) ?_ ?_
  · refine z_aload_n C dX10_land_34 0 rfl ?_
    refine z_iconst (v := 0) C dX10_land_35 (by decide) ?_
    refine z_putI C fd_X10_81 fwB_0_6 (lgB 0) (by decide) dX10_land_36 (fun σ1 => ?_)
    refine z_aload_n C dX10_land_39 0 rfl ?_
    refine z_getI C fd_X10_143 dX10_land_40 ?_
    exact z_iret C dX10_land_43
  · refine z_aload_n C dX10_land_20 0 rfl ?_
    refine z_bipush (v := 8) C dX10_land_21 (by decide) ?_
    refine z_iload_n C dX10_land_23 1 rfl ?_
    refine z_imul C dX10_land_24 ?_
    refine z_callVv (q := 0) (As := [.int (8 * x1)]) (st := []) C zy_X10_doLine zv_X10_doLine ml_X10_152 rcB_0 (by decide) (fun _ _ h => m_X10_doLine h) rfl rfl (Nat.le_of_ble_eq_true rfl) dX10_land_25 (fun _ σ1 => ?_)
    refine z_iinc (v := 1) (lv1 := [(1, .int (x1 + 1)), (0, .ref (ga (kG K) 0))]) C dX10_land_28 1 rfl (by decide) (by decide) rfl ?_
    refine z_goto (tgt := 12) C dX10_land_31 (by decide) ?_
    exact z_sub [1, 0] rfl (ih (x1 + 1) σ1)
theorem b_X10_land (K : zK) (C : zOk zshB K RX10 cX10_land (some .int) 2 6) (σ : zS) : Zf zshB K (f_X10_land σ) 0 [(0, .ref (ga (kG K) 0))] [] σ := by
  unfold f_X10_land
  refine z_aload_n C dX10_land_0 0 rfl ?_
  refine z_callVz (q := 0) (As := []) (st := []) C zy_X10_isRead zv_X10_isRead ml_X10_149 rcB_0 (by decide) (fun _ _ h => m_X10_isRead h) rfl rfl (Nat.le_of_ble_eq_true rfl) dX10_land_1 (fun v1 σ1 => ?_)
  refine z_if_ne (tgt := 10) C dX10_land_4 (by decide) ?_ ?_
  · refine z_bipush (v := (-4)) C dX10_land_7 (by decide) ?_
    exact z_iret C dX10_land_9
  · refine z_iconst (v := 0) C dX10_land_10 (by decide) ?_
    refine z_istore_n (lv1 := [(1, .int 0), (0, .ref (ga (kG K) 0))]) C dX10_land_11 (by decide) rfl ?_
    exact z_sub [1, 0] rfl (b_X10_land_L12 K C zfu 0 σ1)
theorem m_X10_land {l : Launch} {G : zG} {σ σ1 : zS} {r : Int32} (h : f_X10_land σ = some (r, σ1)) : zM l G zshB yX10_land cX10_land 2 (some .int) 6 [.ref (ga G 0)] (zov (some .int) G r) σ σ1 :=
  z_met (by decide) (Nat.le_of_ble_eq_true rfl) h (fun K _ hG C => by subst hG; exact b_X10_land K C σ)
theorem b_X10_isPlace (K : zK) (C : zOk zshB K RX10 cX10_isPlace (some .boolean) 1 1) (x0 : Int32) (σ : zS) : Zf zshB K (f_X10_isPlace x0 σ) 0 [(0, .int x0)] [] σ := by
  unfold f_X10_isPlace
  refine z_iload_n C dX10_isPlace_0 0 rfl ?_
  refine z_iconst (v := 0) C dX10_isPlace_1 (by decide) ?_
  refine z_bipush (v := 9) C dX10_isPlace_2 (by decide) ?_
  refine z_callSz (As := [.int x0, .int 0, .int 9]) (st := []) C zy_X10_in zs_X10_in ml_X10_71 (by decide) (fun _ _ h => m_X10_in h) rfl rfl (Nat.le_of_ble_eq_true rfl) dX10_isPlace_4 (fun v1 σ1 => ?_)
  exact z_zrb C dX10_isPlace_7
theorem m_X10_isPlace {l : Launch} {G : zG} {x0 : Int32} {σ σ1 : zS} {r : Int32} (h : f_X10_isPlace x0 σ = some (r, σ1)) : zM l G zshB yX10_isPlace cX10_isPlace 1 (some .boolean) 1 [.int x0] (zov (some .boolean) G r) σ σ1 :=
  z_met (by decide) (Nat.le_of_ble_eq_true rfl) h (fun K _ hG C => by subst hG; exact b_X10_isPlace K C x0 σ)
theorem b_X10_place (K : zK) (C : zOk zshB K RX10 cX10_place (some .int) 3 2) (x1 : Int32) (x2 : Int32) (σ : zS) : Zf zshB K (f_X10_place x1 x2 σ) 0 [(0, .ref (ga (kG K) 0)), (1, .int x1), (2, .int x2)] [] σ := by
  unfold f_X10_place
  refine z_iload_n C dX10_place_0 1 rfl ?_
  refine z_callSz (As := [.int x1]) (st := []) C zy_X10_isPlace zs_X10_isPlace ml_X10_156 (by decide) (fun _ _ h => m_X10_isPlace h) rfl rfl (Nat.le_of_ble_eq_true rfl) dX10_place_1 (fun v1 σ1 => ?_)
  refine z_if_ne (tgt := 10) C dX10_place_4 (by decide) ?_ ?_
  · refine z_bipush (v := (-2)) C dX10_place_7 (by decide) ?_
    exact z_iret C dX10_place_9
  · refine z_iload_n C dX10_place_10 2 rfl ?_
    refine z_iconst (v := 0) C dX10_place_11 (by decide) ?_
    refine z_iconst (v := 2) C dX10_place_12 (by decide) ?_
    refine z_callSz (As := [.int x2, .int 0, .int 2]) (st := []) C zy_X10_in zs_X10_in ml_X10_71 (by decide) (fun _ _ h => m_X10_in h) rfl rfl (Nat.le_of_ble_eq_true rfl) dX10_place_13 (fun v2 σ2 => ?_)
    refine z_if_eq (tgt := 32) C dX10_place_16 (by decide) ?_ ?_
    · refine z_bipush (v := (-3)) C dX10_place_32 (by decide) ?_
      exact z_iret C dX10_place_34
    · refine z_aload_n C dX10_place_19 0 rfl ?_
      refine z_getR C fd_X10_7 dX10_place_20 ?_
      refine z_iconst (v := 3) C dX10_place_23 (by decide) ?_
      refine z_iload_n C dX10_place_24 1 rfl ?_
      refine z_imul C dX10_place_25 ?_
      refine z_iload_n C dX10_place_26 2 rfl ?_
      refine z_iadd C dX10_place_27 ?_
      refine z_iald C sB_1 dX10_place_28 (fun v3 => ?_)
      refine z_goto (tgt := 34) C dX10_place_29 (by decide) ?_
      exact z_iret C dX10_place_34
theorem m_X10_place {l : Launch} {G : zG} {x1 : Int32} {x2 : Int32} {σ σ1 : zS} {r : Int32} (h : f_X10_place x1 x2 σ = some (r, σ1)) : zM l G zshB yX10_place cX10_place 3 (some .int) 2 [.ref (ga G 0), .int x1, .int x2] (zov (some .int) G r) σ σ1 :=
  z_met (by decide) (Nat.le_of_ble_eq_true rfl) h (fun K _ hG C => by subst hG; exact b_X10_place K C x1 x2 σ)
theorem b_X10_isFlow (K : zK) (C : zOk zshB K RX10 cX10_isFlow (some .boolean) 2 1) (x1 : Int32) (σ : zS) : Zf zshB K (f_X10_isFlow x1 σ) 0 [(0, .ref (ga (kG K) 0)), (1, .int x1)] [] σ := by
  unfold f_X10_isFlow
  refine z_iload_n C dX10_isFlow_0 1 rfl ?_
  refine z_iconst (v := 0) C dX10_isFlow_1 (by decide) ?_
  refine z_bipush (v := 8) C dX10_isFlow_2 (by decide) ?_
  refine z_callSz (As := [.int x1, .int 0, .int 8]) (st := []) C zy_X10_in zs_X10_in ml_X10_71 (by decide) (fun _ _ h => m_X10_in h) rfl rfl (Nat.le_of_ble_eq_true rfl) dX10_isFlow_4 (fun v1 σ1 => ?_)
  refine z_if_eq (tgt := 26) C dX10_isFlow_7 (by decide) ?_ ?_
  · refine z_iconst (v := 0) C dX10_isFlow_26 (by decide) ?_
    exact z_zret C (by decide) dX10_isFlow_27
  · refine z_aload_n C dX10_isFlow_10 0 rfl ?_
    refine z_getI C fd_X10_75 dX10_isFlow_11 ?_
    refine z_iload_n C dX10_isFlow_14 1 rfl ?_
    refine z_ishr C dX10_isFlow_15 ?_
    refine z_iconst (v := 1) C dX10_isFlow_16 (by decide) ?_
    refine z_iand C dX10_isFlow_17 ?_
    refine z_iconst (v := 1) C dX10_isFlow_18 (by decide) ?_
    refine z_icmp_ne (tgt := 26) C dX10_isFlow_19 (by decide) ?_ ?_
    · refine z_iconst (v := 1) C dX10_isFlow_22 (by decide) ?_
      refine z_goto (tgt := 27) C dX10_isFlow_23 (by decide) ?_
      exact z_zret C (by decide) dX10_isFlow_27
    · refine z_iconst (v := 0) C dX10_isFlow_26 (by decide) ?_
      exact z_zret C (by decide) dX10_isFlow_27
theorem m_X10_isFlow {l : Launch} {G : zG} {x1 : Int32} {σ σ1 : zS} {r : Int32} (h : f_X10_isFlow x1 σ = some (r, σ1)) : zM l G zshB yX10_isFlow cX10_isFlow 2 (some .boolean) 1 [.ref (ga G 0), .int x1] (zov (some .boolean) G r) σ σ1 :=
  z_met (by decide) (Nat.le_of_ble_eq_true rfl) h (fun K _ hG C => by subst hG; exact b_X10_isFlow K C x1 σ)
theorem b_X10_flow (K : zK) (C : zOk zshB K RX10 cX10_flow (some .int) 3 2) (x1 : Int32) (x2 : Int32) (σ : zS) : Zf zshB K (f_X10_flow x1 x2 σ) 0 [(0, .ref (ga (kG K) 0)), (1, .int x1), (2, .int x2)] [] σ := by
  unfold f_X10_flow
  refine z_aload_n C dX10_flow_0 0 rfl ?_
  refine z_iload_n C dX10_flow_1 1 rfl ?_
  refine z_callVz (q := 0) (As := [.int x1]) (st := []) C zy_X10_isFlow zv_X10_isFlow ml_X10_159 rcB_0 (by decide) (fun _ _ h => m_X10_isFlow h) rfl rfl (Nat.le_of_ble_eq_true rfl) dX10_flow_2 (fun v1 σ1 => ?_)
  refine z_if_ne (tgt := 11) C dX10_flow_5 (by decide) ?_ ?_
  · refine z_bipush (v := (-2)) C dX10_flow_8 (by decide) ?_
    exact z_iret C dX10_flow_10
  · refine z_iload_n C dX10_flow_11 2 rfl ?_
    refine z_iconst (v := 0) C dX10_flow_12 (by decide) ?_
    refine z_iconst (v := 5) C dX10_flow_13 (by decide) ?_
    refine z_callSz (As := [.int x2, .int 0, .int 5]) (st := []) C zy_X10_in zs_X10_in ml_X10_71 (by decide) (fun _ _ h => m_X10_in h) rfl rfl (Nat.le_of_ble_eq_true rfl) dX10_flow_14 (fun v2 σ2 => ?_)
    refine z_if_eq (tgt := 34) C dX10_flow_17 (by decide) ?_ ?_
    · refine z_bipush (v := (-3)) C dX10_flow_34 (by decide) ?_
      exact z_iret C dX10_flow_36
    · refine z_aload_n C dX10_flow_20 0 rfl ?_
      refine z_getR C fd_X10_16 dX10_flow_21 ?_
      refine z_bipush (v := 6) C dX10_flow_24 (by decide) ?_
      refine z_iload_n C dX10_flow_26 1 rfl ?_
      refine z_imul C dX10_flow_27 ?_
      refine z_iload_n C dX10_flow_28 2 rfl ?_
      refine z_iadd C dX10_flow_29 ?_
      refine z_iald C sB_3 dX10_flow_30 (fun v3 => ?_)
      refine z_goto (tgt := 36) C dX10_flow_31 (by decide) ?_
      exact z_iret C dX10_flow_36
theorem m_X10_flow {l : Launch} {G : zG} {x1 : Int32} {x2 : Int32} {σ σ1 : zS} {r : Int32} (h : f_X10_flow x1 x2 σ = some (r, σ1)) : zM l G zshB yX10_flow cX10_flow 3 (some .int) 2 [.ref (ga G 0), .int x1, .int x2] (zov (some .int) G r) σ σ1 :=
  z_met (by decide) (Nat.le_of_ble_eq_true rfl) h (fun K _ hG C => by subst hG; exact b_X10_flow K C x1 x2 σ)
theorem b_X10_way (K : zK) (C : zOk zshB K RX10 cX10_way (some .int) 4 2) (x1 : Int32) (x2 : Int32) (x3 : Int32) (σ : zS) : Zf zshB K (f_X10_way x1 x2 x3 σ) 0 [(0, .ref (ga (kG K) 0)), (1, .int x1), (2, .int x2), (3, .int x3)] [] σ := by
  unfold f_X10_way
  refine z_iload_n C dX10_way_0 1 rfl ?_
  refine z_callSz (As := [.int x1]) (st := []) C zy_X10_isPlace zs_X10_isPlace ml_X10_156 (by decide) (fun _ _ h => m_X10_isPlace h) rfl rfl (Nat.le_of_ble_eq_true rfl) dX10_way_1 (fun v1 σ1 => ?_)
  refine z_if_eq (tgt := 19) C dX10_way_4 (by decide) ?_ ?_
  · refine z_bipush (v := (-2)) C dX10_way_19 (by decide) ?_
    exact z_iret C dX10_way_21
  · refine z_iload_n C dX10_way_7 2 rfl ?_
    refine z_callSz (As := [.int x2]) (st := []) C zy_X10_isPlace zs_X10_isPlace ml_X10_156 (by decide) (fun _ _ h => m_X10_isPlace h) rfl rfl (Nat.le_of_ble_eq_true rfl) dX10_way_8 (fun v2 σ2 => ?_)
    refine z_if_eq (tgt := 19) C dX10_way_11 (by decide) ?_ ?_
    · refine z_bipush (v := (-2)) C dX10_way_19 (by decide) ?_
      exact z_iret C dX10_way_21
    · refine z_iload_n C dX10_way_14 1 rfl ?_
      refine z_iload_n C dX10_way_15 2 rfl ?_
      refine z_icmp_ne (tgt := 22) C dX10_way_16 (by decide) ?_ ?_
      · refine z_bipush (v := (-2)) C dX10_way_19 (by decide) ?_
        exact z_iret C dX10_way_21
      · refine z_iload_n C dX10_way_22 3 rfl ?_
        refine z_iconst (v := 0) C dX10_way_23 (by decide) ?_
        refine z_iconst (v := 1) C dX10_way_24 (by decide) ?_
        refine z_callSz (As := [.int x3, .int 0, .int 1]) (st := []) C zy_X10_in zs_X10_in ml_X10_71 (by decide) (fun _ _ h => m_X10_in h) rfl rfl (Nat.le_of_ble_eq_true rfl) dX10_way_25 (fun v3 σ3 => ?_)
        refine z_if_eq (tgt := 50) C dX10_way_28 (by decide) ?_ ?_
        · refine z_bipush (v := (-3)) C dX10_way_50 (by decide) ?_
          exact z_iret C dX10_way_52
        · refine z_aload_n C dX10_way_31 0 rfl ?_
          refine z_getR C fd_X10_13 dX10_way_32 ?_
          refine z_bipush (v := 100) C dX10_way_35 (by decide) ?_
          refine z_iload_n C dX10_way_37 3 rfl ?_
          refine z_imul C dX10_way_38 ?_
          refine z_bipush (v := 10) C dX10_way_39 (by decide) ?_
          refine z_iload_n C dX10_way_41 1 rfl ?_
          refine z_imul C dX10_way_42 ?_
          refine z_iadd C dX10_way_43 ?_
          refine z_iload_n C dX10_way_44 2 rfl ?_
          refine z_iadd C dX10_way_45 ?_
          refine z_iald C sB_2 dX10_way_46 (fun v4 => ?_)
          refine z_goto (tgt := 52) C dX10_way_47 (by decide) ?_
          exact z_iret C dX10_way_52
theorem m_X10_way {l : Launch} {G : zG} {x1 : Int32} {x2 : Int32} {x3 : Int32} {σ σ1 : zS} {r : Int32} (h : f_X10_way x1 x2 x3 σ = some (r, σ1)) : zM l G zshB yX10_way cX10_way 4 (some .int) 2 [.ref (ga G 0), .int x1, .int x2, .int x3] (zov (some .int) G r) σ σ1 :=
  z_met (by decide) (Nat.le_of_ble_eq_true rfl) h (fun K _ hG C => by subst hG; exact b_X10_way K C x1 x2 x3 σ)
theorem b_X10_areNumbers (K : zK) (C : zOk zshB K RX10 cX10_areNumbers (some .boolean) 1 0) (x0 : Int32) (σ : zS) : Zf zshB K (f_X10_areNumbers x0 σ) 0 [(0, .int x0)] [] σ := by
  unfold f_X10_areNumbers
  refine z_iload_n C dX10_areNumbers_0 0 rfl ?_
  refine z_sipush (v := 1023) C dX10_areNumbers_1 (by decide) ?_
  refine z_iand C dX10_areNumbers_4 ?_
  refine z_sipush (v := 1000) C dX10_areNumbers_5 (by decide) ?_
  refine z_icmp_ge (tgt := 43) C dX10_areNumbers_8 (by decide) ?_ ?_
  · refine z_iconst (v := 0) C dX10_areNumbers_43 (by decide) ?_
    exact z_zret C (by decide) dX10_areNumbers_44
  · refine z_iload_n C dX10_areNumbers_11 0 rfl ?_
    refine z_bipush (v := 10) C dX10_areNumbers_12 (by decide) ?_
    refine z_ishr C dX10_areNumbers_14 ?_
    refine z_sipush (v := 1023) C dX10_areNumbers_15 (by decide) ?_
    refine z_iand C dX10_areNumbers_18 ?_
    refine z_sipush (v := 1000) C dX10_areNumbers_19 (by decide) ?_
    refine z_icmp_ge (tgt := 43) C dX10_areNumbers_22 (by decide) ?_ ?_
    · refine z_iconst (v := 0) C dX10_areNumbers_43 (by decide) ?_
      exact z_zret C (by decide) dX10_areNumbers_44
    · refine z_iload_n C dX10_areNumbers_25 0 rfl ?_
      refine z_bipush (v := 20) C dX10_areNumbers_26 (by decide) ?_
      refine z_ishr C dX10_areNumbers_28 ?_
      refine z_sipush (v := 1023) C dX10_areNumbers_29 (by decide) ?_
      refine z_iand C dX10_areNumbers_32 ?_
      refine z_sipush (v := 1000) C dX10_areNumbers_33 (by decide) ?_
      refine z_icmp_ge (tgt := 43) C dX10_areNumbers_36 (by decide) ?_ ?_
      · refine z_iconst (v := 0) C dX10_areNumbers_43 (by decide) ?_
        exact z_zret C (by decide) dX10_areNumbers_44
      · refine z_iconst (v := 1) C dX10_areNumbers_39 (by decide) ?_
        refine z_goto (tgt := 44) C dX10_areNumbers_40 (by decide) ?_
        exact z_zret C (by decide) dX10_areNumbers_44
theorem m_X10_areNumbers {l : Launch} {G : zG} {x0 : Int32} {σ σ1 : zS} {r : Int32} (h : f_X10_areNumbers x0 σ = some (r, σ1)) : zM l G zshB yX10_areNumbers cX10_areNumbers 1 (some .boolean) 0 [.int x0] (zov (some .boolean) G r) σ σ1 :=
  z_met (by decide) (Nat.le_of_ble_eq_true rfl) h (fun K _ hG C => by subst hG; exact b_X10_areNumbers K C x0 σ)
theorem b_X10_layNumbers_L3 (K : zK) (C : zOk zshB K RX10 cX10_layNumbers none 5 0) (x1 : Int32) (x2 : Int32) (x3 : Int32) : ∀ (n : Nat) (x4 : Int32) (σ : zS), Zf zshB K (f_X10_layNumbers_L3 x1 x2 x3 n x4 σ) 3 [(0, .ref (ga (kG K) 0)), (1, .int x1), (2, .int x2), (3, .int x3), (4, .int x4)] [] σ := by
  intro n
  induction n with
  | zero => intro x4 σ; rw [f_X10_layNumbers_L3]; exact z_none
  | succ n ih =>
  intro x4 σ
  rw [f_X10_layNumbers_L3]
  refine z_iload C dX10_layNumbers_3 4 rfl ?_
  refine z_iconst (v := 3) C dX10_layNumbers_5 (by decide) ?_
  refine z_icmp_ge (tgt := 40) C dX10_layNumbers_6 (by decide) ?_ ?_
  · refine z_aload_n C dX10_layNumbers_40 0 rfl ?_
    refine z_getR C fd_X10_32 dX10_layNumbers_41 ?_
    refine z_bipush (v := 11) C dX10_layNumbers_44 (by decide) ?_
    refine z_iload_n C dX10_layNumbers_46 1 rfl ?_
    refine z_imul C dX10_layNumbers_47 ?_
    refine z_iconst (v := 4) C dX10_layNumbers_48 (by decide) ?_
    refine z_iadd C dX10_layNumbers_49 ?_
    refine z_iload_n C dX10_layNumbers_50 3 rfl ?_
    refine z_iast C sB_6 dX10_layNumbers_51 (fun σ1 => ?_)
    exact z_vret C dX10_layNumbers_52
  · refine z_aload_n C dX10_layNumbers_9 0 rfl ?_
    refine z_getR C fd_X10_32 dX10_layNumbers_10 ?_
    refine z_bipush (v := 11) C dX10_layNumbers_13 (by decide) ?_
    refine z_iload_n C dX10_layNumbers_15 1 rfl ?_
    refine z_imul C dX10_layNumbers_16 ?_
    refine z_iconst (v := 1) C dX10_layNumbers_17 (by decide) ?_
    refine z_iadd C dX10_layNumbers_18 ?_
    refine z_iload C dX10_layNumbers_19 4 rfl ?_
    refine z_iadd C dX10_layNumbers_21 ?_
    refine z_iload_n C dX10_layNumbers_22 2 rfl ?_
    refine z_bipush (v := 10) C dX10_layNumbers_23 (by decide) ?_
    refine z_iload C dX10_layNumbers_25 4 rfl ?_
    refine z_imul C dX10_layNumbers_27 ?_
    refine z_ishr C dX10_layNumbers_28 ?_
    refine z_sipush (v := 1023) C dX10_layNumbers_29 (by decide) ?_
    refine z_iand C dX10_layNumbers_32 ?_
    refine z_iast C sB_6 dX10_layNumbers_33 (fun σ1 => ?_)
    refine z_iinc (v := 1) (lv1 := [(4, .int (x4 + 1)), (0, .ref (ga (kG K) 0)), (1, .int x1), (2, .int x2), (3, .int x3)]) C dX10_layNumbers_34 4 rfl (by decide) (by decide) rfl ?_
    refine z_goto (tgt := 3) C dX10_layNumbers_37 (by decide) ?_
    exact z_sub [1, 2, 3, 4, 0] rfl (ih (x4 + 1) σ1)
theorem b_X10_layNumbers (K : zK) (C : zOk zshB K RX10 cX10_layNumbers none 5 0) (x1 : Int32) (x2 : Int32) (x3 : Int32) (σ : zS) : Zf zshB K (f_X10_layNumbers x1 x2 x3 σ) 0 [(0, .ref (ga (kG K) 0)), (1, .int x1), (2, .int x2), (3, .int x3)] [] σ := by
  unfold f_X10_layNumbers
  refine z_iconst (v := 0) C dX10_layNumbers_0 (by decide) ?_
  refine z_istore (lv1 := [(4, .int 0), (0, .ref (ga (kG K) 0)), (1, .int x1), (2, .int x2), (3, .int x3)]) C dX10_layNumbers_1 (by decide) rfl ?_
  exact z_sub [1, 2, 3, 4, 0] rfl (b_X10_layNumbers_L3 K C x1 x2 x3 zfu 0 σ)
theorem m_X10_layNumbers {l : Launch} {G : zG} {x1 : Int32} {x2 : Int32} {x3 : Int32} {σ σ1 : zS} {r : Int32} (h : f_X10_layNumbers x1 x2 x3 σ = some (r, σ1)) : zM l G zshB yX10_layNumbers cX10_layNumbers 5 none 0 [.ref (ga G 0), .int x1, .int x2, .int x3] (zov none G r) σ σ1 :=
  z_met (by decide) (Nat.le_of_ble_eq_true rfl) h (fun K _ hG C => by subst hG; exact b_X10_layNumbers K C x1 x2 x3 σ)
theorem b_X10_blade (K : zK) (C : zOk zshB K RX10 cX10_blade (some .int) 7 2) (x1 : Int32) (x2 : Int32) (x3 : Int32) (x4 : Int32) (x5 : Int32) (σ : zS) : Zf zshB K (f_X10_blade x1 x2 x3 x4 x5 σ) 0 [(0, .ref (ga (kG K) 0)), (1, .int x1), (2, .int x2), (3, .int x3), (4, .int x4), (5, .int x5)] [] σ := by
  unfold f_X10_blade
  refine z_iload_n C dX10_blade_0 1 rfl ?_
  refine z_callSz (As := [.int x1]) (st := []) C zy_X10_isPlace zs_X10_isPlace ml_X10_156 (by decide) (fun _ _ h => m_X10_isPlace h) rfl rfl (Nat.le_of_ble_eq_true rfl) dX10_blade_1 (fun v1 σ1 => ?_)
  refine z_if_ne (tgt := 10) C dX10_blade_4 (by decide) ?_ ?_
  · refine z_bipush (v := (-2)) C dX10_blade_7 (by decide) ?_
    exact z_iret C dX10_blade_9
  · refine z_iload_n C dX10_blade_10 2 rfl ?_
    refine z_callSz (As := [.int x2]) (st := []) C zy_X10_areNumbers zs_X10_areNumbers ml_X10_162 (by decide) (fun _ _ h => m_X10_areNumbers h) rfl rfl (Nat.le_of_ble_eq_true rfl) dX10_blade_11 (fun v2 σ2 => ?_)
    refine z_if_eq (tgt := 50) C dX10_blade_14 (by decide) ?_ ?_
    · refine z_bipush (v := (-3)) C dX10_blade_50 (by decide) ?_
      exact z_iret C dX10_blade_52
    · refine z_iload_n C dX10_blade_17 3 rfl ?_
      refine z_iconst (v := 1) C dX10_blade_18 (by decide) ?_
      refine z_bipush (v := 99) C dX10_blade_19 (by decide) ?_
      refine z_callSz (As := [.int x3, .int 1, .int 99]) (st := []) C zy_X10_in zs_X10_in ml_X10_71 (by decide) (fun _ _ h => m_X10_in h) rfl rfl (Nat.le_of_ble_eq_true rfl) dX10_blade_21 (fun v3 σ3 => ?_)
      refine z_if_eq (tgt := 50) C dX10_blade_24 (by decide) ?_ ?_
      · refine z_bipush (v := (-3)) C dX10_blade_50 (by decide) ?_
        exact z_iret C dX10_blade_52
      · refine z_iload C dX10_blade_27 4 rfl ?_
        refine z_iconst (v := 1) C dX10_blade_29 (by decide) ?_
        refine z_sipush (v := 999) C dX10_blade_30 (by decide) ?_
        refine z_callSz (As := [.int x4, .int 1, .int 999]) (st := []) C zy_X10_in zs_X10_in ml_X10_71 (by decide) (fun _ _ h => m_X10_in h) rfl rfl (Nat.le_of_ble_eq_true rfl) dX10_blade_33 (fun v4 σ4 => ?_)
        refine z_if_eq (tgt := 50) C dX10_blade_36 (by decide) ?_ ?_
        · refine z_bipush (v := (-3)) C dX10_blade_50 (by decide) ?_
          exact z_iret C dX10_blade_52
        · refine z_iload C dX10_blade_39 5 rfl ?_
          refine z_iconst (v := 0) C dX10_blade_41 (by decide) ?_
          refine z_bipush (v := 99) C dX10_blade_42 (by decide) ?_
          refine z_callSz (As := [.int x5, .int 0, .int 99]) (st := []) C zy_X10_in zs_X10_in ml_X10_71 (by decide) (fun _ _ h => m_X10_in h) rfl rfl (Nat.le_of_ble_eq_true rfl) dX10_blade_44 (fun v5 σ5 => ?_)
          refine z_if_ne (tgt := 53) C dX10_blade_47 (by decide) ?_ ?_
          · refine z_bipush (v := (-3)) C dX10_blade_50 (by decide) ?_
            exact z_iret C dX10_blade_52
          · refine z_aload_n C dX10_blade_53 0 rfl ?_
            refine z_getI C fd_X10_78 dX10_blade_54 ?_
            refine z_bipush (v := 12) C dX10_blade_57 (by decide) ?_
            refine z_icmp_ne (tgt := 65) C dX10_blade_59 (by decide) ?_ ?_
            · refine z_bipush (v := (-5)) C dX10_blade_62 (by decide) ?_
              exact z_iret C dX10_blade_64
            · refine z_bipush (v := 11) C dX10_blade_65 (by decide) ?_
              refine z_aload_n C dX10_blade_67 0 rfl ?_
              refine z_getI C fd_X10_78 dX10_blade_68 ?_
              refine z_imul C dX10_blade_71 ?_
              refine z_istore (lv1 := [(6, .int (11 * (σ5 0 16))), (0, .ref (ga (kG K) 0)), (1, .int x1), (2, .int x2), (3, .int x3), (4, .int x4), (5, .int x5)]) C dX10_blade_72 (by decide) rfl ?_
              refine z_aload_n C dX10_blade_74 1 rfl ?_
              refine z_getR C fd_X10_32 dX10_blade_75 ?_
              refine z_iload C dX10_blade_78 0 rfl ?_
              refine z_iload_n C dX10_blade_80 2 rfl ?_
              refine z_iast C sB_6 dX10_blade_81 (fun σ6 => ?_)
              refine z_aload_n C dX10_blade_82 1 rfl ?_
              refine z_aload_n C dX10_blade_83 1 rfl ?_
              refine z_getI C fd_X10_78 dX10_blade_84 ?_
              refine z_iload_n C dX10_blade_87 3 rfl ?_
              refine z_iload_n C dX10_blade_88 4 rfl ?_
              refine z_callVv (q := 0) (As := [.int (σ6 0 16), .int x2, .int x3]) (st := []) C zy_X10_layNumbers zv_X10_layNumbers ml_X10_165 rcB_0 (by decide) (fun _ _ h => m_X10_layNumbers h) rfl rfl (Nat.le_of_ble_eq_true rfl) dX10_blade_89 (fun _ σ7 => ?_)
              refine z_aload_n C dX10_blade_92 1 rfl ?_
              refine z_getR C fd_X10_32 dX10_blade_93 ?_
              refine z_iload C dX10_blade_96 0 rfl ?_
              refine z_iconst (v := 5) C dX10_blade_98 (by decide) ?_
              refine z_iadd C dX10_blade_99 ?_
              refine z_iload C dX10_blade_100 5 rfl ?_
              refine z_iast C sB_6 dX10_blade_102 (fun σ8 => ?_)
              refine z_aload_n C dX10_blade_103 1 rfl ?_
              refine z_getR C fd_X10_32 dX10_blade_104 ?_
              refine z_iload C dX10_blade_107 0 rfl ?_
              refine z_bipush (v := 6) C dX10_blade_109 (by decide) ?_
              refine z_iadd C dX10_blade_111 ?_
              refine z_iload C dX10_blade_112 6 rfl ?_
              refine z_iast C sB_6 dX10_blade_114 (fun σ9 => ?_)
              refine z_aload_n C dX10_blade_115 1 rfl ?_
              refine z_getR C fd_X10_32 dX10_blade_116 ?_
              refine z_iload C dX10_blade_119 0 rfl ?_
              refine z_bipush (v := 7) C dX10_blade_121 (by decide) ?_
              refine z_iadd C dX10_blade_123 ?_
              refine z_iconst (v := 0) C dX10_blade_124 (by decide) ?_
              refine z_iast C sB_6 dX10_blade_125 (fun σ10 => ?_)
              refine z_aload_n C dX10_blade_126 1 rfl ?_
              refine z_getR C fd_X10_32 dX10_blade_127 ?_
              refine z_iload C dX10_blade_130 0 rfl ?_
              refine z_bipush (v := 8) C dX10_blade_132 (by decide) ?_
              refine z_iadd C dX10_blade_134 ?_
              refine z_iconst (v := 0) C dX10_blade_135 (by decide) ?_
              refine z_iast C sB_6 dX10_blade_136 (fun σ11 => ?_)
              refine z_aload_n C dX10_blade_137 1 rfl ?_
              refine z_getR C fd_X10_32 dX10_blade_138 ?_
              refine z_iload C dX10_blade_141 0 rfl ?_
              refine z_bipush (v := 9) C dX10_blade_143 (by decide) ?_
              refine z_iadd C dX10_blade_145 ?_
              refine z_iconst (v := (-1)) C dX10_blade_146 (by decide) ?_
              refine z_iast C sB_6 dX10_blade_147 (fun σ12 => ?_)
              refine z_aload_n C dX10_blade_148 1 rfl ?_
              refine z_getR C fd_X10_32 dX10_blade_149 ?_
              refine z_iload C dX10_blade_152 0 rfl ?_
              refine z_bipush (v := 10) C dX10_blade_154 (by decide) ?_
              refine z_iadd C dX10_blade_156 ?_
              refine z_iconst (v := (-1)) C dX10_blade_157 (by decide) ?_
              refine z_iast C sB_6 dX10_blade_158 (fun σ13 => ?_)
              refine z_aload_n C dX10_blade_159 1 rfl ?_
              refine z_dup C dX10_blade_160 rfl ?_
              refine z_getI C fd_X10_78 dX10_blade_161 ?_
              refine z_iconst (v := 1) C dX10_blade_164 (by decide) ?_
              refine z_iadd C dX10_blade_165 ?_
              refine z_putI C fd_X10_78 fwB_0_16 (lgB 0) (by decide) dX10_blade_166 (fun σ14 => ?_)
              refine z_aload_n C dX10_blade_169 1 rfl ?_
              refine z_getI C fd_X10_78 dX10_blade_170 ?_
              refine z_iconst (v := 1) C dX10_blade_173 (by decide) ?_
              refine z_isub C dX10_blade_174 ?_
              exact z_iret C dX10_blade_175
theorem m_X10_blade {l : Launch} {G : zG} {x1 : Int32} {x2 : Int32} {x3 : Int32} {x4 : Int32} {x5 : Int32} {σ σ1 : zS} {r : Int32} (h : f_X10_blade x1 x2 x3 x4 x5 σ = some (r, σ1)) : zM l G zshB yX10_blade cX10_blade 7 (some .int) 2 [.ref (ga G 0), .int x1, .int x2, .int x3, .int x4, .int x5] (zov (some .int) G r) σ σ1 :=
  z_met (by decide) (Nat.le_of_ble_eq_true rfl) h (fun K _ hG C => by subst hG; exact b_X10_blade K C x1 x2 x3 x4 x5 σ)
theorem b_X10_isBlade (K : zK) (C : zOk zshB K RX10 cX10_isBlade (some .boolean) 2 1) (x1 : Int32) (σ : zS) : Zf zshB K (f_X10_isBlade x1 σ) 0 [(0, .ref (ga (kG K) 0)), (1, .int x1)] [] σ := by
  unfold f_X10_isBlade
  refine z_iload_n C dX10_isBlade_0 1 rfl ?_
  refine z_iconst (v := 0) C dX10_isBlade_1 (by decide) ?_
  refine z_aload_n C dX10_isBlade_2 0 rfl ?_
  refine z_getI C fd_X10_78 dX10_isBlade_3 ?_
  refine z_iconst (v := 1) C dX10_isBlade_6 (by decide) ?_
  refine z_isub C dX10_isBlade_7 ?_
  refine z_callSz (As := [.int x1, .int 0, .int ((σ 0 16) - 1)]) (st := []) C zy_X10_in zs_X10_in ml_X10_71 (by decide) (fun _ _ h => m_X10_in h) rfl rfl (Nat.le_of_ble_eq_true rfl) dX10_isBlade_8 (fun v1 σ1 => ?_)
  exact z_zrb C dX10_isBlade_11
theorem m_X10_isBlade {l : Launch} {G : zG} {x1 : Int32} {σ σ1 : zS} {r : Int32} (h : f_X10_isBlade x1 σ = some (r, σ1)) : zM l G zshB yX10_isBlade cX10_isBlade 2 (some .boolean) 1 [.ref (ga G 0), .int x1] (zov (some .boolean) G r) σ σ1 :=
  z_met (by decide) (Nat.le_of_ble_eq_true rfl) h (fun K _ hG C => by subst hG; exact b_X10_isBlade K C x1 σ)
theorem b_X10_rim_J45 (K : zK) (C : zOk zshB K RX10 cX10_rim (some .int) 4 2) (x1 : Int32) (x2 : Int32) (x3 : Int32) (σ : zS) : Zf zshB K (f_X10_rim_J45 x1 x2 x3 σ) 45 [(0, .ref (ga (kG K) 0)), (1, .int x1), (2, .int x2), (3, .int x3)] [] σ := by
  unfold f_X10_rim_J45
  refine z_aload_n C dX10_rim_45 0 rfl ?_
  refine z_getR C fd_X10_32 dX10_rim_46 ?_
  refine z_bipush (v := 11) C dX10_rim_49 (by decide) ?_
  refine z_iload_n C dX10_rim_51 1 rfl ?_
  refine z_imul C dX10_rim_52 ?_
  refine z_bipush (v := 7) C dX10_rim_53 (by decide) ?_
  refine z_iadd C dX10_rim_55 ?_
  refine z_iload_n C dX10_rim_56 2 rfl ?_
  refine z_iast C sB_6 dX10_rim_57 (fun σ1 => ?_)
  refine z_aload_n C dX10_rim_58 0 rfl ?_
  refine z_getR C fd_X10_32 dX10_rim_59 ?_
  refine z_bipush (v := 11) C dX10_rim_62 (by decide) ?_
  refine z_iload_n C dX10_rim_64 1 rfl ?_
  refine z_imul C dX10_rim_65 ?_
  refine z_bipush (v := 8) C dX10_rim_66 (by decide) ?_
  refine z_iadd C dX10_rim_68 ?_
  refine z_iload_n C dX10_rim_69 3 rfl ?_
  refine z_iast C sB_6 dX10_rim_70 (fun σ2 => ?_)
  refine z_iconst (v := 1) C dX10_rim_71 (by decide) ?_
  exact z_iret C dX10_rim_72
theorem b_X10_rim (K : zK) (C : zOk zshB K RX10 cX10_rim (some .int) 4 2) (x1 : Int32) (x2 : Int32) (x3 : Int32) (σ : zS) : Zf zshB K (f_X10_rim x1 x2 x3 σ) 0 [(0, .ref (ga (kG K) 0)), (1, .int x1), (2, .int x2), (3, .int x3)] [] σ := by
  unfold f_X10_rim
  refine z_aload_n C dX10_rim_0 0 rfl ?_
  refine z_iload_n C dX10_rim_1 1 rfl ?_
  refine z_callVz (q := 0) (As := [.int x1]) (st := []) C zy_X10_isBlade zv_X10_isBlade ml_X10_169 rcB_0 (by decide) (fun _ _ h => m_X10_isBlade h) rfl rfl (Nat.le_of_ble_eq_true rfl) dX10_rim_2 (fun v1 σ1 => ?_)
  refine z_if_ne (tgt := 11) C dX10_rim_5 (by decide) ?_ ?_
  · refine z_bipush (v := (-2)) C dX10_rim_8 (by decide) ?_
    exact z_iret C dX10_rim_10
  · refine z_iload_n C dX10_rim_11 2 rfl ?_
    refine z_iconst (v := 0) C dX10_rim_12 (by decide) ?_
    refine z_sipush (v := 999) C dX10_rim_13 (by decide) ?_
    refine z_callSz (As := [.int x2, .int 0, .int 999]) (st := []) C zy_X10_in zs_X10_in ml_X10_71 (by decide) (fun _ _ h => m_X10_in h) rfl rfl (Nat.le_of_ble_eq_true rfl) dX10_rim_16 (fun v2 σ2 => ?_)
    refine z_if_eq (tgt := 42) C dX10_rim_19 (by decide) ?_ ?_
    · refine z_bipush (v := (-3)) C dX10_rim_42 (by decide) ?_
      exact z_iret C dX10_rim_44
    · refine z_iload_n C dX10_rim_22 3 rfl ?_
      refine z_iconst (v := 0) C dX10_rim_23 (by decide) ?_
      refine z_sipush (v := 999) C dX10_rim_24 (by decide) ?_
      refine z_callSz (As := [.int x3, .int 0, .int 999]) (st := []) C zy_X10_in zs_X10_in ml_X10_71 (by decide) (fun _ _ h => m_X10_in h) rfl rfl (Nat.le_of_ble_eq_true rfl) dX10_rim_27 (fun v3 σ3 => ?_)
      refine z_if_eq (tgt := 42) C dX10_rim_30 (by decide) ?_ ?_
      · refine z_bipush (v := (-3)) C dX10_rim_42 (by decide) ?_
        exact z_iret C dX10_rim_44
      · refine z_iload_n C dX10_rim_33 3 rfl ?_
        refine z_if_le (tgt := 45) C dX10_rim_34 (by decide) ?_ ?_
        · exact z_sub [0, 1, 2, 3] rfl (b_X10_rim_J45 K C x1 x2 x3 σ3)
        · refine z_iload_n C dX10_rim_37 3 rfl ?_
          refine z_iload_n C dX10_rim_38 2 rfl ?_
          refine z_icmp_lt (tgt := 45) C dX10_rim_39 (by decide) ?_ ?_
          · exact z_sub [0, 1, 2, 3] rfl (b_X10_rim_J45 K C x1 x2 x3 σ3)
          · refine z_bipush (v := (-3)) C dX10_rim_42 (by decide) ?_
            exact z_iret C dX10_rim_44
theorem m_X10_rim {l : Launch} {G : zG} {x1 : Int32} {x2 : Int32} {x3 : Int32} {σ σ1 : zS} {r : Int32} (h : f_X10_rim x1 x2 x3 σ = some (r, σ1)) : zM l G zshB yX10_rim cX10_rim 4 (some .int) 2 [.ref (ga G 0), .int x1, .int x2, .int x3] (zov (some .int) G r) σ σ1 :=
  z_met (by decide) (Nat.le_of_ble_eq_true rfl) h (fun K _ hG C => by subst hG; exact b_X10_rim K C x1 x2 x3 σ)
theorem b_X10_at (K : zK) (C : zOk zshB K RX10 cX10_at (some .int) 3 0) (x1 : Int32) (x2 : Int32) (σ : zS) : Zf zshB K (f_X10_at x1 x2 σ) 0 [(0, .ref (ga (kG K) 0)), (1, .int x1), (2, .int x2)] [] σ := by
  unfold f_X10_at
  refine z_aload_n C dX10_at_0 0 rfl ?_
  refine z_getR C fd_X10_32 dX10_at_1 ?_
  refine z_bipush (v := 11) C dX10_at_4 (by decide) ?_
  refine z_iload_n C dX10_at_6 1 rfl ?_
  refine z_imul C dX10_at_7 ?_
  refine z_iload_n C dX10_at_8 2 rfl ?_
  refine z_iadd C dX10_at_9 ?_
  refine z_iald C sB_6 dX10_at_10 (fun v1 => ?_)
  exact z_iret C dX10_at_11
theorem m_X10_at {l : Launch} {G : zG} {x1 : Int32} {x2 : Int32} {σ σ1 : zS} {r : Int32} (h : f_X10_at x1 x2 σ = some (r, σ1)) : zM l G zshB yX10_at cX10_at 3 (some .int) 0 [.ref (ga G 0), .int x1, .int x2] (zov (some .int) G r) σ σ1 :=
  z_met (by decide) (Nat.le_of_ble_eq_true rfl) h (fun K _ hG C => by subst hG; exact b_X10_at K C x1 x2 σ)
theorem b_X10_measure (K : zK) (C : zOk zshB K RX10 cX10_measure (some .int) 5 2) (x1 : Int32) (x2 : Int32) (x3 : Int32) (σ : zS) : Zf zshB K (f_X10_measure x1 x2 x3 σ) 0 [(0, .ref (ga (kG K) 0)), (1, .int x1), (2, .int x2), (3, .int x3)] [] σ := by
  unfold f_X10_measure
  refine z_aload_n C dX10_measure_0 0 rfl ?_
  refine z_iload_n C dX10_measure_1 1 rfl ?_
  refine z_callVz (q := 0) (As := [.int x1]) (st := []) C zy_X10_isBlade zv_X10_isBlade ml_X10_169 rcB_0 (by decide) (fun _ _ h => m_X10_isBlade h) rfl rfl (Nat.le_of_ble_eq_true rfl) dX10_measure_2 (fun v1 σ1 => ?_)
  refine z_if_ne (tgt := 11) C dX10_measure_5 (by decide) ?_ ?_
  · refine z_bipush (v := (-2)) C dX10_measure_8 (by decide) ?_
    exact z_iret C dX10_measure_10
  · refine z_iload_n C dX10_measure_11 2 rfl ?_
    refine z_callSz (As := [.int x2]) (st := []) C zy_X10_areNumbers zs_X10_areNumbers ml_X10_162 (by decide) (fun _ _ h => m_X10_areNumbers h) rfl rfl (Nat.le_of_ble_eq_true rfl) dX10_measure_12 (fun v2 σ2 => ?_)
    refine z_if_eq (tgt := 28) C dX10_measure_15 (by decide) ?_ ?_
    · refine z_bipush (v := (-3)) C dX10_measure_28 (by decide) ?_
      exact z_iret C dX10_measure_30
    · refine z_iload_n C dX10_measure_18 3 rfl ?_
      refine z_iconst (v := 1) C dX10_measure_19 (by decide) ?_
      refine z_bipush (v := 99) C dX10_measure_20 (by decide) ?_
      refine z_callSz (As := [.int x3, .int 1, .int 99]) (st := []) C zy_X10_in zs_X10_in ml_X10_71 (by decide) (fun _ _ h => m_X10_in h) rfl rfl (Nat.le_of_ble_eq_true rfl) dX10_measure_22 (fun v3 σ3 => ?_)
      refine z_if_ne (tgt := 31) C dX10_measure_25 (by decide) ?_ ?_
      · refine z_bipush (v := (-3)) C dX10_measure_28 (by decide) ?_
        exact z_iret C dX10_measure_30
      · refine z_aload_n C dX10_measure_31 0 rfl ?_
        refine z_iload_n C dX10_measure_32 1 rfl ?_
        refine z_iconst (v := 4) C dX10_measure_33 (by decide) ?_
        refine z_callVi (q := 0) (As := [.int x1, .int 4]) (st := []) C zy_X10_at zv_X10_at ml_X10_172 rcB_0 (by decide) (fun _ _ h => m_X10_at h) rfl rfl (Nat.le_of_ble_eq_true rfl) dX10_measure_34 (fun v4 σ4 => ?_)
        refine z_istore (lv1 := [(4, .int v4), (0, .ref (ga (kG K) 0)), (1, .int x1), (2, .int x2), (3, .int x3)]) C dX10_measure_37 (by decide) rfl ?_
        refine z_aload_n C dX10_measure_39 1 rfl ?_
        refine z_iload_n C dX10_measure_40 2 rfl ?_
        refine z_iload_n C dX10_measure_41 3 rfl ?_
        refine z_iload_n C dX10_measure_42 4 rfl ?_
        refine z_callVv (q := 0) (As := [.int x1, .int x2, .int x3]) (st := []) C zy_X10_layNumbers zv_X10_layNumbers ml_X10_165 rcB_0 (by decide) (fun _ _ h => m_X10_layNumbers h) rfl rfl (Nat.le_of_ble_eq_true rfl) dX10_measure_43 (fun _ σ5 => ?_)
        refine z_iload C dX10_measure_46 0 rfl ?_
        exact z_iret C dX10_measure_48
theorem m_X10_measure {l : Launch} {G : zG} {x1 : Int32} {x2 : Int32} {x3 : Int32} {σ σ1 : zS} {r : Int32} (h : f_X10_measure x1 x2 x3 σ = some (r, σ1)) : zM l G zshB yX10_measure cX10_measure 5 (some .int) 2 [.ref (ga G 0), .int x1, .int x2, .int x3] (zov (some .int) G r) σ σ1 :=
  z_met (by decide) (Nat.le_of_ble_eq_true rfl) h (fun K _ hG C => by subst hG; exact b_X10_measure K C x1 x2 x3 σ)
theorem b_X10_of (K : zK) (C : zOk zshB K RX10 cX10_of (some .int) 3 2) (x1 : Int32) (x2 : Int32) (σ : zS) : Zf zshB K (f_X10_of x1 x2 σ) 0 [(0, .ref (ga (kG K) 0)), (1, .int x1), (2, .int x2)] [] σ := by
  unfold f_X10_of
  refine z_aload_n C dX10_of_0 0 rfl ?_
  refine z_iload_n C dX10_of_1 1 rfl ?_
  refine z_callVz (q := 0) (As := [.int x1]) (st := []) C zy_X10_isBlade zv_X10_isBlade ml_X10_169 rcB_0 (by decide) (fun _ _ h => m_X10_isBlade h) rfl rfl (Nat.le_of_ble_eq_true rfl) dX10_of_2 (fun v1 σ1 => ?_)
  refine z_if_ne (tgt := 11) C dX10_of_5 (by decide) ?_ ?_
  · refine z_bipush (v := (-2)) C dX10_of_8 (by decide) ?_
    exact z_iret C dX10_of_10
  · refine z_iload_n C dX10_of_11 2 rfl ?_
    refine z_iconst (v := 0) C dX10_of_12 (by decide) ?_
    refine z_bipush (v := 9) C dX10_of_13 (by decide) ?_
    refine z_callSz (As := [.int x2, .int 0, .int 9]) (st := []) C zy_X10_in zs_X10_in ml_X10_71 (by decide) (fun _ _ h => m_X10_in h) rfl rfl (Nat.le_of_ble_eq_true rfl) dX10_of_15 (fun v2 σ2 => ?_)
    refine z_if_eq (tgt := 30) C dX10_of_18 (by decide) ?_ ?_
    · refine z_bipush (v := (-3)) C dX10_of_30 (by decide) ?_
      exact z_iret C dX10_of_32
    · refine z_aload_n C dX10_of_21 0 rfl ?_
      refine z_iload_n C dX10_of_22 1 rfl ?_
      refine z_iload_n C dX10_of_23 2 rfl ?_
      refine z_callVi (q := 0) (As := [.int x1, .int x2]) (st := []) C zy_X10_at zv_X10_at ml_X10_172 rcB_0 (by decide) (fun _ _ h => m_X10_at h) rfl rfl (Nat.le_of_ble_eq_true rfl) dX10_of_24 (fun v3 σ3 => ?_)
      refine z_goto (tgt := 32) C dX10_of_27 (by decide) ?_
      exact z_iret C dX10_of_32
theorem m_X10_of {l : Launch} {G : zG} {x1 : Int32} {x2 : Int32} {σ σ1 : zS} {r : Int32} (h : f_X10_of x1 x2 σ = some (r, σ1)) : zM l G zshB yX10_of cX10_of 3 (some .int) 2 [.ref (ga G 0), .int x1, .int x2] (zov (some .int) G r) σ σ1 :=
  z_met (by decide) (Nat.le_of_ble_eq_true rfl) h (fun K _ hG C => by subst hG; exact b_X10_of K C x1 x2 σ)
theorem b_X10_offOf_J52 (K : zK) (C : zOk zshB K RX10 cX10_offOf (some .int) 7 1) (x1 : Int32) (x2 : Int32) (x3 : Int32) (x4 : Int32) (s0 : Int32) (s1 : Int32) (k5 : Int32 → Int32 → zS → Option (Int32 × zS)) (hk5 : ∀ (x3 : Int32) (x4 : Int32) (σ : zS), Zf zshB K (k5 x3 x4 σ) 5 [(0, .ref (ga (kG K) 0)), (1, .int x1), (2, .int x2), (3, .int x3), (4, .int x4)] [] σ) (σ : zS) : Zf zshB K (f_X10_offOf_J52 k5 x1 x2 x3 x4 s0 s1 σ) 52 [(0, .ref (ga (kG K) 0)), (1, .int x1), (2, .int x2), (3, .int x3), (4, .int x4)] [.int s0, .int s1] σ := by
  unfold f_X10_offOf_J52
  refine z_imul C dX10_offOf_52 ?_
  refine z_aload_n C dX10_offOf_53 0 rfl ?_
  refine z_iload_n C dX10_offOf_54 1 rfl ?_
  refine z_iconst (v := 4) C dX10_offOf_55 (by decide) ?_
  refine z_callVi (q := 0) (As := [.int x1, .int 4]) (st := [.int (s1 * s0)]) C zy_X10_at zv_X10_at ml_X10_172 rcB_0 (by decide) (fun _ _ h => m_X10_at h) rfl rfl (Nat.le_of_ble_eq_true rfl) dX10_offOf_56 (fun v1 σ1 => ?_)
  refine z_aload_n C dX10_offOf_59 0 rfl ?_
  refine z_getR C fd_X10_16 dX10_offOf_60 ?_
  refine z_bipush (v := 6) C dX10_offOf_63 (by decide) ?_
  refine z_iload_n C dX10_offOf_65 2 rfl ?_
  refine z_imul C dX10_offOf_66 ?_
  refine z_iconst (v := 5) C dX10_offOf_67 (by decide) ?_
  refine z_iadd C dX10_offOf_68 ?_
  refine z_iald C sB_3 dX10_offOf_69 (fun v2 => ?_)
  refine z_iadd C dX10_offOf_70 ?_
  refine z_idiv C dX10_offOf_71 (fun v3 => ?_)
  refine z_istore (lv1 := [(6, .int v3), (0, .ref (ga (kG K) 0)), (1, .int x1), (2, .int x2), (3, .int x3), (4, .int x4)]) C dX10_offOf_72 (by decide) rfl ?_
  refine z_iload C dX10_offOf_74 0 rfl ?_
  refine z_iload_n C dX10_offOf_76 4 rfl ?_
  refine z_icmp_le (tgt := 85) C dX10_offOf_77 (by decide) ?_ ?_
  · refine z_iload_n C dX10_offOf_85 4 rfl ?_
    refine z_istore_n (lv1 := [(3, .int x3), (6, .int v3), (0, .ref (ga (kG K) 0)), (1, .int x1), (2, .int x2), (4, .int x4)]) C dX10_offOf_86 (by decide) rfl ?_
    refine z_iinc (v := 1) (lv1 := [(4, .int (x4 + 1)), (3, .int x3), (6, .int v3), (0, .ref (ga (kG K) 0)), (1, .int x1), (2, .int x2)]) C dX10_offOf_87 5 rfl (by decide) (by decide) rfl ?_
    refine z_goto (tgt := 5) C dX10_offOf_90 (by decide) ?_
    exact z_sub [3, 4, 5, 1, 0] rfl (hk5 x3 (x4 + 1) σ1)
  · refine z_iload C dX10_offOf_80 0 rfl ?_
    refine z_goto (tgt := 86) C dX10_offOf_82 (by decide) ?_
    refine z_istore_n (lv1 := [(3, .int v3), (6, .int v3), (0, .ref (ga (kG K) 0)), (1, .int x1), (2, .int x2), (4, .int x4)]) C dX10_offOf_86 (by decide) rfl ?_
    refine z_iinc (v := 1) (lv1 := [(4, .int (x4 + 1)), (3, .int v3), (6, .int v3), (0, .ref (ga (kG K) 0)), (1, .int x1), (2, .int x2)]) C dX10_offOf_87 5 rfl (by decide) (by decide) rfl ?_
    refine z_goto (tgt := 5) C dX10_offOf_90 (by decide) ?_
    exact z_sub [3, 4, 5, 1, 0] rfl (hk5 v3 (x4 + 1) σ1)
theorem b_X10_offOf_L5 (K : zK) (C : zOk zshB K RX10 cX10_offOf (some .int) 7 1) (x1 : Int32) (x2 : Int32) : ∀ (n : Nat) (x3 : Int32) (x4 : Int32) (σ : zS), Zf zshB K (f_X10_offOf_L5 x1 x2 n x3 x4 σ) 5 [(0, .ref (ga (kG K) 0)), (1, .int x1), (2, .int x2), (3, .int x3), (4, .int x4)] [] σ := by
  intro n
  induction n with
  | zero => intro x3 x4 σ; rw [f_X10_offOf_L5]; exact z_none
  | succ n ih =>
  intro x3 x4 σ
  rw [f_X10_offOf_L5]
  refine z_iload C dX10_offOf_5 4 rfl ?_
  refine z_iconst (v := 3) C dX10_offOf_7 (by decide) ?_
  refine z_icmp_ge (tgt := 93) C dX10_offOf_8 (by decide) ?_ ?_
  · refine z_iload_n C dX10_offOf_93 3 rfl ?_
    exact z_iret C dX10_offOf_94
  · refine z_aload_n C dX10_offOf_11 0 rfl ?_
    refine z_iload_n C dX10_offOf_12 1 rfl ?_
    refine z_iconst (v := 1) C dX10_offOf_13 (by decide) ?_
    refine z_iload C dX10_offOf_14 4 rfl ?_
    refine z_iadd C dX10_offOf_16 ?_
    refine z_callVi (q := 0) (As := [.int x1, .int (1 + x4)]) (st := []) C zy_X10_at zv_X10_at ml_X10_172 rcB_0 (by decide) (fun _ _ h => m_X10_at h) rfl rfl (Nat.le_of_ble_eq_true rfl) dX10_offOf_17 (fun v1 σ1 => ?_)
    refine z_aload_n C dX10_offOf_20 0 rfl ?_
    refine z_getR C fd_X10_16 dX10_offOf_21 ?_
    refine z_bipush (v := 6) C dX10_offOf_24 (by decide) ?_
    refine z_iload_n C dX10_offOf_26 2 rfl ?_
    refine z_imul C dX10_offOf_27 ?_
    refine z_iconst (v := 2) C dX10_offOf_28 (by decide) ?_
    refine z_iadd C dX10_offOf_29 ?_
    refine z_iload C dX10_offOf_30 4 rfl ?_
    refine z_iadd C dX10_offOf_32 ?_
    refine z_iald C sB_3 dX10_offOf_33 (fun v2 => ?_)
    refine z_isub C dX10_offOf_34 ?_
    refine z_istore (lv1 := [(5, .int (v1 - v2)), (0, .ref (ga (kG K) 0)), (1, .int x1), (2, .int x2), (3, .int x3), (4, .int x4)]) C dX10_offOf_35 (by decide) rfl ?_
    refine z_bipush (v := 10) C dX10_offOf_37 (by decide) ?_
    refine z_iload C dX10_offOf_39 0 rfl ?_
    refine z_if_ge (tgt := 50) C dX10_offOf_41 (by decide) ?_ ?_
    · refine z_iload C dX10_offOf_50 0 rfl ?_
      exact z_sub [1, 2, 3, 4, 5] rfl (b_X10_offOf_J52 K C x1 x2 x3 x4 (v1 - v2) 10 _ ih σ1)
    · refine z_iload C dX10_offOf_44 0 rfl ?_
      refine z_ineg C dX10_offOf_46 ?_
      refine z_goto (tgt := 52) C dX10_offOf_47 (by decide) ?_
      exact z_sub [1, 2, 3, 4, 5] rfl (b_X10_offOf_J52 K C x1 x2 x3 x4 (-(v1 - v2)) 10 _ ih σ1)
theorem b_X10_offOf (K : zK) (C : zOk zshB K RX10 cX10_offOf (some .int) 7 1) (x1 : Int32) (x2 : Int32) (σ : zS) : Zf zshB K (f_X10_offOf x1 x2 σ) 0 [(0, .ref (ga (kG K) 0)), (1, .int x1), (2, .int x2)] [] σ := by
  unfold f_X10_offOf
  refine z_iconst (v := 0) C dX10_offOf_0 (by decide) ?_
  refine z_istore_n (lv1 := [(3, .int 0), (0, .ref (ga (kG K) 0)), (1, .int x1), (2, .int x2)]) C dX10_offOf_1 (by decide) rfl ?_
  refine z_iconst (v := 0) C dX10_offOf_2 (by decide) ?_
  refine z_istore (lv1 := [(4, .int 0), (3, .int 0), (0, .ref (ga (kG K) 0)), (1, .int x1), (2, .int x2)]) C dX10_offOf_3 (by decide) rfl ?_
  exact z_sub [2, 3, 4, 1, 0] rfl (b_X10_offOf_L5 K C x1 x2 zfu 0 0 σ)
theorem m_X10_offOf {l : Launch} {G : zG} {x1 : Int32} {x2 : Int32} {σ σ1 : zS} {r : Int32} (h : f_X10_offOf x1 x2 σ = some (r, σ1)) : zM l G zshB yX10_offOf cX10_offOf 7 (some .int) 1 [.ref (ga G 0), .int x1, .int x2] (zov (some .int) G r) σ σ1 :=
  z_met (by decide) (Nat.le_of_ble_eq_true rfl) h (fun K _ hG C => by subst hG; exact b_X10_offOf K C x1 x2 σ)
theorem b_X10_off (K : zK) (C : zOk zshB K RX10 cX10_off (some .int) 3 2) (x1 : Int32) (x2 : Int32) (σ : zS) : Zf zshB K (f_X10_off x1 x2 σ) 0 [(0, .ref (ga (kG K) 0)), (1, .int x1), (2, .int x2)] [] σ := by
  unfold f_X10_off
  refine z_aload_n C dX10_off_0 0 rfl ?_
  refine z_iload_n C dX10_off_1 1 rfl ?_
  refine z_callVz (q := 0) (As := [.int x1]) (st := []) C zy_X10_isBlade zv_X10_isBlade ml_X10_169 rcB_0 (by decide) (fun _ _ h => m_X10_isBlade h) rfl rfl (Nat.le_of_ble_eq_true rfl) dX10_off_2 (fun v1 σ1 => ?_)
  refine z_if_eq (tgt := 25) C dX10_off_5 (by decide) ?_ ?_
  · refine z_bipush (v := (-2)) C dX10_off_25 (by decide) ?_
    exact z_iret C dX10_off_27
  · refine z_aload_n C dX10_off_8 0 rfl ?_
    refine z_iload_n C dX10_off_9 2 rfl ?_
    refine z_callVz (q := 0) (As := [.int x2]) (st := []) C zy_X10_isFlow zv_X10_isFlow ml_X10_159 rcB_0 (by decide) (fun _ _ h => m_X10_isFlow h) rfl rfl (Nat.le_of_ble_eq_true rfl) dX10_off_10 (fun v2 σ2 => ?_)
    refine z_if_eq (tgt := 25) C dX10_off_13 (by decide) ?_ ?_
    · refine z_bipush (v := (-2)) C dX10_off_25 (by decide) ?_
      exact z_iret C dX10_off_27
    · refine z_aload_n C dX10_off_16 0 rfl ?_
      refine z_iload_n C dX10_off_17 1 rfl ?_
      refine z_iload_n C dX10_off_18 2 rfl ?_
      refine z_callVi (q := 0) (As := [.int x1, .int x2]) (st := []) C zy_X10_offOf zv_X10_offOf ml_X10_176 rcB_0 (by decide) (fun _ _ h => m_X10_offOf h) rfl rfl (Nat.le_of_ble_eq_true rfl) dX10_off_19 (fun v3 σ3 => ?_)
      refine z_goto (tgt := 27) C dX10_off_22 (by decide) ?_
      exact z_iret C dX10_off_27
theorem m_X10_off {l : Launch} {G : zG} {x1 : Int32} {x2 : Int32} {σ σ1 : zS} {r : Int32} (h : f_X10_off x1 x2 σ = some (r, σ1)) : zM l G zshB yX10_off cX10_off 3 (some .int) 2 [.ref (ga G 0), .int x1, .int x2] (zov (some .int) G r) σ σ1 :=
  z_met (by decide) (Nat.le_of_ble_eq_true rfl) h (fun K _ hG C => by subst hG; exact b_X10_off K C x1 x2 σ)
theorem b_X10_canBe_L4 (K : zK) (C : zOk zshB K RX10 cX10_canBe (some .int) 4 2) (x1 : Int32) : ∀ (n : Nat) (x2 : Int32) (x3 : Int32) (σ : zS), Zf zshB K (f_X10_canBe_L4 x1 n x2 x3 σ) 4 [(0, .ref (ga (kG K) 0)), (1, .int x1), (2, .int x2), (3, .int x3)] [] σ := by
  intro n
  induction n with
  | zero => intro x2 x3 σ; rw [f_X10_canBe_L4]; exact z_none
  | succ n ih =>
  intro x2 x3 σ
  rw [f_X10_canBe_L4]
  refine z_iload_n C dX10_canBe_4 3 rfl ?_
  refine z_bipush (v := 9) C dX10_canBe_5 (by decide) ?_
  refine z_icmp_ge (tgt := 47) C dX10_canBe_7 (by decide) ?_ ?_
  · refine z_iload_n C dX10_canBe_47 2 rfl ?_
    exact z_iret C dX10_canBe_48
  · refine z_iload_n C dX10_canBe_10 2 rfl ?_
    refine z_aload_n C dX10_canBe_11 0 rfl ?_
    refine z_iload_n C dX10_canBe_12 3 rfl ?_
    refine z_callVz (q := 0) (As := [.int x3]) (st := [.int x2]) C zy_X10_isFlow zv_X10_isFlow ml_X10_159 rcB_0 (by decide) (fun _ _ h => m_X10_isFlow h) rfl rfl (Nat.le_of_ble_eq_true rfl) dX10_canBe_13 (fun v1 σ1 => ?_)
    refine z_if_eq (tgt := 38) C dX10_canBe_16 (by decide) ?_ ?_
    · refine z_iconst (v := 0) C dX10_canBe_38 (by decide) ?_
      refine z_ior C dX10_canBe_39 ?_
      refine z_istore_n (lv1 := [(2, .int (x2 ||| 0)), (0, .ref (ga (kG K) 0)), (1, .int x1), (3, .int x3)]) C dX10_canBe_40 (by decide) rfl ?_
      refine z_iinc (v := 1) (lv1 := [(3, .int (x3 + 1)), (2, .int (x2 ||| 0)), (0, .ref (ga (kG K) 0)), (1, .int x1)]) C dX10_canBe_41 3 rfl (by decide) (by decide) rfl ?_
      refine z_goto (tgt := 4) C dX10_canBe_44 (by decide) ?_
      exact z_sub [2, 3, 1, 0] rfl (ih (x2 ||| 0) (x3 + 1) σ1)
    · refine z_aload_n C dX10_canBe_19 0 rfl ?_
      refine z_iload_n C dX10_canBe_20 1 rfl ?_
      refine z_iload_n C dX10_canBe_21 3 rfl ?_
      refine z_callVi (q := 0) (As := [.int x1, .int x3]) (st := [.int x2]) C zy_X10_offOf zv_X10_offOf ml_X10_176 rcB_0 (by decide) (fun _ _ h => m_X10_offOf h) rfl rfl (Nat.le_of_ble_eq_true rfl) dX10_canBe_22 (fun v2 σ2 => ?_)
      refine z_aload_n C dX10_canBe_25 0 rfl ?_
      refine z_getI C fd_X10_19 dX10_canBe_26 ?_
      refine z_icmp_gt (tgt := 38) C dX10_canBe_29 (by decide) ?_ ?_
      · refine z_iconst (v := 0) C dX10_canBe_38 (by decide) ?_
        refine z_ior C dX10_canBe_39 ?_
        refine z_istore_n (lv1 := [(2, .int (x2 ||| 0)), (0, .ref (ga (kG K) 0)), (1, .int x1), (3, .int x3)]) C dX10_canBe_40 (by decide) rfl ?_
        refine z_iinc (v := 1) (lv1 := [(3, .int (x3 + 1)), (2, .int (x2 ||| 0)), (0, .ref (ga (kG K) 0)), (1, .int x1)]) C dX10_canBe_41 3 rfl (by decide) (by decide) rfl ?_
        refine z_goto (tgt := 4) C dX10_canBe_44 (by decide) ?_
        exact z_sub [2, 3, 1, 0] rfl (ih (x2 ||| 0) (x3 + 1) σ2)
      · refine z_iconst (v := 1) C dX10_canBe_32 (by decide) ?_
        refine z_iload_n C dX10_canBe_33 3 rfl ?_
        refine z_ishl C dX10_canBe_34 ?_
        refine z_goto (tgt := 39) C dX10_canBe_35 (by decide) ?_
        refine z_ior C dX10_canBe_39 ?_
        refine z_istore_n (lv1 := [(2, .int (x2 ||| ((1 : Int32) <<< (x3 &&& 31)))), (0, .ref (ga (kG K) 0)), (1, .int x1), (3, .int x3)]) C dX10_canBe_40 (by decide) rfl ?_
        refine z_iinc (v := 1) (lv1 := [(3, .int (x3 + 1)), (2, .int (x2 ||| ((1 : Int32) <<< (x3 &&& 31)))), (0, .ref (ga (kG K) 0)), (1, .int x1)]) C dX10_canBe_41 3 rfl (by decide) (by decide) rfl ?_
        refine z_goto (tgt := 4) C dX10_canBe_44 (by decide) ?_
        exact z_sub [2, 3, 1, 0] rfl (ih (x2 ||| ((1 : Int32) <<< (x3 &&& 31))) (x3 + 1) σ2)
theorem b_X10_canBe (K : zK) (C : zOk zshB K RX10 cX10_canBe (some .int) 4 2) (x1 : Int32) (σ : zS) : Zf zshB K (f_X10_canBe x1 σ) 0 [(0, .ref (ga (kG K) 0)), (1, .int x1)] [] σ := by
  unfold f_X10_canBe
  refine z_iconst (v := 0) C dX10_canBe_0 (by decide) ?_
  refine z_istore_n (lv1 := [(2, .int 0), (0, .ref (ga (kG K) 0)), (1, .int x1)]) C dX10_canBe_1 (by decide) rfl ?_
  refine z_iconst (v := 0) C dX10_canBe_2 (by decide) ?_
  refine z_istore_n (lv1 := [(3, .int 0), (2, .int 0), (0, .ref (ga (kG K) 0)), (1, .int x1)]) C dX10_canBe_3 (by decide) rfl ?_
  exact z_sub [2, 3, 1, 0] rfl (b_X10_canBe_L4 K C x1 zfu 0 0 σ)
theorem m_X10_canBe {l : Launch} {G : zG} {x1 : Int32} {σ σ1 : zS} {r : Int32} (h : f_X10_canBe x1 σ = some (r, σ1)) : zM l G zshB yX10_canBe cX10_canBe 4 (some .int) 2 [.ref (ga G 0), .int x1] (zov (some .int) G r) σ σ1 :=
  z_met (by decide) (Nat.le_of_ble_eq_true rfl) h (fun K _ hG C => by subst hG; exact b_X10_canBe K C x1 σ)
theorem b_X10_can (K : zK) (C : zOk zshB K RX10 cX10_can (some .int) 2 3) (x1 : Int32) (σ : zS) : Zf zshB K (f_X10_can x1 σ) 0 [(0, .ref (ga (kG K) 0)), (1, .int x1)] [] σ := by
  unfold f_X10_can
  refine z_aload_n C dX10_can_0 0 rfl ?_
  refine z_iload_n C dX10_can_1 1 rfl ?_
  refine z_callVz (q := 0) (As := [.int x1]) (st := []) C zy_X10_isBlade zv_X10_isBlade ml_X10_169 rcB_0 (by decide) (fun _ _ h => m_X10_isBlade h) rfl rfl (Nat.le_of_ble_eq_true rfl) dX10_can_2 (fun v1 σ1 => ?_)
  refine z_if_eq (tgt := 16) C dX10_can_5 (by decide) ?_ ?_
  · refine z_bipush (v := (-2)) C dX10_can_16 (by decide) ?_
    exact z_iret C dX10_can_18
  · refine z_aload_n C dX10_can_8 0 rfl ?_
    refine z_iload_n C dX10_can_9 1 rfl ?_
    refine z_callVi (q := 0) (As := [.int x1]) (st := []) C zy_X10_canBe zv_X10_canBe ml_X10_179 rcB_0 (by decide) (fun _ _ h => m_X10_canBe h) rfl rfl (Nat.le_of_ble_eq_true rfl) dX10_can_10 (fun v2 σ2 => ?_)
    refine z_goto (tgt := 18) C dX10_can_13 (by decide) ?_
    exact z_iret C dX10_can_18
theorem m_X10_can {l : Launch} {G : zG} {x1 : Int32} {σ σ1 : zS} {r : Int32} (h : f_X10_can x1 σ = some (r, σ1)) : zM l G zshB yX10_can cX10_can 2 (some .int) 3 [.ref (ga G 0), .int x1] (zov (some .int) G r) σ σ1 :=
  z_met (by decide) (Nat.le_of_ble_eq_true rfl) h (fun K _ hG C => by subst hG; exact b_X10_can K C x1 σ)
theorem b_X10_bits_L4 (K : zK) (C : zOk zshB K RX10 cX10_bits (some .int) 3 0) (x0 : Int32) : ∀ (n : Nat) (x1 : Int32) (x2 : Int32) (σ : zS), Zf zshB K (f_X10_bits_L4 x0 n x1 x2 σ) 4 [(0, .int x0), (1, .int x1), (2, .int x2)] [] σ := by
  intro n
  induction n with
  | zero => intro x1 x2 σ; rw [f_X10_bits_L4]; exact z_none
  | succ n ih =>
  intro x1 x2 σ
  rw [f_X10_bits_L4]
  refine z_iload_n C dX10_bits_4 2 rfl ?_
  refine z_bipush (v := 12) C dX10_bits_5 (by decide) ?_
  refine z_icmp_ge (tgt := 24) C dX10_bits_7 (by decide) ?_ ?_
  · refine z_iload_n C dX10_bits_24 1 rfl ?_
    exact z_iret C dX10_bits_25
  · refine z_iload_n C dX10_bits_10 1 rfl ?_
    refine z_iload_n C dX10_bits_11 0 rfl ?_
    refine z_iload_n C dX10_bits_12 2 rfl ?_
    refine z_ishr C dX10_bits_13 ?_
    refine z_iconst (v := 1) C dX10_bits_14 (by decide) ?_
    refine z_iand C dX10_bits_15 ?_
    refine z_iadd C dX10_bits_16 ?_
    refine z_istore_n (lv1 := [(1, .int (x1 + ((x0 >>> (x2 &&& 31)) &&& 1))), (0, .int x0), (2, .int x2)]) C dX10_bits_17 (by decide) rfl ?_
    refine z_iinc (v := 1) (lv1 := [(2, .int (x2 + 1)), (1, .int (x1 + ((x0 >>> (x2 &&& 31)) &&& 1))), (0, .int x0)]) C dX10_bits_18 2 rfl (by decide) (by decide) rfl ?_
    refine z_goto (tgt := 4) C dX10_bits_21 (by decide) ?_
    exact z_sub [2, 1, 0] rfl (ih (x1 + ((x0 >>> (x2 &&& 31)) &&& 1)) (x2 + 1) σ)
theorem b_X10_bits (K : zK) (C : zOk zshB K RX10 cX10_bits (some .int) 3 0) (x0 : Int32) (σ : zS) : Zf zshB K (f_X10_bits x0 σ) 0 [(0, .int x0)] [] σ := by
  unfold f_X10_bits
  refine z_iconst (v := 0) C dX10_bits_0 (by decide) ?_
  refine z_istore_n (lv1 := [(1, .int 0), (0, .int x0)]) C dX10_bits_1 (by decide) rfl ?_
  refine z_iconst (v := 0) C dX10_bits_2 (by decide) ?_
  refine z_istore_n (lv1 := [(2, .int 0), (1, .int 0), (0, .int x0)]) C dX10_bits_3 (by decide) rfl ?_
  exact z_sub [2, 1, 0] rfl (b_X10_bits_L4 K C x0 zfu 0 0 σ)
theorem m_X10_bits {l : Launch} {G : zG} {x0 : Int32} {σ σ1 : zS} {r : Int32} (h : f_X10_bits x0 σ = some (r, σ1)) : zM l G zshB yX10_bits cX10_bits 3 (some .int) 0 [.int x0] (zov (some .int) G r) σ σ1 :=
  z_met (by decide) (Nat.le_of_ble_eq_true rfl) h (fun K _ hG C => by subst hG; exact b_X10_bits K C x0 σ)
theorem b_X10_named_L32 (K : zK) (C : zOk zshB K RX10 cX10_named (some .int) 5 3) (x1 : Int32) (x2 : Int32) : ∀ (n : Nat) (x3 : Int32) (x4 : Int32) (σ : zS), Zf zshB K (f_X10_named_L32 x1 x2 n x3 x4 σ) 32 [(0, .ref (ga (kG K) 0)), (1, .int x1), (2, .int x2), (3, .int x3), (4, .int x4)] [] σ := by
  intro n
  induction n with
  | zero => intro x3 x4 σ; rw [f_X10_named_L32]; exact z_none
  | succ n ih =>
  intro x3 x4 σ
  rw [f_X10_named_L32]
  refine z_iload C dX10_named_32 4 rfl ?_
  refine z_bipush (v := 9) C dX10_named_34 (by decide) ?_
  refine z_icmp_ge (tgt := 86) C dX10_named_36 (by decide) ?_ ?_
  · refine z_iload_n C dX10_named_86 3 rfl ?_
    exact z_iret C dX10_named_87
  · refine z_iload_n C dX10_named_39 2 rfl ?_
    refine z_iload C dX10_named_40 4 rfl ?_
    refine z_ishr C dX10_named_42 ?_
    refine z_iconst (v := 1) C dX10_named_43 (by decide) ?_
    refine z_iand C dX10_named_44 ?_
    refine z_iconst (v := 1) C dX10_named_45 (by decide) ?_
    refine z_icmp_ne (tgt := 55) C dX10_named_46 (by decide) ?_ ?_
    · refine z_iload C dX10_named_49 4 rfl ?_
      refine z_istore_n (lv1 := [(3, .int x4), (0, .ref (ga (kG K) 0)), (1, .int x1), (2, .int x2), (4, .int x4)]) C dX10_named_51 (by decide) rfl ?_
      refine z_goto (tgt := 80) C dX10_named_52 (by decide) ?_
      refine z_iinc (v := 1) (lv1 := [(4, .int (x4 + 1)), (3, .int x4), (0, .ref (ga (kG K) 0)), (1, .int x1), (2, .int x2)]) C dX10_named_80 4 rfl (by decide) (by decide) rfl ?_
      refine z_goto (tgt := 32) C dX10_named_83 (by decide) ?_
      exact z_sub [2, 3, 4, 1, 0] rfl (ih x4 (x4 + 1) σ)
    · refine z_aload_n C dX10_named_55 0 rfl ?_
      refine z_iload C dX10_named_56 4 rfl ?_
      refine z_callVz (q := 0) (As := [.int x4]) (st := []) C zy_X10_isFlow zv_X10_isFlow ml_X10_159 rcB_0 (by decide) (fun _ _ h => m_X10_isFlow h) rfl rfl (Nat.le_of_ble_eq_true rfl) dX10_named_58 (fun v1 σ1 => ?_)
      refine z_if_eq (tgt := 80) C dX10_named_61 (by decide) ?_ ?_
      · refine z_iinc (v := 1) (lv1 := [(4, .int (x4 + 1)), (0, .ref (ga (kG K) 0)), (1, .int x1), (2, .int x2), (3, .int x3)]) C dX10_named_80 4 rfl (by decide) (by decide) rfl ?_
        refine z_goto (tgt := 32) C dX10_named_83 (by decide) ?_
        exact z_sub [1, 2, 3, 4, 0] rfl (ih x3 (x4 + 1) σ1)
      · refine z_aload_n C dX10_named_64 0 rfl ?_
        refine z_iload_n C dX10_named_65 1 rfl ?_
        refine z_iload C dX10_named_66 4 rfl ?_
        refine z_callVi (q := 0) (As := [.int x1, .int x4]) (st := []) C zy_X10_offOf zv_X10_offOf ml_X10_176 rcB_0 (by decide) (fun _ _ h => m_X10_offOf h) rfl rfl (Nat.le_of_ble_eq_true rfl) dX10_named_68 (fun v2 σ2 => ?_)
        refine z_aload_n C dX10_named_71 0 rfl ?_
        refine z_getI C fd_X10_23 dX10_named_72 ?_
        refine z_icmp_ge (tgt := 80) C dX10_named_75 (by decide) ?_ ?_
        · refine z_iinc (v := 1) (lv1 := [(4, .int (x4 + 1)), (0, .ref (ga (kG K) 0)), (1, .int x1), (2, .int x2), (3, .int x3)]) C dX10_named_80 4 rfl (by decide) (by decide) rfl ?_
          refine z_goto (tgt := 32) C dX10_named_83 (by decide) ?_
          exact z_sub [1, 2, 3, 4, 0] rfl (ih x3 (x4 + 1) σ2)
        · refine z_iconst (v := (-1)) C dX10_named_78 (by decide) ?_
          exact z_iret C dX10_named_79
theorem b_X10_named (K : zK) (C : zOk zshB K RX10 cX10_named (some .int) 5 3) (x1 : Int32) (σ : zS) : Zf zshB K (f_X10_named x1 σ) 0 [(0, .ref (ga (kG K) 0)), (1, .int x1)] [] σ := by
  unfold f_X10_named
  refine z_aload_n C dX10_named_0 0 rfl ?_
  refine z_iload_n C dX10_named_1 1 rfl ?_
  refine z_callVz (q := 0) (As := [.int x1]) (st := []) C zy_X10_isBlade zv_X10_isBlade ml_X10_169 rcB_0 (by decide) (fun _ _ h => m_X10_isBlade h) rfl rfl (Nat.le_of_ble_eq_true rfl) dX10_named_2 (fun v1 σ1 => ?_)
  refine z_if_ne (tgt := 11) C dX10_named_5 (by decide) ?_ ?_
  · refine z_bipush (v := (-2)) C dX10_named_8 (by decide) ?_
    exact z_iret C dX10_named_10
  · refine z_aload_n C dX10_named_11 0 rfl ?_
    refine z_iload_n C dX10_named_12 1 rfl ?_
    refine z_callVi (q := 0) (As := [.int x1]) (st := []) C zy_X10_canBe zv_X10_canBe ml_X10_179 rcB_0 (by decide) (fun _ _ h => m_X10_canBe h) rfl rfl (Nat.le_of_ble_eq_true rfl) dX10_named_13 (fun v2 σ2 => ?_)
    refine z_istore_n (lv1 := [(2, .int v2), (0, .ref (ga (kG K) 0)), (1, .int x1)]) C dX10_named_16 (by decide) rfl ?_
    refine z_iload_n C dX10_named_17 0 rfl ?_
    refine z_callSi (As := [.int v2]) (st := []) C zy_X10_bits zs_X10_bits ml_X10_183 (by decide) (fun _ _ h => m_X10_bits h) rfl rfl (Nat.le_of_ble_eq_true rfl) dX10_named_18 (fun v3 σ3 => ?_)
    refine z_iconst (v := 1) C dX10_named_21 (by decide) ?_
    refine z_icmp_eq (tgt := 27) C dX10_named_22 (by decide) ?_ ?_
    · refine z_iconst (v := (-1)) C dX10_named_27 (by decide) ?_
      refine z_istore_n (lv1 := [(3, .int (-1)), (2, .int v2), (0, .ref (ga (kG K) 0)), (1, .int x1)]) C dX10_named_28 (by decide) rfl ?_
      refine z_iconst (v := 0) C dX10_named_29 (by decide) ?_
      refine z_istore (lv1 := [(4, .int 0), (3, .int (-1)), (2, .int v2), (0, .ref (ga (kG K) 0)), (1, .int x1)]) C dX10_named_30 (by decide) rfl ?_
      exact z_sub [3, 4, 2, 1, 0] rfl (b_X10_named_L32 K C x1 v2 zfu (-1) 0 σ3)
    · refine z_iconst (v := (-1)) C dX10_named_25 (by decide) ?_
      exact z_iret C dX10_named_26
theorem m_X10_named {l : Launch} {G : zG} {x1 : Int32} {σ σ1 : zS} {r : Int32} (h : f_X10_named x1 σ = some (r, σ1)) : zM l G zshB yX10_named cX10_named 5 (some .int) 3 [.ref (ga G 0), .int x1] (zov (some .int) G r) σ σ1 :=
  z_met (by decide) (Nat.le_of_ble_eq_true rfl) h (fun K _ hG C => by subst hG; exact b_X10_named K C x1 σ)
theorem b_X10_isFrom_J29 (K : zK) (C : zOk zshB K RX10 cX10_isFrom (some .boolean) 4 1) (x3 : Int32) (σ : zS) : Zf zshB K (f_X10_isFrom_J29 x3 σ) 29 [(3, .int x3)] [] σ := by
  unfold f_X10_isFrom_J29
  refine z_iload_n C dX10_isFrom_29 0 rfl ?_
  refine z_iconst (v := (-1)) C dX10_isFrom_30 (by decide) ?_
  refine z_icmp_eq (tgt := 38) C dX10_isFrom_31 (by decide) ?_ ?_
  · refine z_iconst (v := 0) C dX10_isFrom_38 (by decide) ?_
    exact z_zret C (by decide) dX10_isFrom_39
  · refine z_iconst (v := 1) C dX10_isFrom_34 (by decide) ?_
    refine z_goto (tgt := 39) C dX10_isFrom_35 (by decide) ?_
    exact z_zret C (by decide) dX10_isFrom_39
theorem b_X10_isFrom_L8 (K : zK) (C : zOk zshB K RX10 cX10_isFrom (some .boolean) 4 1) (x2 : Int32) : ∀ (n : Nat) (x3 : Int32) (σ : zS), Zf zshB K (f_X10_isFrom_L8 x2 n x3 σ) 8 [(0, .ref (ga (kG K) 0)), (2, .int x2), (3, .int x3)] [] σ := by
  intro n
  induction n with
  | zero => intro x3 σ; rw [f_X10_isFrom_L8]; exact z_none
  | succ n ih =>
  intro x3 σ
  rw [f_X10_isFrom_L8]
  refine z_iload_n C dX10_isFrom_8 2 rfl ?_
  refine z_iconst (v := (-1)) C dX10_isFrom_9 (by decide) ?_
  refine z_icmp_eq (tgt := 29) C dX10_isFrom_10 (by decide) ?_ ?_
  · exact z_sub [2] rfl (b_X10_isFrom_J29 K C x3 σ)
  · refine z_iload_n C dX10_isFrom_13 2 rfl ?_
    refine z_iload_n C dX10_isFrom_14 1 rfl ?_
    refine z_icmp_eq (tgt := 29) C dX10_isFrom_15 (by decide) ?_ ?_
    · exact z_sub [2] rfl (b_X10_isFrom_J29 K C x3 σ)
    · refine z_aload_n C dX10_isFrom_18 0 rfl ?_
      refine z_iload_n C dX10_isFrom_19 2 rfl ?_
      refine z_bipush (v := 9) C dX10_isFrom_20 (by decide) ?_
      refine z_callVi (q := 0) (As := [.int x3, .int 9]) (st := []) C zy_X10_at zv_X10_at ml_X10_172 rcB_0 (by decide) (fun _ _ h => m_X10_at h) rfl rfl (Nat.le_of_ble_eq_true rfl) dX10_isFrom_22 (fun v1 σ1 => ?_)
      refine z_istore_n (lv1 := [(3, .int v1), (0, .ref (ga (kG K) 0)), (2, .int x2)]) C dX10_isFrom_25 (by decide) rfl ?_
      refine z_goto (tgt := 8) C dX10_isFrom_26 (by decide) ?_
      exact z_sub [1, 2, 0] rfl (ih v1 σ1)
theorem b_X10_isFrom (K : zK) (C : zOk zshB K RX10 cX10_isFrom (some .boolean) 4 1) (x1 : Int32) (x2 : Int32) (σ : zS) : Zf zshB K (f_X10_isFrom x1 x2 σ) 0 [(0, .ref (ga (kG K) 0)), (1, .int x1), (2, .int x2)] [] σ := by
  unfold f_X10_isFrom
  refine z_aload_n C dX10_isFrom_0 0 rfl ?_
  refine z_iload_n C dX10_isFrom_1 1 rfl ?_
  refine z_bipush (v := 9) C dX10_isFrom_2 (by decide) ?_
  refine z_callVi (q := 0) (As := [.int x1, .int 9]) (st := []) C zy_X10_at zv_X10_at ml_X10_172 rcB_0 (by decide) (fun _ _ h => m_X10_at h) rfl rfl (Nat.le_of_ble_eq_true rfl) dX10_isFrom_4 (fun v1 σ1 => ?_)
  refine z_istore_n (lv1 := [(3, .int v1), (0, .ref (ga (kG K) 0)), (1, .int x1), (2, .int x2)]) C dX10_isFrom_7 (by decide) rfl ?_
  exact z_sub [1, 3, 0] rfl (b_X10_isFrom_L8 K C x2 zfu v1 σ1)
theorem m_X10_isFrom {l : Launch} {G : zG} {x1 : Int32} {x2 : Int32} {σ σ1 : zS} {r : Int32} (h : f_X10_isFrom x1 x2 σ = some (r, σ1)) : zM l G zshB yX10_isFrom cX10_isFrom 4 (some .boolean) 1 [.ref (ga G 0), .int x1, .int x2] (zov (some .boolean) G r) σ σ1 :=
  z_met (by decide) (Nat.le_of_ble_eq_true rfl) h (fun K _ hG C => by subst hG; exact b_X10_isFrom K C x1 x2 σ)
theorem b_X10_strike (K : zK) (C : zOk zshB K RX10 cX10_strike (some .int) 3 2) (x1 : Int32) (x2 : Int32) (σ : zS) : Zf zshB K (f_X10_strike x1 x2 σ) 0 [(0, .ref (ga (kG K) 0)), (1, .int x1), (2, .int x2)] [] σ := by
  unfold f_X10_strike
  refine z_aload_n C dX10_strike_0 0 rfl ?_
  refine z_iload_n C dX10_strike_1 1 rfl ?_
  refine z_callVz (q := 0) (As := [.int x1]) (st := []) C zy_X10_isBlade zv_X10_isBlade ml_X10_169 rcB_0 (by decide) (fun _ _ h => m_X10_isBlade h) rfl rfl (Nat.le_of_ble_eq_true rfl) dX10_strike_2 (fun v1 σ1 => ?_)
  refine z_if_eq (tgt := 21) C dX10_strike_5 (by decide) ?_ ?_
  · refine z_bipush (v := (-2)) C dX10_strike_21 (by decide) ?_
    exact z_iret C dX10_strike_23
  · refine z_aload_n C dX10_strike_8 0 rfl ?_
    refine z_iload_n C dX10_strike_9 2 rfl ?_
    refine z_callVz (q := 0) (As := [.int x2]) (st := []) C zy_X10_isBlade zv_X10_isBlade ml_X10_169 rcB_0 (by decide) (fun _ _ h => m_X10_isBlade h) rfl rfl (Nat.le_of_ble_eq_true rfl) dX10_strike_10 (fun v2 σ2 => ?_)
    refine z_if_eq (tgt := 21) C dX10_strike_13 (by decide) ?_ ?_
    · refine z_bipush (v := (-2)) C dX10_strike_21 (by decide) ?_
      exact z_iret C dX10_strike_23
    · refine z_iload_n C dX10_strike_16 1 rfl ?_
      refine z_iload_n C dX10_strike_17 2 rfl ?_
      refine z_icmp_ne (tgt := 24) C dX10_strike_18 (by decide) ?_ ?_
      · refine z_bipush (v := (-2)) C dX10_strike_21 (by decide) ?_
        exact z_iret C dX10_strike_23
      · refine z_aload_n C dX10_strike_24 0 rfl ?_
        refine z_iload_n C dX10_strike_25 1 rfl ?_
        refine z_bipush (v := 9) C dX10_strike_26 (by decide) ?_
        refine z_callVi (q := 0) (As := [.int x1, .int 9]) (st := []) C zy_X10_at zv_X10_at ml_X10_172 rcB_0 (by decide) (fun _ _ h => m_X10_at h) rfl rfl (Nat.le_of_ble_eq_true rfl) dX10_strike_28 (fun v3 σ3 => ?_)
        refine z_iconst (v := (-1)) C dX10_strike_31 (by decide) ?_
        refine z_icmp_ne (tgt := 44) C dX10_strike_32 (by decide) ?_ ?_
        · refine z_aload_n C dX10_strike_35 0 rfl ?_
          refine z_iload_n C dX10_strike_36 2 rfl ?_
          refine z_iload_n C dX10_strike_37 1 rfl ?_
          refine z_callVz (q := 0) (As := [.int x2, .int x1]) (st := []) C zy_X10_isFrom zv_X10_isFrom ml_X10_186 rcB_0 (by decide) (fun _ _ h => m_X10_isFrom h) rfl rfl (Nat.le_of_ble_eq_true rfl) dX10_strike_38 (fun v4 σ4 => ?_)
          refine z_if_eq (tgt := 47) C dX10_strike_41 (by decide) ?_ ?_
          · refine z_aload_n C dX10_strike_47 0 rfl ?_
            refine z_getR C fd_X10_32 dX10_strike_48 ?_
            refine z_bipush (v := 11) C dX10_strike_51 (by decide) ?_
            refine z_iload_n C dX10_strike_53 1 rfl ?_
            refine z_imul C dX10_strike_54 ?_
            refine z_bipush (v := 9) C dX10_strike_55 (by decide) ?_
            refine z_iadd C dX10_strike_57 ?_
            refine z_iload_n C dX10_strike_58 2 rfl ?_
            refine z_iast C sB_6 dX10_strike_59 (fun σ5 => ?_)
            refine z_iconst (v := 1) C dX10_strike_60 (by decide) ?_
            exact z_iret C dX10_strike_61
          · refine z_bipush (v := (-4)) C dX10_strike_44 (by decide) ?_
            exact z_iret C dX10_strike_46
        · refine z_bipush (v := (-4)) C dX10_strike_44 (by decide) ?_
          exact z_iret C dX10_strike_46
theorem m_X10_strike {l : Launch} {G : zG} {x1 : Int32} {x2 : Int32} {σ σ1 : zS} {r : Int32} (h : f_X10_strike x1 x2 σ = some (r, σ1)) : zM l G zshB yX10_strike cX10_strike 3 (some .int) 2 [.ref (ga G 0), .int x1, .int x2] (zov (some .int) G r) σ σ1 :=
  z_met (by decide) (Nat.le_of_ble_eq_true rfl) h (fun K _ hG C => by subst hG; exact b_X10_strike K C x1 x2 σ)
theorem b_X10_undo (K : zK) (C : zOk zshB K RX10 cX10_undo (some .int) 3 2) (x1 : Int32) (σ : zS) : Zf zshB K (f_X10_undo x1 σ) 0 [(0, .ref (ga (kG K) 0)), (1, .int x1)] [] σ := by
  unfold f_X10_undo
  refine z_aload_n C dX10_undo_0 0 rfl ?_
  refine z_iload_n C dX10_undo_1 1 rfl ?_
  refine z_callVz (q := 0) (As := [.int x1]) (st := []) C zy_X10_isBlade zv_X10_isBlade ml_X10_169 rcB_0 (by decide) (fun _ _ h => m_X10_isBlade h) rfl rfl (Nat.le_of_ble_eq_true rfl) dX10_undo_2 (fun v1 σ1 => ?_)
  refine z_if_ne (tgt := 11) C dX10_undo_5 (by decide) ?_ ?_
  · refine z_bipush (v := (-2)) C dX10_undo_8 (by decide) ?_
    exact z_iret C dX10_undo_10
  · refine z_aload_n C dX10_undo_11 0 rfl ?_
    refine z_iload_n C dX10_undo_12 1 rfl ?_
    refine z_bipush (v := 9) C dX10_undo_13 (by decide) ?_
    refine z_callVi (q := 0) (As := [.int x1, .int 9]) (st := []) C zy_X10_at zv_X10_at ml_X10_172 rcB_0 (by decide) (fun _ _ h => m_X10_at h) rfl rfl (Nat.le_of_ble_eq_true rfl) dX10_undo_15 (fun v2 σ2 => ?_)
    refine z_istore_n (lv1 := [(2, .int v2), (0, .ref (ga (kG K) 0)), (1, .int x1)]) C dX10_undo_18 (by decide) rfl ?_
    refine z_aload_n C dX10_undo_19 1 rfl ?_
    refine z_getR C fd_X10_32 dX10_undo_20 ?_
    refine z_bipush (v := 11) C dX10_undo_23 (by decide) ?_
    refine z_iload_n C dX10_undo_25 2 rfl ?_
    refine z_imul C dX10_undo_26 ?_
    refine z_bipush (v := 9) C dX10_undo_27 (by decide) ?_
    refine z_iadd C dX10_undo_29 ?_
    refine z_iconst (v := (-1)) C dX10_undo_30 (by decide) ?_
    refine z_iast C sB_6 dX10_undo_31 (fun σ3 => ?_)
    refine z_iload_n C dX10_undo_32 0 rfl ?_
    exact z_iret C dX10_undo_33
theorem m_X10_undo {l : Launch} {G : zG} {x1 : Int32} {σ σ1 : zS} {r : Int32} (h : f_X10_undo x1 σ = some (r, σ1)) : zM l G zshB yX10_undo cX10_undo 3 (some .int) 2 [.ref (ga G 0), .int x1] (zov (some .int) G r) σ σ1 :=
  z_met (by decide) (Nat.le_of_ble_eq_true rfl) h (fun K _ hG C => by subst hG; exact b_X10_undo K C x1 σ)
theorem b_X10_isReused (K : zK) (C : zOk zshB K RX10 cX10_isReused (some .boolean) 2 1) (x1 : Int32) (σ : zS) : Zf zshB K (f_X10_isReused x1 σ) 0 [(0, .ref (ga (kG K) 0)), (1, .int x1)] [] σ := by
  unfold f_X10_isReused
  refine z_aload_n C dX10_isReused_0 0 rfl ?_
  refine z_iload_n C dX10_isReused_1 1 rfl ?_
  refine z_bipush (v := 8) C dX10_isReused_2 (by decide) ?_
  refine z_callVi (q := 0) (As := [.int x1, .int 8]) (st := []) C zy_X10_at zv_X10_at ml_X10_172 rcB_0 (by decide) (fun _ _ h => m_X10_at h) rfl rfl (Nat.le_of_ble_eq_true rfl) dX10_isReused_4 (fun v1 σ1 => ?_)
  refine z_if_le (tgt := 14) C dX10_isReused_7 (by decide) ?_ ?_
  · refine z_iconst (v := 0) C dX10_isReused_14 (by decide) ?_
    exact z_zret C (by decide) dX10_isReused_15
  · refine z_iconst (v := 1) C dX10_isReused_10 (by decide) ?_
    refine z_goto (tgt := 15) C dX10_isReused_11 (by decide) ?_
    exact z_zret C (by decide) dX10_isReused_15
theorem m_X10_isReused {l : Launch} {G : zG} {x1 : Int32} {σ σ1 : zS} {r : Int32} (h : f_X10_isReused x1 σ = some (r, σ1)) : zM l G zshB yX10_isReused cX10_isReused 2 (some .boolean) 1 [.ref (ga G 0), .int x1] (zov (some .boolean) G r) σ σ1 :=
  z_met (by decide) (Nat.le_of_ble_eq_true rfl) h (fun K _ hG C => by subst hG; exact b_X10_isReused K C x1 σ)
