theorem b_X9_sea_L12 (K : zK) (C : zOk zshA K RX9 cX9_sea (some .int) 4 6) (x1 : Int32) : ∀ (n : Nat) (x2 : Int32) (x3 : Int32) (σ : zS), Zf zshA K (f_X9_sea_L12 x1 n x2 x3 σ) 12 [(0, .ref (ga (kG K) 0)), (1, .int x1), (2, .int x2), (3, .int x3)] [] σ := by
  intro n
  induction n with
  | zero => intro x2 x3 σ; rw [f_X9_sea_L12]; exact z_none
  | succ n ih =>
  intro x2 x3 σ
  rw [f_X9_sea_L12]
  refine z_iload_n C dX9_sea_12 3 rfl ?_
  refine z_aload_n C dX9_sea_13 0 rfl ?_
  refine z_getR C fd_X9_26 dX9_sea_14 ?_
  refine z_getI C fd_X9_152 dX9_sea_17 ?_
  refine z_icmp_ge (tgt := 51) C dX9_sea_20 (by decide) ?_ ?_
  · refine z_iload_n C dX9_sea_51 2 rfl ?_
    exact z_iret C dX9_sea_52
  · refine z_iload_n C dX9_sea_23 1 rfl ?_
    refine z_iload_n C dX9_sea_24 3 rfl ?_
    refine z_callSz (As := [.int x1, .int x3]) (st := []) C zy_X9_hasBit zs_X9_hasBit ml_X9_247 (by decide) (fun _ _ h => m_X9_hasBit h) rfl rfl (Nat.le_of_ble_eq_true rfl) dX9_sea_25 (fun v1 σ1 => ?_)
    refine z_if_eq (tgt := 45) C dX9_sea_28 (by decide) ?_ ?_
    · refine z_iinc (v := 1) (lv1 := [(3, .int (x3 + 1)), (0, .ref (ga (kG K) 0)), (1, .int x1), (2, .int x2)]) C dX9_sea_45 3 rfl (by decide) (by decide) rfl ?_
      refine z_goto (tgt := 12) C dX9_sea_48 (by decide) ?_
      exact z_sub [1, 2, 3, 0] rfl (ih x2 (x3 + 1) σ1)
    · refine z_iload_n C dX9_sea_31 2 rfl ?_
      refine z_aload_n C dX9_sea_32 0 rfl ?_
      refine z_getR C fd_X9_44 dX9_sea_33 ?_
      refine z_iconst (v := 5) C dX9_sea_36 (by decide) ?_
      refine z_iload_n C dX9_sea_37 3 rfl ?_
      refine z_callVi (q := 28) (As := [.int 5, .int x3]) (st := [.int x2]) C zy_X8_bound zv_X8_bound ml_X9_211 rcA_28 (by decide) (fun _ _ h => m_X8_bound h) rfl rfl (Nat.le_of_ble_eq_true rfl) dX9_sea_38 (fun v2 σ2 => ?_)
      refine z_callSi (As := [.int x2, .int v2]) (st := []) C zy_X9_lesser zs_X9_lesser ml_X9_250 (by decide) (fun _ _ h => m_X9_lesser h) rfl rfl (Nat.le_of_ble_eq_true rfl) dX9_sea_41 (fun v3 σ3 => ?_)
      refine z_istore_n (lv1 := [(2, .int v3), (0, .ref (ga (kG K) 0)), (1, .int x1), (3, .int x3)]) C dX9_sea_44 (by decide) rfl ?_
      refine z_iinc (v := 1) (lv1 := [(3, .int (x3 + 1)), (2, .int v3), (0, .ref (ga (kG K) 0)), (1, .int x1)]) C dX9_sea_45 3 rfl (by decide) (by decide) rfl ?_
      refine z_goto (tgt := 12) C dX9_sea_48 (by decide) ?_
      exact z_sub [2, 3, 1, 0] rfl (ih v3 (x3 + 1) σ3)
theorem b_X9_sea (K : zK) (C : zOk zshA K RX9 cX9_sea (some .int) 4 6) (σ : zS) : Zf zshA K (f_X9_sea σ) 0 [(0, .ref (ga (kG K) 0))] [] σ := by
  unfold f_X9_sea
  refine z_aload_n C dX9_sea_0 0 rfl ?_
  refine z_getR C fd_X9_62 dX9_sea_1 ?_
  refine z_callVi (q := 36) (As := []) (st := []) C zy_X4_comeByBoat zv_X4_comeByBoat ml_X9_244 rcA_36 (by decide) (fun _ _ h => m_X4_comeByBoat h) rfl rfl (Nat.le_of_ble_eq_true rfl) dX9_sea_4 (fun v1 σ1 => ?_)
  refine z_istore_n (lv1 := [(1, .int v1), (0, .ref (ga (kG K) 0))]) C dX9_sea_7 (by decide) rfl ?_
  refine z_iconst (v := (-1)) C dX9_sea_8 (by decide) ?_
  refine z_istore_n (lv1 := [(2, .int (-1)), (1, .int v1), (0, .ref (ga (kG K) 0))]) C dX9_sea_9 (by decide) rfl ?_
  refine z_iconst (v := 0) C dX9_sea_10 (by decide) ?_
  refine z_istore_n (lv1 := [(3, .int 0), (2, .int (-1)), (1, .int v1), (0, .ref (ga (kG K) 0))]) C dX9_sea_11 (by decide) rfl ?_
  exact z_sub [3, 2, 1, 0] rfl (b_X9_sea_L12 K C v1 zfu (-1) 0 σ1)
theorem m_X9_sea {l : Launch} {G : zG} {σ σ1 : zS} {r : Int32} (h : f_X9_sea σ = some (r, σ1)) : zM l G zshA yX9_sea cX9_sea 4 (some .int) 6 [.ref (ga G 0)] (zov (some .int) G r) σ σ1 :=
  z_met (by decide) (Nat.le_of_ble_eq_true rfl) h (fun K _ hG C => by subst hG; exact b_X9_sea K C σ)
theorem b_X2_nextToMeasure_J62 (K : zK) (C : zOk zshA K RX2 cX2_nextToMeasure (some .int) 7 3) (x4 : Int32) (x5 : Int32) (x6 : Int32) (k9 : Int32 → Int32 → Int32 → Int32 → zS → Option (Int32 × zS)) (hk9 : ∀ (x1 : Int32) (x2 : Int32) (x3 : Int32) (x4 : Int32) (σ : zS), Zf zshA K (k9 x1 x2 x3 x4 σ) 9 [(0, .ref (ga (kG K) 27)), (1, .int x1), (2, .int x2), (3, .int x3), (4, .int x4)] [] σ) (σ : zS) : Zf zshA K (f_X2_nextToMeasure_J62 k9 x4 x5 x6 σ) 62 [(0, .ref (ga (kG K) 27)), (4, .int x4), (5, .int x5), (6, .int x6)] [] σ := by
  unfold f_X2_nextToMeasure_J62
  refine z_iload C dX2_nextToMeasure_62 1 rfl ?_
  refine z_istore_n (lv1 := [(1, .int x4), (0, .ref (ga (kG K) 27)), (4, .int x4), (5, .int x5), (6, .int x6)]) C dX2_nextToMeasure_64 (by decide) rfl ?_
  refine z_iload C dX2_nextToMeasure_65 3 rfl ?_
  refine z_istore_n (lv1 := [(2, .int x5), (1, .int x4), (0, .ref (ga (kG K) 27)), (4, .int x4), (5, .int x5), (6, .int x6)]) C dX2_nextToMeasure_67 (by decide) rfl ?_
  refine z_iload C dX2_nextToMeasure_68 5 rfl ?_
  refine z_istore_n (lv1 := [(3, .int x6), (2, .int x5), (1, .int x4), (0, .ref (ga (kG K) 27)), (4, .int x4), (5, .int x5), (6, .int x6)]) C dX2_nextToMeasure_70 (by decide) rfl ?_
  refine z_iinc (v := 1) (lv1 := [(4, .int (x4 + 1)), (3, .int x6), (2, .int x5), (1, .int x4), (0, .ref (ga (kG K) 27)), (5, .int x5), (6, .int x6)]) C dX2_nextToMeasure_71 4 rfl (by decide) (by decide) rfl ?_
  refine z_goto (tgt := 9) C dX2_nextToMeasure_74 (by decide) ?_
  exact z_sub [4, 3, 2, 1, 0] rfl (hk9 x4 x5 x6 (x4 + 1) σ)
theorem b_X2_nextToMeasure_L9 (K : zK) (C : zOk zshA K RX2 cX2_nextToMeasure (some .int) 7 3) : ∀ (n : Nat) (x1 : Int32) (x2 : Int32) (x3 : Int32) (x4 : Int32) (σ : zS), Zf zshA K (f_X2_nextToMeasure_L9 n x1 x2 x3 x4 σ) 9 [(0, .ref (ga (kG K) 27)), (1, .int x1), (2, .int x2), (3, .int x3), (4, .int x4)] [] σ := by
  intro n
  induction n with
  | zero => intro x1 x2 x3 x4 σ; rw [f_X2_nextToMeasure_L9]; exact z_none
  | succ n ih =>
  intro x1 x2 x3 x4 σ
  rw [f_X2_nextToMeasure_L9]
  refine z_iload C dX2_nextToMeasure_9 4 rfl ?_
  refine z_aload_n C dX2_nextToMeasure_11 0 rfl ?_
  refine z_getR C fd_X2_15 dX2_nextToMeasure_12 ?_
  refine z_getI C fd_X2_81 dX2_nextToMeasure_15 ?_
  refine z_icmp_ge (tgt := 77) C dX2_nextToMeasure_18 (by decide) ?_ ?_
  · refine z_iload_n C dX2_nextToMeasure_77 1 rfl ?_
    exact z_iret C dX2_nextToMeasure_78
  · refine z_aload_n C dX2_nextToMeasure_21 0 rfl ?_
    refine z_iload C dX2_nextToMeasure_22 4 rfl ?_
    refine z_callVi (q := 27) (As := [.int x4]) (st := []) C zy_X2_canBeOf zv_X2_canBeOf ml_X2_60 rcA_27 (by decide) (fun _ _ h => m_X2_canBeOf h) rfl rfl (Nat.le_of_ble_eq_true rfl) dX2_nextToMeasure_24 (fun v1 σ1 => ?_)
    refine z_callSi (As := [.int v1]) (st := []) C zy_J6_bitCount_0f7a4 zs_J6_bitCount_0f7a4 ml_X2_63 (by decide) (fun _ _ h => m_J6_bitCount_0f7a4 h) rfl rfl (Nat.le_of_ble_eq_true rfl) dX2_nextToMeasure_27 (fun v2 σ2 => ?_)
    refine z_istore (lv1 := [(5, .int v2), (0, .ref (ga (kG K) 27)), (1, .int x1), (2, .int x2), (3, .int x3), (4, .int x4)]) C dX2_nextToMeasure_30 (by decide) rfl ?_
    refine z_aload_n C dX2_nextToMeasure_32 1 rfl ?_
    refine z_getR C fd_X2_15 dX2_nextToMeasure_33 ?_
    refine z_getR C fd_X2_40 dX2_nextToMeasure_36 ?_
    refine z_iload C dX2_nextToMeasure_39 5 rfl ?_
    refine z_iald C sA_20 dX2_nextToMeasure_41 (fun v3 => ?_)
    refine z_istore (lv1 := [(6, .int v3), (5, .int v2), (0, .ref (ga (kG K) 27)), (1, .int x1), (2, .int x2), (3, .int x3), (4, .int x4)]) C dX2_nextToMeasure_42 (by decide) rfl ?_
    refine z_iload C dX2_nextToMeasure_44 1 rfl ?_
    refine z_iload_n C dX2_nextToMeasure_46 4 rfl ?_
    refine z_icmp_gt (tgt := 62) C dX2_nextToMeasure_47 (by decide) ?_ ?_
    · exact z_sub [2, 6, 1, 0] rfl (b_X2_nextToMeasure_J62 K C x4 v2 v3 _ ih σ2)
    · refine z_iload C dX2_nextToMeasure_50 1 rfl ?_
      refine z_iload_n C dX2_nextToMeasure_52 4 rfl ?_
      refine z_icmp_ne (tgt := 71) C dX2_nextToMeasure_53 (by decide) ?_ ?_
      · refine z_iload C dX2_nextToMeasure_56 0 rfl ?_
        refine z_iload_n C dX2_nextToMeasure_58 5 rfl ?_
        refine z_icmp_le (tgt := 71) C dX2_nextToMeasure_59 (by decide) ?_ ?_
        · refine z_iinc (v := 1) (lv1 := [(4, .int (x4 + 1)), (6, .int v3), (5, .int v2), (0, .ref (ga (kG K) 27)), (1, .int x1), (2, .int x2), (3, .int x3)]) C dX2_nextToMeasure_71 6 rfl (by decide) (by decide) rfl ?_
          refine z_goto (tgt := 9) C dX2_nextToMeasure_74 (by decide) ?_
          exact z_sub [3, 4, 5, 6, 0] rfl (ih x1 x2 x3 (x4 + 1) σ2)
        · exact z_sub [2, 6, 1, 0] rfl (b_X2_nextToMeasure_J62 K C x4 v2 v3 _ ih σ2)
      · refine z_iinc (v := 1) (lv1 := [(4, .int (x4 + 1)), (6, .int v3), (5, .int v2), (0, .ref (ga (kG K) 27)), (1, .int x1), (2, .int x2), (3, .int x3)]) C dX2_nextToMeasure_71 6 rfl (by decide) (by decide) rfl ?_
        refine z_goto (tgt := 9) C dX2_nextToMeasure_74 (by decide) ?_
        exact z_sub [3, 4, 5, 6, 0] rfl (ih x1 x2 x3 (x4 + 1) σ2)
theorem b_X2_nextToMeasure (K : zK) (C : zOk zshA K RX2 cX2_nextToMeasure (some .int) 7 3) (σ : zS) : Zf zshA K (f_X2_nextToMeasure σ) 0 [(0, .ref (ga (kG K) 27))] [] σ := by
  unfold f_X2_nextToMeasure
  refine z_iconst (v := (-1)) C dX2_nextToMeasure_0 (by decide) ?_
  refine z_istore_n (lv1 := [(1, .int (-1)), (0, .ref (ga (kG K) 27))]) C dX2_nextToMeasure_1 (by decide) rfl ?_
  refine z_iconst (v := 2) C dX2_nextToMeasure_2 (by decide) ?_
  refine z_istore_n (lv1 := [(2, .int 2), (1, .int (-1)), (0, .ref (ga (kG K) 27))]) C dX2_nextToMeasure_3 (by decide) rfl ?_
  refine z_iconst (v := 0) C dX2_nextToMeasure_4 (by decide) ?_
  refine z_istore_n (lv1 := [(3, .int 0), (2, .int 2), (1, .int (-1)), (0, .ref (ga (kG K) 27))]) C dX2_nextToMeasure_5 (by decide) rfl ?_
  refine z_iconst (v := 0) C dX2_nextToMeasure_6 (by decide) ?_
  refine z_istore (lv1 := [(4, .int 0), (3, .int 0), (2, .int 2), (1, .int (-1)), (0, .ref (ga (kG K) 27))]) C dX2_nextToMeasure_7 (by decide) rfl ?_
  exact z_sub [4, 3, 2, 1, 0] rfl (b_X2_nextToMeasure_L9 K C zfu (-1) 2 0 0 σ)
theorem m_X2_nextToMeasure {l : Launch} {G : zG} {σ σ1 : zS} {r : Int32} (h : f_X2_nextToMeasure σ = some (r, σ1)) : zM l G zshA yX2_nextToMeasure cX2_nextToMeasure 7 (some .int) 3 [.ref (ga G 27)] (zov (some .int) G r) σ σ1 :=
  z_met (by decide) (Nat.le_of_ble_eq_true rfl) h (fun K _ hG C => by subst hG; exact b_X2_nextToMeasure K C σ)
theorem b_X9_next (K : zK) (C : zOk zshA K RX9 cX9_next (some .int) 1 4) (σ : zS) : Zf zshA K (f_X9_next σ) 0 [(0, .ref (ga (kG K) 0))] [] σ := by
  unfold f_X9_next
  refine z_aload_n C dX9_next_0 0 rfl ?_
  refine z_getR C fd_X9_35 dX9_next_1 ?_
  refine z_callVi (q := 27) (As := []) (st := []) C zy_X2_nextToMeasure zv_X2_nextToMeasure ml_X9_253 rcA_27 (by decide) (fun _ _ h => m_X2_nextToMeasure h) rfl rfl (Nat.le_of_ble_eq_true rfl) dX9_next_4 (fun v1 σ1 => ?_)
  exact z_iret C dX9_next_7
theorem m_X9_next {l : Launch} {G : zG} {σ σ1 : zS} {r : Int32} (h : f_X9_next σ = some (r, σ1)) : zM l G zshA yX9_next cX9_next 1 (some .int) 4 [.ref (ga G 0)] (zov (some .int) G r) σ σ1 :=
  z_met (by decide) (Nat.le_of_ble_eq_true rfl) h (fun K _ hG C => by subst hG; exact b_X9_next K C σ)
theorem b_X6_setCounts (K : zK) (C : zOk zshA K RX6 cX6_setCounts none 5 0) (x1 : Int32) (x2 : Int32) (x3 : Int32) (x4 : Int32) (σ : zS) : Zf zshA K (f_X6_setCounts x1 x2 x3 x4 σ) 0 [(0, .ref (ga (kG K) 38)), (1, .int x1), (2, .int x2), (3, .int x3), (4, .int x4)] [] σ := by
  unfold f_X6_setCounts
  refine z_aload_n C dX6_setCounts_0 0 rfl ?_
  refine z_getR C fd_X6_19 dX6_setCounts_1 ?_
  refine z_iload_n C dX6_setCounts_4 1 rfl ?_
  refine z_bipush (v := 9) C dX6_setCounts_5 (by decide) ?_
  refine z_imul C dX6_setCounts_7 ?_
  refine z_iload_n C dX6_setCounts_8 2 rfl ?_
  refine z_iadd C dX6_setCounts_9 ?_
  refine z_iload_n C dX6_setCounts_10 3 rfl ?_
  refine z_iast C sA_39 dX6_setCounts_11 (fun σ1 => ?_)
  refine z_aload_n C dX6_setCounts_12 0 rfl ?_
  refine z_getR C fd_X6_23 dX6_setCounts_13 ?_
  refine z_iload_n C dX6_setCounts_16 1 rfl ?_
  refine z_bipush (v := 9) C dX6_setCounts_17 (by decide) ?_
  refine z_imul C dX6_setCounts_19 ?_
  refine z_iload_n C dX6_setCounts_20 2 rfl ?_
  refine z_iadd C dX6_setCounts_21 ?_
  refine z_iload C dX6_setCounts_22 4 rfl ?_
  refine z_iast C sA_40 dX6_setCounts_24 (fun σ2 => ?_)
  exact z_vret C dX6_setCounts_25
theorem m_X6_setCounts {l : Launch} {G : zG} {x1 : Int32} {x2 : Int32} {x3 : Int32} {x4 : Int32} {σ σ1 : zS} {r : Int32} (h : f_X6_setCounts x1 x2 x3 x4 σ = some (r, σ1)) : zM l G zshA yX6_setCounts cX6_setCounts 5 none 0 [.ref (ga G 38), .int x1, .int x2, .int x3, .int x4] (zov none G r) σ σ1 :=
  z_met (by decide) (Nat.le_of_ble_eq_true rfl) h (fun K _ hG C => by subst hG; exact b_X6_setCounts K C x1 x2 x3 x4 σ)
theorem b_X9_counts (K : zK) (C : zOk zshA K RX9 cX9_counts (some .int) 5 2) (x1 : Int32) (x2 : Int32) (x3 : Int32) (x4 : Int32) (σ : zS) : Zf zshA K (f_X9_counts x1 x2 x3 x4 σ) 0 [(0, .ref (ga (kG K) 0)), (1, .int x1), (2, .int x2), (3, .int x3), (4, .int x4)] [] σ := by
  unfold f_X9_counts
  refine z_iload_n C dX9_counts_0 1 rfl ?_
  refine z_callSz (As := [.int x1]) (st := []) C zy_X9_isPlace zs_X9_isPlace ml_X9_115 (by decide) (fun _ _ h => m_X9_isPlace h) rfl rfl (Nat.le_of_ble_eq_true rfl) dX9_counts_1 (fun v1 σ1 => ?_)
  refine z_if_eq (tgt := 18) C dX9_counts_4 (by decide) ?_ ?_
  · refine z_bipush (v := (-2)) C dX9_counts_18 (by decide) ?_
    exact z_iret C dX9_counts_20
  · refine z_aload_n C dX9_counts_7 0 rfl ?_
    refine z_getR C fd_X9_19 dX9_counts_8 ?_
    refine z_iload_n C dX9_counts_11 2 rfl ?_
    refine z_callVz (q := 4) (As := [.int x2]) (st := []) C zy_X3_isTold zv_X3_isTold ml_X9_127 rcA_4 (by decide) (fun _ _ h => m_X3_isTold h) rfl rfl (Nat.le_of_ble_eq_true rfl) dX9_counts_12 (fun v2 σ2 => ?_)
    refine z_if_ne (tgt := 21) C dX9_counts_15 (by decide) ?_ ?_
    · refine z_bipush (v := (-2)) C dX9_counts_18 (by decide) ?_
      exact z_iret C dX9_counts_20
    · refine z_iload C dX9_counts_21 4 rfl ?_
      refine z_iconst (v := 1) C dX9_counts_23 (by decide) ?_
      refine z_sipush (v := 999) C dX9_counts_24 (by decide) ?_
      refine z_callSz (As := [.int x4, .int 1, .int 999]) (st := []) C zy_X9_isWithin zs_X9_isWithin ml_X9_84 (by decide) (fun _ _ h => m_X9_isWithin h) rfl rfl (Nat.le_of_ble_eq_true rfl) dX9_counts_27 (fun v3 σ3 => ?_)
      refine z_if_eq (tgt := 43) C dX9_counts_30 (by decide) ?_ ?_
      · refine z_bipush (v := (-3)) C dX9_counts_43 (by decide) ?_
        exact z_iret C dX9_counts_45
      · refine z_iload_n C dX9_counts_33 3 rfl ?_
        refine z_iconst (v := 0) C dX9_counts_34 (by decide) ?_
        refine z_iload C dX9_counts_35 4 rfl ?_
        refine z_callSz (As := [.int x3, .int 0, .int x4]) (st := []) C zy_X9_isWithin zs_X9_isWithin ml_X9_84 (by decide) (fun _ _ h => m_X9_isWithin h) rfl rfl (Nat.le_of_ble_eq_true rfl) dX9_counts_37 (fun v4 σ4 => ?_)
        refine z_if_ne (tgt := 46) C dX9_counts_40 (by decide) ?_ ?_
        · refine z_bipush (v := (-3)) C dX9_counts_43 (by decide) ?_
          exact z_iret C dX9_counts_45
        · refine z_aload_n C dX9_counts_46 0 rfl ?_
          refine z_getR C fd_X9_71 dX9_counts_47 ?_
          refine z_iload_n C dX9_counts_50 1 rfl ?_
          refine z_iload_n C dX9_counts_51 2 rfl ?_
          refine z_iload_n C dX9_counts_52 3 rfl ?_
          refine z_iload C dX9_counts_53 4 rfl ?_
          refine z_callVv (q := 38) (As := [.int x1, .int x2, .int x3, .int x4]) (st := []) C zy_X6_setCounts zv_X6_setCounts ml_X9_256 rcA_38 (by decide) (fun _ _ h => m_X6_setCounts h) rfl rfl (Nat.le_of_ble_eq_true rfl) dX9_counts_55 (fun _ σ5 => ?_)
          refine z_iconst (v := 1) C dX9_counts_58 (by decide) ?_
          exact z_iret C dX9_counts_59
theorem m_X9_counts {l : Launch} {G : zG} {x1 : Int32} {x2 : Int32} {x3 : Int32} {x4 : Int32} {σ σ1 : zS} {r : Int32} (h : f_X9_counts x1 x2 x3 x4 σ = some (r, σ1)) : zM l G zshA yX9_counts cX9_counts 5 (some .int) 2 [.ref (ga G 0), .int x1, .int x2, .int x3, .int x4] (zov (some .int) G r) σ σ1 :=
  z_met (by decide) (Nat.le_of_ble_eq_true rfl) h (fun K _ hG C => by subst hG; exact b_X9_counts K C x1 x2 x3 x4 σ)
theorem b_X6_gather_L27 (K : zK) (C : zOk zshA K RX6 cX6_gather none 4 4) (x1 : Int32) : ∀ (n : Nat) (x2 : Int32) (σ : zS), Zf zshA K (f_X6_gather_L27 x1 n x2 σ) 27 [(0, .ref (ga (kG K) 38)), (1, .int x1), (2, .int x2)] [] σ := by
  intro n
  induction n with
  | zero => intro x2 σ; rw [f_X6_gather_L27]; exact z_none
  | succ n ih =>
  intro x2 σ
  rw [f_X6_gather_L27]
  refine z_iload_n C dX6_gather_27 2 rfl ?_
  refine z_bipush (v := 10) C dX6_gather_28 (by decide) ?_
  refine z_icmp_ge (tgt := 124) C dX6_gather_30 (by decide) ?_ ?_
  · exact z_vret C dX6_gather_124
  · refine z_iload_n C dX6_gather_33 2 rfl ?_
    refine z_bipush (v := 9) C dX6_gather_34 (by decide) ?_
    refine z_imul C dX6_gather_36 ?_
    refine z_iload_n C dX6_gather_37 1 rfl ?_
    refine z_iadd C dX6_gather_38 ?_
    refine z_istore_n (lv1 := [(3, .int ((x2 * 9) + x1)), (0, .ref (ga (kG K) 38)), (1, .int x1), (2, .int x2)]) C dX6_gather_39 (by decide) rfl ?_
    refine z_aload_n C dX6_gather_40 1 rfl ?_
    refine z_getR C fd_X6_23 dX6_gather_41 ?_
    refine z_iload_n C dX6_gather_44 0 rfl ?_
    refine z_iald C sA_40 dX6_gather_45 (fun v1 => ?_)
    refine z_if_le (tgt := 118) C dX6_gather_46 (by decide) ?_ ?_
    · refine z_iinc (v := 1) (lv1 := [(2, .int (x2 + 1)), (3, .int ((x2 * 9) + x1)), (0, .ref (ga (kG K) 38)), (1, .int x1)]) C dX6_gather_118 3 rfl (by decide) (by decide) rfl ?_
      refine z_goto (tgt := 27) C dX6_gather_121 (by decide) ?_
      exact z_sub [2, 3, 0] rfl (ih (x2 + 1) σ)
    · refine z_aload_n C dX6_gather_49 1 rfl ?_
      refine z_getR C fd_X6_15 dX6_gather_50 ?_
      refine z_getR C fd_X6_47 dX6_gather_53 ?_
      refine z_iload_n C dX6_gather_56 3 rfl ?_
      refine z_iald C sA_37 dX6_gather_57 (fun v2 => ?_)
      refine z_iconst (v := (-1)) C dX6_gather_58 (by decide) ?_
      refine z_icmp_eq (tgt := 118) C dX6_gather_59 (by decide) ?_ ?_
      · refine z_iinc (v := 1) (lv1 := [(2, .int (x2 + 1)), (3, .int ((x2 * 9) + x1)), (0, .ref (ga (kG K) 38)), (1, .int x1)]) C dX6_gather_118 3 rfl (by decide) (by decide) rfl ?_
        refine z_goto (tgt := 27) C dX6_gather_121 (by decide) ?_
        exact z_sub [2, 3, 0] rfl (ih (x2 + 1) σ)
      · refine z_aload_n C dX6_gather_62 1 rfl ?_
        refine z_getR C fd_X6_26 dX6_gather_63 ?_
        refine z_aload_n C dX6_gather_66 1 rfl ?_
        refine z_getI C fd_X6_43 dX6_gather_67 ?_
        refine z_sipush (v := 1000) C dX6_gather_70 (by decide) ?_
        refine z_aload_n C dX6_gather_73 1 rfl ?_
        refine z_getR C fd_X6_19 dX6_gather_74 ?_
        refine z_iload_n C dX6_gather_77 0 rfl ?_
        refine z_iald C sA_39 dX6_gather_78 (fun v3 => ?_)
        refine z_imul C dX6_gather_79 ?_
        refine z_aload_n C dX6_gather_80 1 rfl ?_
        refine z_getR C fd_X6_23 dX6_gather_81 ?_
        refine z_iload_n C dX6_gather_84 0 rfl ?_
        refine z_iald C sA_40 dX6_gather_85 (fun v4 => ?_)
        refine z_callNi (As := [.int (1000 * v3), .int v4]) (st := [.int (σ 38 6), .ref (ga (kG K) 41)]) C zy_X9_cut zs_X9_cut mn_X6_50 (by decide) (fun _ _ h => m_X9_cut h) rfl rfl (Nat.le_of_ble_eq_true rfl) dX6_gather_86 (fun v5 σ5 => ?_)
        refine z_iast C sA_41 dX6_gather_89 (fun σ6 => ?_)
        refine z_aload_n C dX6_gather_90 1 rfl ?_
        refine z_getR C fd_X6_29 dX6_gather_91 ?_
        refine z_aload_n C dX6_gather_94 1 rfl ?_
        refine z_getI C fd_X6_43 dX6_gather_95 ?_
        refine z_aload_n C dX6_gather_98 1 rfl ?_
        refine z_getR C fd_X6_15 dX6_gather_99 ?_
        refine z_getR C fd_X6_47 dX6_gather_102 ?_
        refine z_iload_n C dX6_gather_105 3 rfl ?_
        refine z_iald C sA_37 dX6_gather_106 (fun v7 => ?_)
        refine z_iast C sA_42 dX6_gather_107 (fun σ8 => ?_)
        refine z_aload_n C dX6_gather_108 1 rfl ?_
        refine z_dup C dX6_gather_109 rfl ?_
        refine z_getI C fd_X6_43 dX6_gather_110 ?_
        refine z_iconst (v := 1) C dX6_gather_113 (by decide) ?_
        refine z_iadd C dX6_gather_114 ?_
        refine z_putI C fd_X6_43 fwA_38_6 (lgA 38) (by decide) dX6_gather_115 (fun σ9 => ?_)
        refine z_iinc (v := 1) (lv1 := [(2, .int (x2 + 1)), (3, .int ((x2 * 9) + x1)), (0, .ref (ga (kG K) 38)), (1, .int x1)]) C dX6_gather_118 3 rfl (by decide) (by decide) rfl ?_
        refine z_goto (tgt := 27) C dX6_gather_121 (by decide) ?_
        exact z_sub [2, 3, 0] rfl (ih (x2 + 1) σ9)
theorem b_X6_gather (K : zK) (C : zOk zshA K RX6 cX6_gather none 4 4) (x1 : Int32) (σ : zS) : Zf zshA K (f_X6_gather x1 σ) 0 [(0, .ref (ga (kG K) 38)), (1, .int x1)] [] σ := by
  unfold f_X6_gather
  refine z_aload_n C dX6_gather_0 0 rfl ?_
  refine z_getR C fd_X6_15 dX6_gather_1 ?_
  refine z_aload_n C dX6_gather_4 0 rfl ?_
  refine z_getR C fd_X6_9 dX6_gather_5 ?_
  refine z_getR C fd_X6_32 dX6_gather_8 ?_
  refine z_iload_n C dX6_gather_11 1 rfl ?_
  refine z_iald C sA_9 dX6_gather_12 (fun v1 => ?_)
  refine z_sipush (v := 1023) C dX6_gather_13 (by decide) ?_
  refine z_iconst (v := 1) C dX6_gather_16 (by decide) ?_
  refine z_callVv (q := 36) (As := [.int v1, .int 1023, .int 1]) (st := []) C zy_X4_measureMiles zv_X4_measureMiles ml_X6_37 rcA_36 (by decide) (fun _ _ h => m_X4_measureMiles h) rfl rfl (Nat.le_of_ble_eq_true rfl) dX6_gather_17 (fun _ σ2 => ?_)
  refine z_aload_n C dX6_gather_20 0 rfl ?_
  refine z_iconst (v := 0) C dX6_gather_21 (by decide) ?_
  refine z_putI C fd_X6_43 fwA_38_6 (lgA 38) (by decide) dX6_gather_22 (fun σ3 => ?_)
  refine z_iconst (v := 0) C dX6_gather_25 (by decide) ?_
  refine z_istore_n (lv1 := [(2, .int 0), (0, .ref (ga (kG K) 38)), (1, .int x1)]) C dX6_gather_26 (by decide) rfl ?_
  exact z_sub [1, 2, 0] rfl (b_X6_gather_L27 K C x1 zfu 0 σ3)
theorem m_X6_gather {l : Launch} {G : zG} {x1 : Int32} {σ σ1 : zS} {r : Int32} (h : f_X6_gather x1 σ = some (r, σ1)) : zM l G zshA yX6_gather cX6_gather 4 none 4 [.ref (ga G 38), .int x1] (zov none G r) σ σ1 :=
  z_met (by decide) (Nat.le_of_ble_eq_true rfl) h (fun K _ hG C => by subst hG; exact b_X6_gather K C x1 σ)
theorem b_X6_shareByLaw (K : zK) (C : zOk zshA K RX6 cX6_shareByLaw (some .int) 3 1) (x0 : Int32) (x1 : Int32) (x2 : Int32) (σ : zS) : Zf zshA K (f_X6_shareByLaw x0 x1 x2 σ) 0 [(0, .int x0), (1, .int x1), (2, .int x2)] [] σ := by
  unfold f_X6_shareByLaw
  refine z_iload_n C dX6_shareByLaw_0 0 rfl ?_
  refine z_if_ne (tgt := 22) C dX6_shareByLaw_1 (by decide) ?_ ?_
  · refine z_sipush (v := 1000) C dX6_shareByLaw_4 (by decide) ?_
    refine z_iload_n C dX6_shareByLaw_7 2 rfl ?_
    refine z_bipush (v := 10) C dX6_shareByLaw_8 (by decide) ?_
    refine z_iload_n C dX6_shareByLaw_10 1 rfl ?_
    refine z_imul C dX6_shareByLaw_11 ?_
    refine z_callNi (As := [.int x2, .int (10 * x1)]) (st := [.int 1000]) C zy_X9_cut zs_X9_cut mn_X6_50 (by decide) (fun _ _ h => m_X9_cut h) rfl rfl (Nat.le_of_ble_eq_true rfl) dX6_shareByLaw_12 (fun v1 σ1 => ?_)
    refine z_bipush (v := 10) C dX6_shareByLaw_15 (by decide) ?_
    refine z_mmin C ml_X6_64 zma_min_s zma_i zma_min_c (by decide) (Nat.le_of_ble_eq_true rfl) dX6_shareByLaw_17 ?_
    refine z_ishr C dX6_shareByLaw_20 ?_
    exact z_iret C dX6_shareByLaw_21
  · refine z_iload_n C dX6_shareByLaw_22 0 rfl ?_
    refine z_iconst (v := 1) C dX6_shareByLaw_23 (by decide) ?_
    refine z_icmp_ne (tgt := 42) C dX6_shareByLaw_24 (by decide) ?_ ?_
    · refine z_iconst (v := 0) C dX6_shareByLaw_27 (by decide) ?_
      refine z_sipush (v := 1000) C dX6_shareByLaw_28 (by decide) ?_
      refine z_iload_n C dX6_shareByLaw_31 1 rfl ?_
      refine z_iload_n C dX6_shareByLaw_32 2 rfl ?_
      refine z_imul C dX6_shareByLaw_33 ?_
      refine z_bipush (v := 10) C dX6_shareByLaw_34 (by decide) ?_
      refine z_idiv C dX6_shareByLaw_36 (fun v1 => ?_)
      refine z_isub C dX6_shareByLaw_37 ?_
      refine z_mmax C ml_X6_67 zma_max_s zma_i zma_max_c (by decide) (Nat.le_of_ble_eq_true rfl) dX6_shareByLaw_38 ?_
      exact z_iret C dX6_shareByLaw_41
    · refine z_iload_n C dX6_shareByLaw_42 2 rfl ?_
      refine z_bipush (v := 10) C dX6_shareByLaw_43 (by decide) ?_
      refine z_iload_n C dX6_shareByLaw_45 1 rfl ?_
      refine z_imul C dX6_shareByLaw_46 ?_
      refine z_icmp_gt (tgt := 56) C dX6_shareByLaw_47 (by decide) ?_ ?_
      · refine z_bipush (v := 100) C dX6_shareByLaw_56 (by decide) ?_
        exact z_iret C dX6_shareByLaw_58
      · refine z_sipush (v := 900) C dX6_shareByLaw_50 (by decide) ?_
        refine z_goto (tgt := 58) C dX6_shareByLaw_53 (by decide) ?_
        exact z_iret C dX6_shareByLaw_58
theorem m_X6_shareByLaw {l : Launch} {G : zG} {x0 : Int32} {x1 : Int32} {x2 : Int32} {σ σ1 : zS} {r : Int32} (h : f_X6_shareByLaw x0 x1 x2 σ = some (r, σ1)) : zM l G zshA yX6_shareByLaw cX6_shareByLaw 3 (some .int) 1 [.int x0, .int x1, .int x2] (zov (some .int) G r) σ σ1 :=
  z_met (by decide) (Nat.le_of_ble_eq_true rfl) h (fun K _ hG C => by subst hG; exact b_X6_shareByLaw K C x0 x1 x2 σ)
theorem b_X6_missOf_L5 (K : zK) (C : zOk zshA K RX6 cX6_missOf (some .int) 5 2) (x1 : Int32) (x2 : Int32) : ∀ (n : Nat) (x3 : Int32) (x4 : Int32) (σ : zS), Zf zshA K (f_X6_missOf_L5 x1 x2 n x3 x4 σ) 5 [(0, .ref (ga (kG K) 38)), (1, .int x1), (2, .int x2), (3, .int x3), (4, .int x4)] [] σ := by
  intro n
  induction n with
  | zero => intro x3 x4 σ; rw [f_X6_missOf_L5]; exact z_none
  | succ n ih =>
  intro x3 x4 σ
  rw [f_X6_missOf_L5]
  refine z_iload C dX6_missOf_5 4 rfl ?_
  refine z_aload_n C dX6_missOf_7 0 rfl ?_
  refine z_getI C fd_X6_43 dX6_missOf_8 ?_
  refine z_icmp_ge (tgt := 46) C dX6_missOf_11 (by decide) ?_ ?_
  · refine z_iload_n C dX6_missOf_46 3 rfl ?_
    exact z_iret C dX6_missOf_47
  · refine z_iload_n C dX6_missOf_14 3 rfl ?_
    refine z_aload_n C dX6_missOf_15 0 rfl ?_
    refine z_getR C fd_X6_26 dX6_missOf_16 ?_
    refine z_iload C dX6_missOf_19 4 rfl ?_
    refine z_iald C sA_41 dX6_missOf_21 (fun v1 => ?_)
    refine z_iload_n C dX6_missOf_22 1 rfl ?_
    refine z_iload_n C dX6_missOf_23 2 rfl ?_
    refine z_aload_n C dX6_missOf_24 0 rfl ?_
    refine z_getR C fd_X6_29 dX6_missOf_25 ?_
    refine z_iload C dX6_missOf_28 4 rfl ?_
    refine z_iald C sA_42 dX6_missOf_30 (fun v2 => ?_)
    refine z_callSi (As := [.int x1, .int x2, .int v2]) (st := [.int v1, .int x3]) C zy_X6_shareByLaw zs_X6_shareByLaw ml_X6_54 (by decide) (fun _ _ h => m_X6_shareByLaw h) rfl rfl (Nat.le_of_ble_eq_true rfl) dX6_missOf_31 (fun v3 σ3 => ?_)
    refine z_isub C dX6_missOf_34 ?_
    refine z_mabs C ml_X6_58 zma_abs_s zma_i zma_abs_c (by decide) (Nat.le_of_ble_eq_true rfl) dX6_missOf_35 ?_
    refine z_iadd C dX6_missOf_38 ?_
    refine z_istore_n (lv1 := [(3, .int (x3 + (zabs (v1 - v3)))), (0, .ref (ga (kG K) 38)), (1, .int x1), (2, .int x2), (4, .int x4)]) C dX6_missOf_39 (by decide) rfl ?_
    refine z_iinc (v := 1) (lv1 := [(4, .int (x4 + 1)), (3, .int (x3 + (zabs (v1 - v3)))), (0, .ref (ga (kG K) 38)), (1, .int x1), (2, .int x2)]) C dX6_missOf_40 4 rfl (by decide) (by decide) rfl ?_
    refine z_goto (tgt := 5) C dX6_missOf_43 (by decide) ?_
    exact z_sub [2, 3, 4, 1, 0] rfl (ih (x3 + (zabs (v1 - v3))) (x4 + 1) σ3)
theorem b_X6_missOf (K : zK) (C : zOk zshA K RX6 cX6_missOf (some .int) 5 2) (x1 : Int32) (x2 : Int32) (σ : zS) : Zf zshA K (f_X6_missOf x1 x2 σ) 0 [(0, .ref (ga (kG K) 38)), (1, .int x1), (2, .int x2)] [] σ := by
  unfold f_X6_missOf
  refine z_iconst (v := 0) C dX6_missOf_0 (by decide) ?_
  refine z_istore_n (lv1 := [(3, .int 0), (0, .ref (ga (kG K) 38)), (1, .int x1), (2, .int x2)]) C dX6_missOf_1 (by decide) rfl ?_
  refine z_iconst (v := 0) C dX6_missOf_2 (by decide) ?_
  refine z_istore (lv1 := [(4, .int 0), (3, .int 0), (0, .ref (ga (kG K) 38)), (1, .int x1), (2, .int x2)]) C dX6_missOf_3 (by decide) rfl ?_
  exact z_sub [2, 3, 4, 1, 0] rfl (b_X6_missOf_L5 K C x1 x2 zfu 0 0 σ)
theorem m_X6_missOf {l : Launch} {G : zG} {x1 : Int32} {x2 : Int32} {σ σ1 : zS} {r : Int32} (h : f_X6_missOf x1 x2 σ = some (r, σ1)) : zM l G zshA yX6_missOf cX6_missOf 5 (some .int) 2 [.ref (ga G 38), .int x1, .int x2] (zov (some .int) G r) σ σ1 :=
  z_met (by decide) (Nat.le_of_ble_eq_true rfl) h (fun K _ hG C => by subst hG; exact b_X6_missOf K C x1 x2 σ)
theorem b_X9_miss (K : zK) (C : zOk zshA K RX9 cX9_miss (some .int) 4 5) (x1 : Int32) (x2 : Int32) (x3 : Int32) (σ : zS) : Zf zshA K (f_X9_miss x1 x2 x3 σ) 0 [(0, .ref (ga (kG K) 0)), (1, .int x1), (2, .int x2), (3, .int x3)] [] σ := by
  unfold f_X9_miss
  refine z_aload_n C dX9_miss_0 0 rfl ?_
  refine z_getR C fd_X9_19 dX9_miss_1 ?_
  refine z_iload_n C dX9_miss_4 1 rfl ?_
  refine z_callVz (q := 4) (As := [.int x1]) (st := []) C zy_X3_isTold zv_X3_isTold ml_X9_127 rcA_4 (by decide) (fun _ _ h => m_X3_isTold h) rfl rfl (Nat.le_of_ble_eq_true rfl) dX9_miss_5 (fun v1 σ1 => ?_)
  refine z_if_ne (tgt := 14) C dX9_miss_8 (by decide) ?_ ?_
  · refine z_bipush (v := (-2)) C dX9_miss_11 (by decide) ?_
    exact z_iret C dX9_miss_13
  · refine z_iload_n C dX9_miss_14 2 rfl ?_
    refine z_iconst (v := 0) C dX9_miss_15 (by decide) ?_
    refine z_iconst (v := 2) C dX9_miss_16 (by decide) ?_
    refine z_callSz (As := [.int x2, .int 0, .int 2]) (st := []) C zy_X9_isWithin zs_X9_isWithin ml_X9_84 (by decide) (fun _ _ h => m_X9_isWithin h) rfl rfl (Nat.le_of_ble_eq_true rfl) dX9_miss_17 (fun v2 σ2 => ?_)
    refine z_if_eq (tgt := 33) C dX9_miss_20 (by decide) ?_ ?_
    · refine z_bipush (v := (-3)) C dX9_miss_33 (by decide) ?_
      exact z_iret C dX9_miss_35
    · refine z_iload_n C dX9_miss_23 3 rfl ?_
      refine z_iconst (v := 1) C dX9_miss_24 (by decide) ?_
      refine z_bipush (v := 99) C dX9_miss_25 (by decide) ?_
      refine z_callSz (As := [.int x3, .int 1, .int 99]) (st := []) C zy_X9_isWithin zs_X9_isWithin ml_X9_84 (by decide) (fun _ _ h => m_X9_isWithin h) rfl rfl (Nat.le_of_ble_eq_true rfl) dX9_miss_27 (fun v3 σ3 => ?_)
      refine z_if_ne (tgt := 36) C dX9_miss_30 (by decide) ?_ ?_
      · refine z_bipush (v := (-3)) C dX9_miss_33 (by decide) ?_
        exact z_iret C dX9_miss_35
      · refine z_aload_n C dX9_miss_36 0 rfl ?_
        refine z_getR C fd_X9_71 dX9_miss_37 ?_
        refine z_iload_n C dX9_miss_40 1 rfl ?_
        refine z_callVv (q := 38) (As := [.int x1]) (st := []) C zy_X6_gather zv_X6_gather ml_X9_260 rcA_38 (by decide) (fun _ _ h => m_X6_gather h) rfl rfl (Nat.le_of_ble_eq_true rfl) dX9_miss_41 (fun _ σ4 => ?_)
        refine z_aload_n C dX9_miss_44 0 rfl ?_
        refine z_getR C fd_X9_71 dX9_miss_45 ?_
        refine z_iload_n C dX9_miss_48 2 rfl ?_
        refine z_iload_n C dX9_miss_49 3 rfl ?_
        refine z_callVi (q := 38) (As := [.int x2, .int x3]) (st := []) C zy_X6_missOf zv_X6_missOf ml_X9_264 rcA_38 (by decide) (fun _ _ h => m_X6_missOf h) rfl rfl (Nat.le_of_ble_eq_true rfl) dX9_miss_50 (fun v5 σ5 => ?_)
        exact z_iret C dX9_miss_53
theorem m_X9_miss {l : Launch} {G : zG} {x1 : Int32} {x2 : Int32} {x3 : Int32} {σ σ1 : zS} {r : Int32} (h : f_X9_miss x1 x2 x3 σ = some (r, σ1)) : zM l G zshA yX9_miss cX9_miss 4 (some .int) 5 [.ref (ga G 0), .int x1, .int x2, .int x3] (zov (some .int) G r) σ σ1 :=
  z_met (by decide) (Nat.le_of_ble_eq_true rfl) h (fun K _ hG C => by subst hG; exact b_X9_miss K C x1 x2 x3 σ)
theorem b_X6_best_J44 (K : zK) (C : zOk zshA K RX6 cX6_best (some .int) 7 3) (x1 : Int32) (x4 : Int32) (x5 : Int32) (x6 : Int32) (k16 : Int32 → Int32 → Int32 → zS → Option (Int32 × zS)) (hk16 : ∀ (x2 : Int32) (x3 : Int32) (x5 : Int32) (σ : zS), Zf zshA K (k16 x2 x3 x5 σ) 16 [(0, .ref (ga (kG K) 38)), (1, .int x1), (2, .int x2), (3, .int x3), (4, .int x4), (5, .int x5)] [] σ) (σ : zS) : Zf zshA K (f_X6_best_J44 k16 x1 x4 x5 x6 σ) 44 [(0, .ref (ga (kG K) 38)), (1, .int x1), (4, .int x4), (5, .int x5), (6, .int x6)] [] σ := by
  unfold f_X6_best_J44
  refine z_iload C dX6_best_44 4 rfl ?_
  refine z_istore_n (lv1 := [(3, .int x6), (0, .ref (ga (kG K) 38)), (1, .int x1), (4, .int x4), (5, .int x5), (6, .int x6)]) C dX6_best_46 (by decide) rfl ?_
  refine z_bipush (v := 100) C dX6_best_47 (by decide) ?_
  refine z_iload C dX6_best_49 3 rfl ?_
  refine z_imul C dX6_best_51 ?_
  refine z_iload C dX6_best_52 4 rfl ?_
  refine z_iadd C dX6_best_54 ?_
  refine z_istore_n (lv1 := [(2, .int ((100 * x4) + x5)), (3, .int x6), (0, .ref (ga (kG K) 38)), (1, .int x1), (4, .int x4), (5, .int x5), (6, .int x6)]) C dX6_best_55 (by decide) rfl ?_
  refine z_iinc (v := 1) (lv1 := [(5, .int (x5 + 1)), (2, .int ((100 * x4) + x5)), (3, .int x6), (0, .ref (ga (kG K) 38)), (1, .int x1), (4, .int x4), (6, .int x6)]) C dX6_best_56 5 rfl (by decide) (by decide) rfl ?_
  refine z_goto (tgt := 16) C dX6_best_59 (by decide) ?_
  exact z_sub [3, 4, 1, 2, 5, 0] rfl (hk16 ((100 * x4) + x5) x6 (x5 + 1) σ)
theorem b_X6_best_L16 (K : zK) (C : zOk zshA K RX6 cX6_best (some .int) 7 3) (x1 : Int32) (x4 : Int32) (k7 : Int32 → Int32 → Int32 → zS → Option (Int32 × zS)) (hk7 : ∀ (x2 : Int32) (x3 : Int32) (x4 : Int32) (σ : zS), Zf zshA K (k7 x2 x3 x4 σ) 7 [(0, .ref (ga (kG K) 38)), (1, .int x1), (2, .int x2), (3, .int x3), (4, .int x4)] [] σ) : ∀ (n : Nat) (x2 : Int32) (x3 : Int32) (x5 : Int32) (σ : zS), Zf zshA K (f_X6_best_L16 k7 x1 x4 n x2 x3 x5 σ) 16 [(0, .ref (ga (kG K) 38)), (1, .int x1), (2, .int x2), (3, .int x3), (4, .int x4), (5, .int x5)] [] σ := by
  intro n
  induction n with
  | zero => intro x2 x3 x5 σ; rw [f_X6_best_L16]; exact z_none
  | succ n ih =>
  intro x2 x3 x5 σ
  rw [f_X6_best_L16]
  refine z_iload C dX6_best_16 5 rfl ?_
  refine z_bipush (v := 99) C dX6_best_18 (by decide) ?_
  refine z_icmp_gt (tgt := 62) C dX6_best_20 (by decide) ?_ ?_
  · refine z_iinc (v := 1) (lv1 := [(4, .int (x4 + 1)), (0, .ref (ga (kG K) 38)), (1, .int x1), (2, .int x2), (3, .int x3), (5, .int x5)]) C dX6_best_62 4 rfl (by decide) (by decide) rfl ?_
    refine z_goto (tgt := 7) C dX6_best_65 (by decide) ?_
    exact z_sub [1, 2, 3, 4, 0] rfl (hk7 x2 x3 (x4 + 1) σ)
  · refine z_aload_n C dX6_best_23 0 rfl ?_
    refine z_iload C dX6_best_24 4 rfl ?_
    refine z_iload C dX6_best_26 5 rfl ?_
    refine z_callVi (q := 38) (As := [.int x4, .int x5]) (st := []) C zy_X6_missOf zv_X6_missOf ml_X6_70 rcA_38 (by decide) (fun _ _ h => m_X6_missOf h) rfl rfl (Nat.le_of_ble_eq_true rfl) dX6_best_28 (fun v1 σ1 => ?_)
    refine z_istore (lv1 := [(6, .int v1), (0, .ref (ga (kG K) 38)), (1, .int x1), (2, .int x2), (3, .int x3), (4, .int x4), (5, .int x5)]) C dX6_best_31 (by decide) rfl ?_
    refine z_iload_n C dX6_best_33 4 rfl ?_
    refine z_iconst (v := (-1)) C dX6_best_34 (by decide) ?_
    refine z_icmp_eq (tgt := 44) C dX6_best_35 (by decide) ?_ ?_
    · exact z_sub [1, 2, 5, 6, 0] rfl (b_X6_best_J44 K C x1 x4 x5 v1 _ ih σ1)
    · refine z_iload C dX6_best_38 0 rfl ?_
      refine z_iload_n C dX6_best_40 4 rfl ?_
      refine z_icmp_ge (tgt := 56) C dX6_best_41 (by decide) ?_ ?_
      · refine z_iinc (v := 1) (lv1 := [(5, .int (x5 + 1)), (6, .int v1), (0, .ref (ga (kG K) 38)), (1, .int x1), (2, .int x2), (3, .int x3), (4, .int x4)]) C dX6_best_56 6 rfl (by decide) (by decide) rfl ?_
        refine z_goto (tgt := 16) C dX6_best_59 (by decide) ?_
        exact z_sub [2, 3, 4, 5, 6, 0] rfl (ih x2 x3 (x5 + 1) σ1)
      · exact z_sub [1, 2, 5, 6, 0] rfl (b_X6_best_J44 K C x1 x4 x5 v1 _ ih σ1)
theorem b_X6_best_L7 (K : zK) (C : zOk zshA K RX6 cX6_best (some .int) 7 3) (x1 : Int32) : ∀ (n : Nat) (x2 : Int32) (x3 : Int32) (x4 : Int32) (σ : zS), Zf zshA K (f_X6_best_L7 x1 n x2 x3 x4 σ) 7 [(0, .ref (ga (kG K) 38)), (1, .int x1), (2, .int x2), (3, .int x3), (4, .int x4)] [] σ := by
  intro n
  induction n with
  | zero => intro x2 x3 x4 σ; rw [f_X6_best_L7]; exact z_none
  | succ n ih =>
  intro x2 x3 x4 σ
  rw [f_X6_best_L7]
  refine z_iload C dX6_best_7 4 rfl ?_
  refine z_iconst (v := 3) C dX6_best_9 (by decide) ?_
  refine z_icmp_ge (tgt := 68) C dX6_best_10 (by decide) ?_ ?_
  · refine z_iload_n C dX6_best_68 1 rfl ?_
    refine z_if_ne (tgt := 76) C dX6_best_69 (by decide) ?_ ?_
    · refine z_iload_n C dX6_best_72 2 rfl ?_
      refine z_goto (tgt := 77) C dX6_best_73 (by decide) ?_
      exact z_iret C dX6_best_77
    · refine z_iload_n C dX6_best_76 3 rfl ?_
      exact z_iret C dX6_best_77
  · refine z_iconst (v := 1) C dX6_best_13 (by decide) ?_
    refine z_istore (lv1 := [(5, .int 1), (0, .ref (ga (kG K) 38)), (1, .int x1), (2, .int x2), (3, .int x3), (4, .int x4)]) C dX6_best_14 (by decide) rfl ?_
    exact z_sub [1, 2, 3, 4, 5, 0] rfl (b_X6_best_L16 K C x1 x4 _ ih zfu x2 x3 1 σ)
theorem b_X6_best (K : zK) (C : zOk zshA K RX6 cX6_best (some .int) 7 3) (x1 : Int32) (σ : zS) : Zf zshA K (f_X6_best x1 σ) 0 [(0, .ref (ga (kG K) 38)), (1, .int x1)] [] σ := by
  unfold f_X6_best
  refine z_iconst (v := 1) C dX6_best_0 (by decide) ?_
  refine z_istore_n (lv1 := [(2, .int 1), (0, .ref (ga (kG K) 38)), (1, .int x1)]) C dX6_best_1 (by decide) rfl ?_
  refine z_iconst (v := (-1)) C dX6_best_2 (by decide) ?_
  refine z_istore_n (lv1 := [(3, .int (-1)), (2, .int 1), (0, .ref (ga (kG K) 38)), (1, .int x1)]) C dX6_best_3 (by decide) rfl ?_
  refine z_iconst (v := 0) C dX6_best_4 (by decide) ?_
  refine z_istore (lv1 := [(4, .int 0), (3, .int (-1)), (2, .int 1), (0, .ref (ga (kG K) 38)), (1, .int x1)]) C dX6_best_5 (by decide) rfl ?_
  exact z_sub [3, 4, 2, 1, 0] rfl (b_X6_best_L7 K C x1 zfu 1 (-1) 0 σ)
theorem m_X6_best {l : Launch} {G : zG} {x1 : Int32} {σ σ1 : zS} {r : Int32} (h : f_X6_best x1 σ = some (r, σ1)) : zM l G zshA yX6_best cX6_best 7 (some .int) 3 [.ref (ga G 38), .int x1] (zov (some .int) G r) σ σ1 :=
  z_met (by decide) (Nat.le_of_ble_eq_true rfl) h (fun K _ hG C => by subst hG; exact b_X6_best K C x1 σ)
theorem b_X9_law (K : zK) (C : zOk zshA K RX9 cX9_law (some .int) 3 5) (x1 : Int32) (x2 : Int32) (σ : zS) : Zf zshA K (f_X9_law x1 x2 σ) 0 [(0, .ref (ga (kG K) 0)), (1, .int x1), (2, .int x2)] [] σ := by
  unfold f_X9_law
  refine z_aload_n C dX9_law_0 0 rfl ?_
  refine z_getR C fd_X9_19 dX9_law_1 ?_
  refine z_iload_n C dX9_law_4 1 rfl ?_
  refine z_callVz (q := 4) (As := [.int x1]) (st := []) C zy_X3_isTold zv_X3_isTold ml_X9_127 rcA_4 (by decide) (fun _ _ h => m_X3_isTold h) rfl rfl (Nat.le_of_ble_eq_true rfl) dX9_law_5 (fun v1 σ1 => ?_)
  refine z_if_ne (tgt := 14) C dX9_law_8 (by decide) ?_ ?_
  · refine z_bipush (v := (-2)) C dX9_law_11 (by decide) ?_
    exact z_iret C dX9_law_13
  · refine z_iload_n C dX9_law_14 2 rfl ?_
    refine z_iconst (v := 0) C dX9_law_15 (by decide) ?_
    refine z_iconst (v := 1) C dX9_law_16 (by decide) ?_
    refine z_callSz (As := [.int x2, .int 0, .int 1]) (st := []) C zy_X9_isWithin zs_X9_isWithin ml_X9_84 (by decide) (fun _ _ h => m_X9_isWithin h) rfl rfl (Nat.le_of_ble_eq_true rfl) dX9_law_17 (fun v2 σ2 => ?_)
    refine z_if_ne (tgt := 26) C dX9_law_20 (by decide) ?_ ?_
    · refine z_bipush (v := (-3)) C dX9_law_23 (by decide) ?_
      exact z_iret C dX9_law_25
    · refine z_aload_n C dX9_law_26 0 rfl ?_
      refine z_getR C fd_X9_71 dX9_law_27 ?_
      refine z_iload_n C dX9_law_30 1 rfl ?_
      refine z_callVv (q := 38) (As := [.int x1]) (st := []) C zy_X6_gather zv_X6_gather ml_X9_260 rcA_38 (by decide) (fun _ _ h => m_X6_gather h) rfl rfl (Nat.le_of_ble_eq_true rfl) dX9_law_31 (fun _ σ3 => ?_)
      refine z_aload_n C dX9_law_34 0 rfl ?_
      refine z_getR C fd_X9_71 dX9_law_35 ?_
      refine z_iload_n C dX9_law_38 2 rfl ?_
      refine z_callVi (q := 38) (As := [.int x2]) (st := []) C zy_X6_best zv_X6_best ml_X9_267 rcA_38 (by decide) (fun _ _ h => m_X6_best h) rfl rfl (Nat.le_of_ble_eq_true rfl) dX9_law_39 (fun v4 σ4 => ?_)
      exact z_iret C dX9_law_42
theorem m_X9_law {l : Launch} {G : zG} {x1 : Int32} {x2 : Int32} {σ σ1 : zS} {r : Int32} (h : f_X9_law x1 x2 σ = some (r, σ1)) : zM l G zshA yX9_law cX9_law 3 (some .int) 5 [.ref (ga G 0), .int x1, .int x2] (zov (some .int) G r) σ σ1 :=
  z_met (by decide) (Nat.le_of_ble_eq_true rfl) h (fun K _ hG C => by subst hG; exact b_X9_law K C x1 x2 σ)
theorem b_X9_dated (K : zK) (C : zOk zshA K RX9 cX9_dated (some .int) 3 2) (x1 : Int32) (x2 : Int32) (σ : zS) : Zf zshA K (f_X9_dated x1 x2 σ) 0 [(0, .ref (ga (kG K) 0)), (1, .int x1), (2, .int x2)] [] σ := by
  unfold f_X9_dated
  refine z_aload_n C dX9_dated_0 0 rfl ?_
  refine z_getR C fd_X9_26 dX9_dated_1 ?_
  refine z_iload_n C dX9_dated_4 1 rfl ?_
  refine z_callVz (q := 17) (As := [.int x1]) (st := []) C zy_X0_has zv_X0_has ml_X9_163 rcA_17 (by decide) (fun _ _ h => m_X0_has h) rfl rfl (Nat.le_of_ble_eq_true rfl) dX9_dated_5 (fun v1 σ1 => ?_)
  refine z_if_ne (tgt := 14) C dX9_dated_8 (by decide) ?_ ?_
  · refine z_bipush (v := (-2)) C dX9_dated_11 (by decide) ?_
    exact z_iret C dX9_dated_13
  · refine z_iload_n C dX9_dated_14 2 rfl ?_
    refine z_iconst (v := (-1)) C dX9_dated_15 (by decide) ?_
    refine z_sipush (v := 9999) C dX9_dated_16 (by decide) ?_
    refine z_callSz (As := [.int x2, .int (-1), .int 9999]) (st := []) C zy_X9_isWithin zs_X9_isWithin ml_X9_84 (by decide) (fun _ _ h => m_X9_isWithin h) rfl rfl (Nat.le_of_ble_eq_true rfl) dX9_dated_19 (fun v2 σ2 => ?_)
    refine z_if_ne (tgt := 28) C dX9_dated_22 (by decide) ?_ ?_
    · refine z_bipush (v := (-3)) C dX9_dated_25 (by decide) ?_
      exact z_iret C dX9_dated_27
    · refine z_aload_n C dX9_dated_28 0 rfl ?_
      refine z_getR C fd_X9_26 dX9_dated_29 ?_
      refine z_getR C fd_X9_270 dX9_dated_32 ?_
      refine z_iload_n C dX9_dated_35 1 rfl ?_
      refine z_iload_n C dX9_dated_36 2 rfl ?_
      refine z_iast C sA_26 dX9_dated_37 (fun σ3 => ?_)
      refine z_iconst (v := 1) C dX9_dated_38 (by decide) ?_
      exact z_iret C dX9_dated_39
theorem m_X9_dated {l : Launch} {G : zG} {x1 : Int32} {x2 : Int32} {σ σ1 : zS} {r : Int32} (h : f_X9_dated x1 x2 σ = some (r, σ1)) : zM l G zshA yX9_dated cX9_dated 3 (some .int) 2 [.ref (ga G 0), .int x1, .int x2] (zov (some .int) G r) σ σ1 :=
  z_met (by decide) (Nat.le_of_ble_eq_true rfl) h (fun K _ hG C => by subst hG; exact b_X9_dated K C x1 x2 σ)
theorem b_X1_leastFor (K : zK) (C : zOk zshA K RX1 cX1_leastFor (some .int) 2 1) (x0 : Int32) (x1 : Int32) (σ : zS) : Zf zshA K (f_X1_leastFor x0 x1 σ) 0 [(0, .int x0), (1, .int x1)] [] σ := by
  unfold f_X1_leastFor
  refine z_iload_n C dX1_leastFor_0 1 rfl ?_
  refine z_if_ne (tgt := 8) C dX1_leastFor_1 (by decide) ?_ ?_
  · refine z_iconst (v := 1) C dX1_leastFor_4 (by decide) ?_
    refine z_goto (tgt := 27) C dX1_leastFor_5 (by decide) ?_
    exact z_iret C dX1_leastFor_27
  · refine z_iload_n C dX1_leastFor_8 0 rfl ?_
    refine z_iconst (v := 1) C dX1_leastFor_9 (by decide) ?_
    refine z_isub C dX1_leastFor_10 ?_
    refine z_iload_n C dX1_leastFor_11 0 rfl ?_
    refine z_iconst (v := 1) C dX1_leastFor_12 (by decide) ?_
    refine z_isub C dX1_leastFor_13 ?_
    refine z_imul C dX1_leastFor_14 ?_
    refine z_sipush (v := 9999) C dX1_leastFor_15 (by decide) ?_
    refine z_iload_n C dX1_leastFor_18 1 rfl ?_
    refine z_isub C dX1_leastFor_19 ?_
    refine z_iconst (v := 1) C dX1_leastFor_20 (by decide) ?_
    refine z_iadd C dX1_leastFor_21 ?_
    refine z_callNi (As := [.int ((x0 - 1) * (x0 - 1)), .int ((9999 - x1) + 1)]) (st := []) C zy_X9_cut zs_X9_cut mn_X1_46 (by decide) (fun _ _ h => m_X9_cut h) rfl rfl (Nat.le_of_ble_eq_true rfl) dX1_leastFor_22 (fun v1 σ1 => ?_)
    refine z_iconst (v := 1) C dX1_leastFor_25 (by decide) ?_
    refine z_iadd C dX1_leastFor_26 ?_
    exact z_iret C dX1_leastFor_27
theorem m_X1_leastFor {l : Launch} {G : zG} {x0 : Int32} {x1 : Int32} {σ σ1 : zS} {r : Int32} (h : f_X1_leastFor x0 x1 σ = some (r, σ1)) : zM l G zshA yX1_leastFor cX1_leastFor 2 (some .int) 1 [.int x0, .int x1] (zov (some .int) G r) σ σ1 :=
  z_met (by decide) (Nat.le_of_ble_eq_true rfl) h (fun K _ hG C => by subst hG; exact b_X1_leastFor K C x0 x1 σ)
theorem b_X1_greatestFor (K : zK) (C : zOk zshA K RX1 cX1_greatestFor (some .int) 2 1) (x0 : Int32) (x1 : Int32) (σ : zS) : Zf zshA K (f_X1_greatestFor x0 x1 σ) 0 [(0, .int x0), (1, .int x1)] [] σ := by
  unfold f_X1_greatestFor
  refine z_iload_n C dX1_greatestFor_0 1 rfl ?_
  refine z_sipush (v := 9999) C dX1_greatestFor_1 (by decide) ?_
  refine z_icmp_ne (tgt := 13) C dX1_greatestFor_4 (by decide) ?_ ?_
  · refine z_sipush (v := 999) C dX1_greatestFor_7 (by decide) ?_
    refine z_goto (tgt := 28) C dX1_greatestFor_10 (by decide) ?_
    exact z_iret C dX1_greatestFor_28
  · refine z_iload_n C dX1_greatestFor_13 0 rfl ?_
    refine z_iconst (v := 1) C dX1_greatestFor_14 (by decide) ?_
    refine z_iadd C dX1_greatestFor_15 ?_
    refine z_iload_n C dX1_greatestFor_16 0 rfl ?_
    refine z_iconst (v := 1) C dX1_greatestFor_17 (by decide) ?_
    refine z_iadd C dX1_greatestFor_18 ?_
    refine z_imul C dX1_greatestFor_19 ?_
    refine z_sipush (v := 9999) C dX1_greatestFor_20 (by decide) ?_
    refine z_iload_n C dX1_greatestFor_23 1 rfl ?_
    refine z_isub C dX1_greatestFor_24 ?_
    refine z_callNi (As := [.int ((x0 + 1) * (x0 + 1)), .int (9999 - x1)]) (st := []) C zy_X9_cut zs_X9_cut mn_X1_46 (by decide) (fun _ _ h => m_X9_cut h) rfl rfl (Nat.le_of_ble_eq_true rfl) dX1_greatestFor_25 (fun v1 σ1 => ?_)
    exact z_iret C dX1_greatestFor_28
theorem m_X1_greatestFor {l : Launch} {G : zG} {x0 : Int32} {x1 : Int32} {σ σ1 : zS} {r : Int32} (h : f_X1_greatestFor x0 x1 σ = some (r, σ1)) : zM l G zshA yX1_greatestFor cX1_greatestFor 2 (some .int) 1 [.int x0, .int x1] (zov (some .int) G r) σ σ1 :=
  z_met (by decide) (Nat.le_of_ble_eq_true rfl) h (fun K _ hG C => by subst hG; exact b_X1_greatestFor K C x0 x1 σ)
theorem b_X1_warmthLearnt_L13 (K : zK) (C : zOk zshA K RX1 cX1_warmthLearnt (some .int) 7 2) (x1 : Int32) (x2 : Int32) : ∀ (n : Nat) (x3 : Int32) (x4 : Int32) (x5 : Int32) (x6 : Int32) (σ : zS), Zf zshA K (f_X1_warmthLearnt_L13 x1 x2 n x3 x4 x5 x6 σ) 13 [(0, .ref (ga (kG K) 43)), (1, .int x1), (2, .int x2), (3, .int x3), (4, .int x4), (5, .int x5), (6, .int x6)] [] σ := by
  intro n
  induction n with
  | zero => intro x3 x4 x5 x6 σ; rw [f_X1_warmthLearnt_L13]; exact z_none
  | succ n ih =>
  intro x3 x4 x5 x6 σ
  rw [f_X1_warmthLearnt_L13]
  refine z_iload C dX1_warmthLearnt_13 6 rfl ?_
  refine z_aload_n C dX1_warmthLearnt_15 0 rfl ?_
  refine z_getR C fd_X1_9 dX1_warmthLearnt_16 ?_
  refine z_getI C fd_X1_15 dX1_warmthLearnt_19 ?_
  refine z_icmp_ge (tgt := 133) C dX1_warmthLearnt_22 (by decide) ?_ ?_
  · refine z_iload C dX1_warmthLearnt_133 5 rfl ?_
    refine z_if_eq (tgt := 144) C dX1_warmthLearnt_135 (by decide) ?_ ?_
    · refine z_iconst (v := (-1)) C dX1_warmthLearnt_144 (by decide) ?_
      exact z_iret C dX1_warmthLearnt_145
    · refine z_iload_n C dX1_warmthLearnt_138 3 rfl ?_
      refine z_iload C dX1_warmthLearnt_139 4 rfl ?_
      refine z_icmp_le (tgt := 146) C dX1_warmthLearnt_141 (by decide) ?_ ?_
      · refine z_iload_n C dX1_warmthLearnt_146 2 rfl ?_
        refine z_if_ne (tgt := 154) C dX1_warmthLearnt_147 (by decide) ?_ ?_
        · refine z_iload_n C dX1_warmthLearnt_150 3 rfl ?_
          refine z_goto (tgt := 156) C dX1_warmthLearnt_151 (by decide) ?_
          exact z_iret C dX1_warmthLearnt_156
        · refine z_iload C dX1_warmthLearnt_154 4 rfl ?_
          exact z_iret C dX1_warmthLearnt_156
      · refine z_iconst (v := (-1)) C dX1_warmthLearnt_144 (by decide) ?_
        exact z_iret C dX1_warmthLearnt_145
  · refine z_aload_n C dX1_warmthLearnt_25 0 rfl ?_
    refine z_getR C fd_X1_9 dX1_warmthLearnt_26 ?_
    refine z_getR C fd_X1_21 dX1_warmthLearnt_29 ?_
    refine z_iload C dX1_warmthLearnt_32 6 rfl ?_
    refine z_iald C sA_18 dX1_warmthLearnt_34 (fun v1 => ?_)
    refine z_iload_n C dX1_warmthLearnt_35 1 rfl ?_
    refine z_icmp_ne (tgt := 127) C dX1_warmthLearnt_36 (by decide) ?_ ?_
    · refine z_aload_n C dX1_warmthLearnt_39 0 rfl ?_
      refine z_getR C fd_X1_9 dX1_warmthLearnt_40 ?_
      refine z_getR C fd_X1_25 dX1_warmthLearnt_43 ?_
      refine z_iload C dX1_warmthLearnt_46 6 rfl ?_
      refine z_iald C sA_23 dX1_warmthLearnt_48 (fun v2 => ?_)
      refine z_if_le (tgt := 127) C dX1_warmthLearnt_49 (by decide) ?_ ?_
      · refine z_iinc (v := 1) (lv1 := [(6, .int (x6 + 1)), (0, .ref (ga (kG K) 43)), (1, .int x1), (2, .int x2), (3, .int x3), (4, .int x4), (5, .int x5)]) C dX1_warmthLearnt_127 6 rfl (by decide) (by decide) rfl ?_
        refine z_goto (tgt := 13) C dX1_warmthLearnt_130 (by decide) ?_
        exact z_sub [1, 2, 3, 4, 5, 6, 0] rfl (ih x3 x4 x5 (x6 + 1) σ)
      · refine z_aload_n C dX1_warmthLearnt_52 0 rfl ?_
        refine z_getR C fd_X1_9 dX1_warmthLearnt_53 ?_
        refine z_getR C fd_X1_28 dX1_warmthLearnt_56 ?_
        refine z_iload C dX1_warmthLearnt_59 6 rfl ?_
        refine z_iald C sA_26 dX1_warmthLearnt_61 (fun v3 => ?_)
        refine z_iconst (v := (-1)) C dX1_warmthLearnt_62 (by decide) ?_
        refine z_icmp_eq (tgt := 127) C dX1_warmthLearnt_63 (by decide) ?_ ?_
        · refine z_iinc (v := 1) (lv1 := [(6, .int (x6 + 1)), (0, .ref (ga (kG K) 43)), (1, .int x1), (2, .int x2), (3, .int x3), (4, .int x4), (5, .int x5)]) C dX1_warmthLearnt_127 6 rfl (by decide) (by decide) rfl ?_
          refine z_goto (tgt := 13) C dX1_warmthLearnt_130 (by decide) ?_
          exact z_sub [1, 2, 3, 4, 5, 6, 0] rfl (ih x3 x4 x5 (x6 + 1) σ)
        · refine z_iconst (v := 1) C dX1_warmthLearnt_66 (by decide) ?_
          refine z_istore (lv1 := [(5, .int 1), (0, .ref (ga (kG K) 43)), (1, .int x1), (2, .int x2), (3, .int x3), (4, .int x4), (6, .int x6)]) C dX1_warmthLearnt_67 (by decide) rfl ?_
          refine z_iload_n C dX1_warmthLearnt_69 4 rfl ?_
          refine z_aload_n C dX1_warmthLearnt_70 1 rfl ?_
          refine z_getR C fd_X1_9 dX1_warmthLearnt_71 ?_
          refine z_getR C fd_X1_25 dX1_warmthLearnt_74 ?_
          refine z_iload C dX1_warmthLearnt_77 6 rfl ?_
          refine z_iald C sA_23 dX1_warmthLearnt_79 (fun v4 => ?_)
          refine z_aload_n C dX1_warmthLearnt_80 1 rfl ?_
          refine z_getR C fd_X1_9 dX1_warmthLearnt_81 ?_
          refine z_getR C fd_X1_28 dX1_warmthLearnt_84 ?_
          refine z_iload C dX1_warmthLearnt_87 6 rfl ?_
          refine z_iald C sA_26 dX1_warmthLearnt_89 (fun v5 => ?_)
          refine z_callSi (As := [.int v4, .int v5]) (st := [.int x3]) C zy_X1_leastFor zs_X1_leastFor ml_X1_31 (by decide) (fun _ _ h => m_X1_leastFor h) rfl rfl (Nat.le_of_ble_eq_true rfl) dX1_warmthLearnt_90 (fun v6 σ6 => ?_)
          refine z_mmax C ml_X1_35 zma_max_s zma_i zma_max_c (by decide) (Nat.le_of_ble_eq_true rfl) dX1_warmthLearnt_93 ?_
          refine z_istore_n (lv1 := [(3, .int (zmax x3 v6)), (5, .int 1), (0, .ref (ga (kG K) 43)), (1, .int x1), (2, .int x2), (4, .int x4), (6, .int x6)]) C dX1_warmthLearnt_96 (by decide) rfl ?_
          refine z_iload C dX1_warmthLearnt_97 5 rfl ?_
          refine z_aload_n C dX1_warmthLearnt_99 2 rfl ?_
          refine z_getR C fd_X1_9 dX1_warmthLearnt_100 ?_
          refine z_getR C fd_X1_25 dX1_warmthLearnt_103 ?_
          refine z_iload C dX1_warmthLearnt_106 6 rfl ?_
          refine z_iald C sA_23 dX1_warmthLearnt_108 (fun v7 => ?_)
          refine z_aload_n C dX1_warmthLearnt_109 2 rfl ?_
          refine z_getR C fd_X1_9 dX1_warmthLearnt_110 ?_
          refine z_getR C fd_X1_28 dX1_warmthLearnt_113 ?_
          refine z_iload C dX1_warmthLearnt_116 6 rfl ?_
          refine z_iald C sA_26 dX1_warmthLearnt_118 (fun v8 => ?_)
          refine z_callSi (As := [.int v7, .int v8]) (st := [.int x4]) C zy_X1_greatestFor zs_X1_greatestFor ml_X1_40 (by decide) (fun _ _ h => m_X1_greatestFor h) rfl rfl (Nat.le_of_ble_eq_true rfl) dX1_warmthLearnt_119 (fun v9 σ9 => ?_)
          refine z_mmin C ml_X1_43 zma_min_s zma_i zma_min_c (by decide) (Nat.le_of_ble_eq_true rfl) dX1_warmthLearnt_122 ?_
          refine z_istore (lv1 := [(4, .int (zmin x4 v9)), (3, .int (zmax x3 v6)), (5, .int 1), (0, .ref (ga (kG K) 43)), (1, .int x1), (2, .int x2), (6, .int x6)]) C dX1_warmthLearnt_125 (by decide) rfl ?_
          refine z_iinc (v := 1) (lv1 := [(6, .int (x6 + 1)), (4, .int (zmin x4 v9)), (3, .int (zmax x3 v6)), (5, .int 1), (0, .ref (ga (kG K) 43)), (1, .int x1), (2, .int x2)]) C dX1_warmthLearnt_127 6 rfl (by decide) (by decide) rfl ?_
          refine z_goto (tgt := 13) C dX1_warmthLearnt_130 (by decide) ?_
          exact z_sub [4, 5, 6, 2, 1, 3, 0] rfl (ih (zmax x3 v6) (zmin x4 v9) 1 (x6 + 1) σ9)
    · refine z_iinc (v := 1) (lv1 := [(6, .int (x6 + 1)), (0, .ref (ga (kG K) 43)), (1, .int x1), (2, .int x2), (3, .int x3), (4, .int x4), (5, .int x5)]) C dX1_warmthLearnt_127 6 rfl (by decide) (by decide) rfl ?_
      refine z_goto (tgt := 13) C dX1_warmthLearnt_130 (by decide) ?_
      exact z_sub [1, 2, 3, 4, 5, 6, 0] rfl (ih x3 x4 x5 (x6 + 1) σ)
theorem b_X1_warmthLearnt (K : zK) (C : zOk zshA K RX1 cX1_warmthLearnt (some .int) 7 2) (x1 : Int32) (x2 : Int32) (σ : zS) : Zf zshA K (f_X1_warmthLearnt x1 x2 σ) 0 [(0, .ref (ga (kG K) 43)), (1, .int x1), (2, .int x2)] [] σ := by
  unfold f_X1_warmthLearnt
  refine z_iconst (v := 1) C dX1_warmthLearnt_0 (by decide) ?_
  refine z_istore_n (lv1 := [(3, .int 1), (0, .ref (ga (kG K) 43)), (1, .int x1), (2, .int x2)]) C dX1_warmthLearnt_1 (by decide) rfl ?_
  refine z_sipush (v := 999) C dX1_warmthLearnt_2 (by decide) ?_
  refine z_istore (lv1 := [(4, .int 999), (3, .int 1), (0, .ref (ga (kG K) 43)), (1, .int x1), (2, .int x2)]) C dX1_warmthLearnt_5 (by decide) rfl ?_
  refine z_iconst (v := 0) C dX1_warmthLearnt_7 (by decide) ?_
  refine z_istore (lv1 := [(5, .int 0), (4, .int 999), (3, .int 1), (0, .ref (ga (kG K) 43)), (1, .int x1), (2, .int x2)]) C dX1_warmthLearnt_8 (by decide) rfl ?_
  refine z_iconst (v := 0) C dX1_warmthLearnt_10 (by decide) ?_
  refine z_istore (lv1 := [(6, .int 0), (5, .int 0), (4, .int 999), (3, .int 1), (0, .ref (ga (kG K) 43)), (1, .int x1), (2, .int x2)]) C dX1_warmthLearnt_11 (by decide) rfl ?_
  exact z_sub [4, 5, 6, 3, 2, 1, 0] rfl (b_X1_warmthLearnt_L13 K C x1 x2 zfu 1 999 0 0 σ)
theorem m_X1_warmthLearnt {l : Launch} {G : zG} {x1 : Int32} {x2 : Int32} {σ σ1 : zS} {r : Int32} (h : f_X1_warmthLearnt x1 x2 σ = some (r, σ1)) : zM l G zshA yX1_warmthLearnt cX1_warmthLearnt 7 (some .int) 2 [.ref (ga G 43), .int x1, .int x2] (zov (some .int) G r) σ σ1 :=
  z_met (by decide) (Nat.le_of_ble_eq_true rfl) h (fun K _ hG C => by subst hG; exact b_X1_warmthLearnt K C x1 x2 σ)
theorem b_X9_learnt (K : zK) (C : zOk zshA K RX9 cX9_learnt (some .int) 3 3) (x1 : Int32) (x2 : Int32) (σ : zS) : Zf zshA K (f_X9_learnt x1 x2 σ) 0 [(0, .ref (ga (kG K) 0)), (1, .int x1), (2, .int x2)] [] σ := by
  unfold f_X9_learnt
  refine z_iload_n C dX9_learnt_0 1 rfl ?_
  refine z_callSz (As := [.int x1]) (st := []) C zy_X9_isPlace zs_X9_isPlace ml_X9_115 (by decide) (fun _ _ h => m_X9_isPlace h) rfl rfl (Nat.le_of_ble_eq_true rfl) dX9_learnt_1 (fun v1 σ1 => ?_)
  refine z_if_ne (tgt := 10) C dX9_learnt_4 (by decide) ?_ ?_
  · refine z_bipush (v := (-2)) C dX9_learnt_7 (by decide) ?_
    exact z_iret C dX9_learnt_9
  · refine z_iload_n C dX9_learnt_10 2 rfl ?_
    refine z_iconst (v := 0) C dX9_learnt_11 (by decide) ?_
    refine z_iconst (v := 1) C dX9_learnt_12 (by decide) ?_
    refine z_callSz (As := [.int x2, .int 0, .int 1]) (st := []) C zy_X9_isWithin zs_X9_isWithin ml_X9_84 (by decide) (fun _ _ h => m_X9_isWithin h) rfl rfl (Nat.le_of_ble_eq_true rfl) dX9_learnt_13 (fun v2 σ2 => ?_)
    refine z_if_ne (tgt := 22) C dX9_learnt_16 (by decide) ?_ ?_
    · refine z_bipush (v := (-3)) C dX9_learnt_19 (by decide) ?_
      exact z_iret C dX9_learnt_21
    · refine z_aload_n C dX9_learnt_22 0 rfl ?_
      refine z_getR C fd_X9_80 dX9_learnt_23 ?_
      refine z_iload_n C dX9_learnt_26 1 rfl ?_
      refine z_iload_n C dX9_learnt_27 2 rfl ?_
      refine z_callVi (q := 43) (As := [.int x1, .int x2]) (st := []) C zy_X1_warmthLearnt zv_X1_warmthLearnt ml_X9_273 rcA_43 (by decide) (fun _ _ h => m_X1_warmthLearnt h) rfl rfl (Nat.le_of_ble_eq_true rfl) dX9_learnt_28 (fun v3 σ3 => ?_)
      exact z_iret C dX9_learnt_31
theorem m_X9_learnt {l : Launch} {G : zG} {x1 : Int32} {x2 : Int32} {σ σ1 : zS} {r : Int32} (h : f_X9_learnt x1 x2 σ = some (r, σ1)) : zM l G zshA yX9_learnt cX9_learnt 3 (some .int) 3 [.ref (ga G 0), .int x1, .int x2] (zov (some .int) G r) σ σ1 :=
  z_met (by decide) (Nat.le_of_ble_eq_true rfl) h (fun K _ hG C => by subst hG; exact b_X9_learnt K C x1 x2 σ)
theorem b_X3_toldFlows_L4 (K : zK) (C : zOk zshA K RX3 cX3_toldFlows (some .int) 3 0) : ∀ (n : Nat) (x1 : Int32) (x2 : Int32) (σ : zS), Zf zshA K (f_X3_toldFlows_L4 n x1 x2 σ) 4 [(0, .ref (ga (kG K) 4)), (1, .int x1), (2, .int x2)] [] σ := by
  intro n
  induction n with
  | zero => intro x1 x2 σ; rw [f_X3_toldFlows_L4]; exact z_none
  | succ n ih =>
  intro x1 x2 σ
  rw [f_X3_toldFlows_L4]
  refine z_iload_n C dX3_toldFlows_4 2 rfl ?_
  refine z_bipush (v := 9) C dX3_toldFlows_5 (by decide) ?_
  refine z_icmp_ge (tgt := 33) C dX3_toldFlows_7 (by decide) ?_ ?_
  · refine z_iload_n C dX3_toldFlows_33 1 rfl ?_
    exact z_iret C dX3_toldFlows_34
  · refine z_iload_n C dX3_toldFlows_10 1 rfl ?_
    refine z_aload_n C dX3_toldFlows_11 0 rfl ?_
    refine z_getR C fd_X3_21 dX3_toldFlows_12 ?_
    refine z_iload_n C dX3_toldFlows_15 2 rfl ?_
    refine z_bald C sA_8 dX3_toldFlows_16 (fun v1 => ?_)
    refine z_if_eq (tgt := 24) C dX3_toldFlows_17 (by decide) ?_ ?_
    · refine z_iconst (v := 0) C dX3_toldFlows_24 (by decide) ?_
      refine z_iadd C dX3_toldFlows_25 ?_
      refine z_istore_n (lv1 := [(1, .int (x1 + 0)), (0, .ref (ga (kG K) 4)), (2, .int x2)]) C dX3_toldFlows_26 (by decide) rfl ?_
      refine z_iinc (v := 1) (lv1 := [(2, .int (x2 + 1)), (1, .int (x1 + 0)), (0, .ref (ga (kG K) 4))]) C dX3_toldFlows_27 2 rfl (by decide) (by decide) rfl ?_
      refine z_goto (tgt := 4) C dX3_toldFlows_30 (by decide) ?_
      exact z_sub [2, 1, 0] rfl (ih (x1 + 0) (x2 + 1) σ)
    · refine z_iconst (v := 1) C dX3_toldFlows_20 (by decide) ?_
      refine z_goto (tgt := 25) C dX3_toldFlows_21 (by decide) ?_
      refine z_iadd C dX3_toldFlows_25 ?_
      refine z_istore_n (lv1 := [(1, .int (x1 + 1)), (0, .ref (ga (kG K) 4)), (2, .int x2)]) C dX3_toldFlows_26 (by decide) rfl ?_
      refine z_iinc (v := 1) (lv1 := [(2, .int (x2 + 1)), (1, .int (x1 + 1)), (0, .ref (ga (kG K) 4))]) C dX3_toldFlows_27 2 rfl (by decide) (by decide) rfl ?_
      refine z_goto (tgt := 4) C dX3_toldFlows_30 (by decide) ?_
      exact z_sub [2, 1, 0] rfl (ih (x1 + 1) (x2 + 1) σ)
theorem b_X3_toldFlows (K : zK) (C : zOk zshA K RX3 cX3_toldFlows (some .int) 3 0) (σ : zS) : Zf zshA K (f_X3_toldFlows σ) 0 [(0, .ref (ga (kG K) 4))] [] σ := by
  unfold f_X3_toldFlows
  refine z_iconst (v := 0) C dX3_toldFlows_0 (by decide) ?_
  refine z_istore_n (lv1 := [(1, .int 0), (0, .ref (ga (kG K) 4))]) C dX3_toldFlows_1 (by decide) rfl ?_
  refine z_iconst (v := 0) C dX3_toldFlows_2 (by decide) ?_
  refine z_istore_n (lv1 := [(2, .int 0), (1, .int 0), (0, .ref (ga (kG K) 4))]) C dX3_toldFlows_3 (by decide) rfl ?_
  exact z_sub [2, 1, 0] rfl (b_X3_toldFlows_L4 K C zfu 0 0 σ)
theorem m_X3_toldFlows {l : Launch} {G : zG} {σ σ1 : zS} {r : Int32} (h : f_X3_toldFlows σ = some (r, σ1)) : zM l G zshA yX3_toldFlows cX3_toldFlows 3 (some .int) 0 [.ref (ga G 4)] (zov (some .int) G r) σ σ1 :=
  z_met (by decide) (Nat.le_of_ble_eq_true rfl) h (fun K _ hG C => by subst hG; exact b_X3_toldFlows K C σ)
theorem b_X0_strikes_L4 (K : zK) (C : zOk zshA K RX0 cX0_strikes (some .int) 3 0) : ∀ (n : Nat) (x1 : Int32) (x2 : Int32) (σ : zS), Zf zshA K (f_X0_strikes_L4 n x1 x2 σ) 4 [(0, .ref (ga (kG K) 17)), (1, .int x1), (2, .int x2)] [] σ := by
  intro n
  induction n with
  | zero => intro x1 x2 σ; rw [f_X0_strikes_L4]; exact z_none
  | succ n ih =>
  intro x1 x2 σ
  rw [f_X0_strikes_L4]
  refine z_iload_n C dX0_strikes_4 2 rfl ?_
  refine z_aload_n C dX0_strikes_5 0 rfl ?_
  refine z_getI C fd_X0_39 dX0_strikes_6 ?_
  refine z_icmp_ge (tgt := 36) C dX0_strikes_9 (by decide) ?_ ?_
  · refine z_iload_n C dX0_strikes_36 1 rfl ?_
    exact z_iret C dX0_strikes_37
  · refine z_iload_n C dX0_strikes_12 1 rfl ?_
    refine z_aload_n C dX0_strikes_13 0 rfl ?_
    refine z_getR C fd_X0_33 dX0_strikes_14 ?_
    refine z_iload_n C dX0_strikes_17 2 rfl ?_
    refine z_iald C sA_25 dX0_strikes_18 (fun v1 => ?_)
    refine z_iconst (v := (-1)) C dX0_strikes_19 (by decide) ?_
    refine z_icmp_eq (tgt := 27) C dX0_strikes_20 (by decide) ?_ ?_
    · refine z_iconst (v := 0) C dX0_strikes_27 (by decide) ?_
      refine z_iadd C dX0_strikes_28 ?_
      refine z_istore_n (lv1 := [(1, .int (x1 + 0)), (0, .ref (ga (kG K) 17)), (2, .int x2)]) C dX0_strikes_29 (by decide) rfl ?_
      refine z_iinc (v := 1) (lv1 := [(2, .int (x2 + 1)), (1, .int (x1 + 0)), (0, .ref (ga (kG K) 17))]) C dX0_strikes_30 2 rfl (by decide) (by decide) rfl ?_
      refine z_goto (tgt := 4) C dX0_strikes_33 (by decide) ?_
      exact z_sub [2, 1, 0] rfl (ih (x1 + 0) (x2 + 1) σ)
    · refine z_iconst (v := 1) C dX0_strikes_23 (by decide) ?_
      refine z_goto (tgt := 28) C dX0_strikes_24 (by decide) ?_
      refine z_iadd C dX0_strikes_28 ?_
      refine z_istore_n (lv1 := [(1, .int (x1 + 1)), (0, .ref (ga (kG K) 17)), (2, .int x2)]) C dX0_strikes_29 (by decide) rfl ?_
      refine z_iinc (v := 1) (lv1 := [(2, .int (x2 + 1)), (1, .int (x1 + 1)), (0, .ref (ga (kG K) 17))]) C dX0_strikes_30 2 rfl (by decide) (by decide) rfl ?_
      refine z_goto (tgt := 4) C dX0_strikes_33 (by decide) ?_
      exact z_sub [2, 1, 0] rfl (ih (x1 + 1) (x2 + 1) σ)
theorem b_X0_strikes (K : zK) (C : zOk zshA K RX0 cX0_strikes (some .int) 3 0) (σ : zS) : Zf zshA K (f_X0_strikes σ) 0 [(0, .ref (ga (kG K) 17))] [] σ := by
  unfold f_X0_strikes
  refine z_iconst (v := 0) C dX0_strikes_0 (by decide) ?_
  refine z_istore_n (lv1 := [(1, .int 0), (0, .ref (ga (kG K) 17))]) C dX0_strikes_1 (by decide) rfl ?_
  refine z_iconst (v := 0) C dX0_strikes_2 (by decide) ?_
  refine z_istore_n (lv1 := [(2, .int 0), (1, .int 0), (0, .ref (ga (kG K) 17))]) C dX0_strikes_3 (by decide) rfl ?_
  exact z_sub [2, 1, 0] rfl (b_X0_strikes_L4 K C zfu 0 0 σ)
theorem m_X0_strikes {l : Launch} {G : zG} {σ σ1 : zS} {r : Int32} (h : f_X0_strikes σ = some (r, σ1)) : zM l G zshA yX0_strikes cX0_strikes 3 (some .int) 0 [.ref (ga G 17)] (zov (some .int) G r) σ σ1 :=
  z_met (by decide) (Nat.le_of_ble_eq_true rfl) h (fun K _ hG C => by subst hG; exact b_X0_strikes K C σ)
theorem b_X9_count (K : zK) (C : zOk zshA K RX9 cX9_count (some .int) 2 1) (x1 : Int32) (σ : zS) : Zf zshA K (f_X9_count x1 σ) 0 [(0, .ref (ga (kG K) 0)), (1, .int x1)] [] σ := by
  unfold f_X9_count
  refine z_iload_n C dX9_count_0 1 rfl ?_
  refine z_case 0 (fun hc1_0 => ?_) (fun hc1_0 => ?_)
  · refine z_tabIn (tgt := 40) C dX9_count_1 0 hc1_0 (by decide) (by decide) rfl (by decide) ?_
    refine z_aload_n C dX9_count_40 0 rfl ?_
    refine z_getR C fd_X9_19 dX9_count_41 ?_
    refine z_callVi (q := 4) (As := []) (st := []) C zy_X3_toldFlows zv_X3_toldFlows ml_X9_276 rcA_4 (by decide) (fun _ _ h => m_X3_toldFlows h) rfl rfl (Nat.le_of_ble_eq_true rfl) dX9_count_44 (fun v1 σ1 => ?_)
    exact z_iret C dX9_count_47
  refine z_case 1 (fun hc1_1 => ?_) (fun hc1_1 => ?_)
  · refine z_tabIn (tgt := 48) C dX9_count_1 1 hc1_1 (by decide) (by decide) rfl (by decide) ?_
    refine z_aload_n C dX9_count_48 0 rfl ?_
    refine z_getR C fd_X9_12 dX9_count_49 ?_
    refine z_getI C fd_X9_279 dX9_count_52 ?_
    exact z_iret C dX9_count_55
  refine z_case 2 (fun hc1_2 => ?_) (fun hc1_2 => ?_)
  · refine z_tabIn (tgt := 56) C dX9_count_1 2 hc1_2 (by decide) (by decide) rfl (by decide) ?_
    refine z_aload_n C dX9_count_56 0 rfl ?_
    refine z_getR C fd_X9_26 dX9_count_57 ?_
    refine z_getI C fd_X9_152 dX9_count_60 ?_
    exact z_iret C dX9_count_63
  refine z_case 3 (fun hc1_3 => ?_) (fun hc1_3 => ?_)
  · refine z_tabIn (tgt := 64) C dX9_count_1 3 hc1_3 (by decide) (by decide) rfl (by decide) ?_
    refine z_aload_n C dX9_count_64 0 rfl ?_
    refine z_getR C fd_X9_19 dX9_count_65 ?_
    refine z_getI C fd_X9_282 dX9_count_68 ?_
    exact z_iret C dX9_count_71
  refine z_case 4 (fun hc1_4 => ?_) (fun hc1_4 => ?_)
  · refine z_tabIn (tgt := 72) C dX9_count_1 4 hc1_4 (by decide) (by decide) rfl (by decide) ?_
    refine z_aload_n C dX9_count_72 0 rfl ?_
    refine z_getR C fd_X9_19 dX9_count_73 ?_
    refine z_getI C fd_X9_285 dX9_count_76 ?_
    exact z_iret C dX9_count_79
  refine z_case 5 (fun hc1_5 => ?_) (fun hc1_5 => ?_)
  · refine z_tabIn (tgt := 80) C dX9_count_1 5 hc1_5 (by decide) (by decide) rfl (by decide) ?_
    refine z_aload_n C dX9_count_80 0 rfl ?_
    refine z_getR C fd_X9_26 dX9_count_81 ?_
    refine z_callVi (q := 17) (As := []) (st := []) C zy_X0_strikes zv_X0_strikes ml_X9_288 rcA_17 (by decide) (fun _ _ h => m_X0_strikes h) rfl rfl (Nat.le_of_ble_eq_true rfl) dX9_count_84 (fun v1 σ1 => ?_)
    exact z_iret C dX9_count_87
  refine z_tabD (tgt := 88) C [0, 1, 2, 3, 4, 5] (List.forall_mem_cons.mpr ⟨ztoi hc1_0 rfl, (List.forall_mem_cons.mpr ⟨ztoi hc1_1 rfl, (List.forall_mem_cons.mpr ⟨ztoi hc1_2 rfl, (List.forall_mem_cons.mpr ⟨ztoi hc1_3 rfl, (List.forall_mem_cons.mpr ⟨ztoi hc1_4 rfl, (List.forall_mem_cons.mpr ⟨ztoi hc1_5 rfl, (fun _ h => absurd h List.not_mem_nil)⟩)⟩)⟩)⟩)⟩)⟩) dX9_count_1 (by decide +kernel) (by decide) ?_
  refine z_bipush (v := (-3)) C dX9_count_88 (by decide) ?_
  exact z_iret C dX9_count_90
theorem m_X9_count {l : Launch} {G : zG} {x1 : Int32} {σ σ1 : zS} {r : Int32} (h : f_X9_count x1 σ = some (r, σ1)) : zM l G zshA yX9_count cX9_count 2 (some .int) 1 [.ref (ga G 0), .int x1] (zov (some .int) G r) σ σ1 :=
  z_met (by decide) (Nat.le_of_ble_eq_true rfl) h (fun K _ hG C => by subst hG; exact b_X9_count K C x1 σ)
theorem b_X10_in (K : zK) (C : zOk zshB K RX10 cX10_in (some .boolean) 3 0) (x0 : Int32) (x1 : Int32) (x2 : Int32) (σ : zS) : Zf zshB K (f_X10_in x0 x1 x2 σ) 0 [(0, .int x0), (1, .int x1), (2, .int x2)] [] σ := by
  unfold f_X10_in
  refine z_iload_n C dX10_in_0 0 rfl ?_
  refine z_iload_n C dX10_in_1 1 rfl ?_
  refine z_icmp_lt (tgt := 14) C dX10_in_2 (by decide) ?_ ?_
  · refine z_iconst (v := 0) C dX10_in_14 (by decide) ?_
    exact z_zret C (by decide) dX10_in_15
  · refine z_iload_n C dX10_in_5 0 rfl ?_
    refine z_iload_n C dX10_in_6 2 rfl ?_
    refine z_icmp_gt (tgt := 14) C dX10_in_7 (by decide) ?_ ?_
    · refine z_iconst (v := 0) C dX10_in_14 (by decide) ?_
      exact z_zret C (by decide) dX10_in_15
    · refine z_iconst (v := 1) C dX10_in_10 (by decide) ?_
      refine z_goto (tgt := 15) C dX10_in_11 (by decide) ?_
      exact z_zret C (by decide) dX10_in_15
theorem m_X10_in {l : Launch} {G : zG} {x0 : Int32} {x1 : Int32} {x2 : Int32} {σ σ1 : zS} {r : Int32} (h : f_X10_in x0 x1 x2 σ = some (r, σ1)) : zM l G zshB yX10_in cX10_in 3 (some .boolean) 0 [.int x0, .int x1, .int x2] (zov (some .boolean) G r) σ σ1 :=
  z_met (by decide) (Nat.le_of_ble_eq_true rfl) h (fun K _ hG C => by subst hG; exact b_X10_in K C x0 x1 x2 σ)
theorem b_X10_write_L31 (K : zK) (C : zOk zshB K RX10 cX10_write (some .int) 5 1) (x1 : Int64) (x3 : Int32) : ∀ (n : Nat) (x4 : Int32) (σ : zS), Zf zshB K (f_X10_write_L31 x1 x3 n x4 σ) 31 [(0, .ref (ga (kG K) 0)), (1, .long x1), (3, .int x3), (4, .int x4)] [] σ := by
  intro n
  induction n with
  | zero => intro x4 σ; rw [f_X10_write_L31]; exact z_none
  | succ n ih =>
  intro x4 σ
  rw [f_X10_write_L31]
  refine z_iload C dX10_write_31 3 rfl ?_
  refine z_iload_n C dX10_write_33 2 rfl ?_
  refine z_icmp_ge (tgt := 67) C dX10_write_34 (by decide) ?_ ?_
  · refine z_aload_n C dX10_write_67 0 rfl ?_
    refine z_dup C dX10_write_68 rfl ?_
    refine z_getI C fd_X10_81 dX10_write_69 ?_
    refine z_iload_n C dX10_write_72 2 rfl ?_
    refine z_iadd C dX10_write_73 ?_
    refine z_putI C fd_X10_81 fwB_0_6 (lgB 0) (by decide) dX10_write_74 (fun σ1 => ?_)
    refine z_aload_n C dX10_write_77 0 rfl ?_
    refine z_getI C fd_X10_81 dX10_write_78 ?_
    exact z_iret C dX10_write_81
  · refine z_aload_n C dX10_write_37 0 rfl ?_
    refine z_getR C fd_X10_26 dX10_write_38 ?_
    refine z_aload_n C dX10_write_41 0 rfl ?_
    refine z_getI C fd_X10_81 dX10_write_42 ?_
    refine z_iload C dX10_write_45 3 rfl ?_
    refine z_iadd C dX10_write_47 ?_
    refine z_lload_n C dX10_write_48 1 rfl ?_
    refine z_bipush (v := 8) C dX10_write_49 (by decide) ?_
    refine z_iload C dX10_write_51 3 rfl ?_
    refine z_imul C dX10_write_53 ?_
    refine z_lshr C dX10_write_54 ?_
    refine z_ldc2 (v := 255) C dX10_write_55 ko_X10_84 ?_
    refine z_land C dX10_write_58 ?_
    refine z_l2i C dX10_write_59 ?_
    refine z_iast C sB_4 dX10_write_60 (fun σ1 => ?_)
    refine z_iinc (v := 1) (lv1 := [(4, .int (x4 + 1)), (0, .ref (ga (kG K) 0)), (1, .long x1), (3, .int x3)]) C dX10_write_61 3 rfl (by decide) (by decide) rfl ?_
    refine z_goto (tgt := 31) C dX10_write_64 (by decide) ?_
    exact z_sub [1, 2, 3, 0] rfl (ih (x4 + 1) σ1)
theorem b_X10_write (K : zK) (C : zOk zshB K RX10 cX10_write (some .int) 5 1) (x1 : Int64) (x3 : Int32) (σ : zS) : Zf zshB K (f_X10_write x1 x3 σ) 0 [(0, .ref (ga (kG K) 0)), (1, .long x1), (3, .int x3)] [] σ := by
  unfold f_X10_write
  refine z_iload_n C dX10_write_0 2 rfl ?_
  refine z_iconst (v := 1) C dX10_write_1 (by decide) ?_
  refine z_bipush (v := 8) C dX10_write_2 (by decide) ?_
  refine z_callSz (As := [.int x3, .int 1, .int 8]) (st := []) C zy_X10_in zs_X10_in ml_X10_71 (by decide) (fun _ _ h => m_X10_in h) rfl rfl (Nat.le_of_ble_eq_true rfl) dX10_write_4 (fun v1 σ1 => ?_)
  refine z_if_ne (tgt := 13) C dX10_write_7 (by decide) ?_ ?_
  · refine z_bipush (v := (-3)) C dX10_write_10 (by decide) ?_
    exact z_iret C dX10_write_12
  · refine z_aload_n C dX10_write_13 0 rfl ?_
    refine z_getI C fd_X10_81 dX10_write_14 ?_
    refine z_iload_n C dX10_write_17 2 rfl ?_
    refine z_iadd C dX10_write_18 ?_
    refine z_sipush (v := 200) C dX10_write_19 (by decide) ?_
    refine z_icmp_le (tgt := 28) C dX10_write_22 (by decide) ?_ ?_
    · refine z_iconst (v := 0) C dX10_write_28 (by decide) ?_
      refine z_istore (lv1 := [(4, .int 0), (0, .ref (ga (kG K) 0)), (1, .long x1), (3, .int x3)]) C dX10_write_29 (by decide) rfl ?_
      exact z_sub [1, 2, 3, 0] rfl (b_X10_write_L31 K C x1 x3 zfu 0 σ1)
    · refine z_bipush (v := (-5)) C dX10_write_25 (by decide) ?_
      exact z_iret C dX10_write_27
theorem m_X10_write {l : Launch} {G : zG} {x1 : Int64} {x3 : Int32} {σ σ1 : zS} {r : Int32} (h : f_X10_write x1 x3 σ = some (r, σ1)) : zM l G zshB yX10_write cX10_write 5 (some .int) 1 [.ref (ga G 0), .long x1, .int x3] (zov (some .int) G r) σ σ1 :=
  z_met (by decide) (Nat.le_of_ble_eq_true rfl) h (fun K _ hG C => by subst hG; exact b_X10_write K C x1 x3 σ)
theorem b_X10_erase (K : zK) (C : zOk zshB K RX10 cX10_erase (some .int) 2 0) (σ : zS) : Zf zshB K (f_X10_erase σ) 0 [(0, .ref (ga (kG K) 0))] [] σ := by
  unfold f_X10_erase
  refine z_aload_n C dX10_erase_0 0 rfl ?_
  refine z_getI C fd_X10_81 dX10_erase_1 ?_
  refine z_istore_n (lv1 := [(1, .int (σ 0 6)), (0, .ref (ga (kG K) 0))]) C dX10_erase_4 (by decide) rfl ?_
  refine z_aload_n C dX10_erase_5 1 rfl ?_
  refine z_iconst (v := 0) C dX10_erase_6 (by decide) ?_
  refine z_putI C fd_X10_81 fwB_0_6 (lgB 0) (by decide) dX10_erase_7 (fun σ1 => ?_)
  refine z_iload_n C dX10_erase_10 0 rfl ?_
  exact z_iret C dX10_erase_11
theorem m_X10_erase {l : Launch} {G : zG} {σ σ1 : zS} {r : Int32} (h : f_X10_erase σ = some (r, σ1)) : zM l G zshB yX10_erase cX10_erase 2 (some .int) 0 [.ref (ga G 0)] (zov (some .int) G r) σ σ1 :=
  z_met (by decide) (Nat.le_of_ble_eq_true rfl) h (fun K _ hG C => by subst hG; exact b_X10_erase K C σ)
theorem b_X10_fails (K : zK) (C : zOk zshB K RX10 cX10_fails (some .boolean) 1 0) (σ : zS) : Zf zshB K (f_X10_fails σ) 0 [(0, .ref (ga (kG K) 0))] [] σ := by
  unfold f_X10_fails
  refine z_aload_n C dX10_fails_0 0 rfl ?_
  refine z_aload_n C dX10_fails_1 0 rfl ?_
  refine z_getI C fd_X10_89 dX10_fails_2 ?_
  refine z_putI C fd_X10_114 fwB_0_13 (lgB 0) (by decide) dX10_fails_5 (fun σ1 => ?_)
  refine z_iconst (v := 0) C dX10_fails_8 (by decide) ?_
  exact z_zret C (by decide) dX10_fails_9
theorem m_X10_fails {l : Launch} {G : zG} {σ σ1 : zS} {r : Int32} (h : f_X10_fails σ = some (r, σ1)) : zM l G zshB yX10_fails cX10_fails 1 (some .boolean) 0 [.ref (ga G 0)] (zov (some .boolean) G r) σ σ1 :=
  z_met (by decide) (Nat.le_of_ble_eq_true rfl) h (fun K _ hG C => by subst hG; exact b_X10_fails K C σ)
theorem b_X10_nextToken_J381 (K : zK) (C : zOk zshB K RX10 cX10_nextToken none 1 1) (s0 : Int64) (σ : zS) : Zf zshB K (f_X10_nextToken_J381 s0 σ) 381 [(0, .ref (ga (kG K) 0))] [.long s0, .ref (ga (kG K) 0)] σ := by
  unfold f_X10_nextToken_J381
  refine z_putL C fd_X10_100 fwB_0_10 (lgB 0) (by decide) dX10_nextToken_381 (fun σ1 => ?_)
  refine z_aload_n C dX10_nextToken_384 0 rfl ?_
  refine z_dup C dX10_nextToken_385 rfl ?_
  refine z_getI C fd_X10_86 dX10_nextToken_386 ?_
  refine z_iconst (v := 1) C dX10_nextToken_389 (by decide) ?_
  refine z_iadd C dX10_nextToken_390 ?_
  refine z_putI C fd_X10_86 fwB_0_8 (lgB 0) (by decide) dX10_nextToken_391 (fun σ2 => ?_)
  exact z_vret C dX10_nextToken_394
theorem b_X10_nextToken_J333 (K : zK) (C : zOk zshB K RX10 cX10_nextToken none 1 1) (σ : zS) : Zf zshB K (f_X10_nextToken_J333 σ) 333 [(0, .ref (ga (kG K) 0))] [] σ := by
  unfold f_X10_nextToken_J333
  refine z_aload_n C dX10_nextToken_333 0 rfl ?_
  refine z_aload_n C dX10_nextToken_334 0 rfl ?_
  refine z_getI C fd_X10_92 dX10_nextToken_335 ?_
  refine z_iconst (v := 4) C dX10_nextToken_338 (by decide) ?_
  refine z_icmp_le (tgt := 348) C dX10_nextToken_339 (by decide) ?_ ?_
  · refine z_ldc2 (v := (-1)) C dX10_nextToken_348 ko_X10_110 ?_
    refine z_putL C fd_X10_100 fwB_0_10 (lgB 0) (by decide) dX10_nextToken_351 (fun σ1 => ?_)
    refine z_goto (tgt := 394) C dX10_nextToken_354 (by decide) ?_
    exact z_vret C dX10_nextToken_394
  · refine z_ldc2 (v := (-4)) C dX10_nextToken_342 ko_X10_108 ?_
    refine z_goto (tgt := 351) C dX10_nextToken_345 (by decide) ?_
    refine z_putL C fd_X10_100 fwB_0_10 (lgB 0) (by decide) dX10_nextToken_351 (fun σ1 => ?_)
    refine z_goto (tgt := 394) C dX10_nextToken_354 (by decide) ?_
    exact z_vret C dX10_nextToken_394
theorem b_X10_nextToken_J307 (K : zK) (C : zOk zshB K RX10 cX10_nextToken none 1 1) (s0 : Int32) (k241 : zS → Option (Int32 × zS)) (hk241 : ∀ (σ : zS), Zf zshB K (k241 σ) 241 [(0, .ref (ga (kG K) 0))] [] σ) (σ : zS) : Zf zshB K (f_X10_nextToken_J307 k241 s0 σ) 307 [(0, .ref (ga (kG K) 0))] [.int s0, .ref (ga (kG K) 0)] σ := by
  unfold f_X10_nextToken_J307
  refine z_putI C fd_X10_95 fwB_0_12 (lgB 0) (by decide) dX10_nextToken_307 (fun σ1 => ?_)
  refine z_aload_n C dX10_nextToken_310 0 rfl ?_
  refine z_dup C dX10_nextToken_311 rfl ?_
  refine z_getI C fd_X10_92 dX10_nextToken_312 ?_
  refine z_iconst (v := 1) C dX10_nextToken_315 (by decide) ?_
  refine z_iadd C dX10_nextToken_316 ?_
  refine z_putI C fd_X10_92 fwB_0_11 (lgB 0) (by decide) dX10_nextToken_317 (fun σ2 => ?_)
  refine z_aload_n C dX10_nextToken_320 0 rfl ?_
  refine z_dup C dX10_nextToken_321 rfl ?_
  refine z_getI C fd_X10_86 dX10_nextToken_322 ?_
  refine z_iconst (v := 1) C dX10_nextToken_325 (by decide) ?_
  refine z_iadd C dX10_nextToken_326 ?_
  refine z_putI C fd_X10_86 fwB_0_8 (lgB 0) (by decide) dX10_nextToken_327 (fun σ3 => ?_)
  refine z_goto (tgt := 241) C dX10_nextToken_330 (by decide) ?_
  exact z_sub [0] rfl (hk241 σ3)
theorem b_X10_nextToken_L241 (K : zK) (C : zOk zshB K RX10 cX10_nextToken none 1 1) : ∀ (n : Nat) (σ : zS), Zf zshB K (f_X10_nextToken_L241 n σ) 241 [(0, .ref (ga (kG K) 0))] [] σ := by
  intro n
  induction n with
  | zero => intro σ; rw [f_X10_nextToken_L241]; exact z_none
  | succ n ih =>
  intro σ
  rw [f_X10_nextToken_L241]
  refine z_aload_n C dX10_nextToken_241 0 rfl ?_
  refine z_getI C fd_X10_86 dX10_nextToken_242 ?_
  refine z_aload_n C dX10_nextToken_245 0 rfl ?_
  refine z_getI C fd_X10_81 dX10_nextToken_246 ?_
  refine z_icmp_ge (tgt := 333) C dX10_nextToken_249 (by decide) ?_ ?_
  · exact z_sub [0] rfl (b_X10_nextToken_J333 K C σ)
  · refine z_aload_n C dX10_nextToken_252 0 rfl ?_
    refine z_getR C fd_X10_26 dX10_nextToken_253 ?_
    refine z_aload_n C dX10_nextToken_256 0 rfl ?_
    refine z_getI C fd_X10_86 dX10_nextToken_257 ?_
    refine z_iald C sB_4 dX10_nextToken_260 (fun v1 => ?_)
    refine z_bipush (v := 48) C dX10_nextToken_261 (by decide) ?_
    refine z_bipush (v := 57) C dX10_nextToken_263 (by decide) ?_
    refine z_callSz (As := [.int v1, .int 48, .int 57]) (st := []) C zy_X10_in zs_X10_in ml_X10_71 (by decide) (fun _ _ h => m_X10_in h) rfl rfl (Nat.le_of_ble_eq_true rfl) dX10_nextToken_265 (fun v2 σ2 => ?_)
    refine z_if_eq (tgt := 333) C dX10_nextToken_268 (by decide) ?_ ?_
    · exact z_sub [0] rfl (b_X10_nextToken_J333 K C σ2)
    · refine z_aload_n C dX10_nextToken_271 0 rfl ?_
      refine z_aload_n C dX10_nextToken_272 0 rfl ?_
      refine z_getI C fd_X10_92 dX10_nextToken_273 ?_
      refine z_iconst (v := 4) C dX10_nextToken_276 (by decide) ?_
      refine z_icmp_ge (tgt := 303) C dX10_nextToken_277 (by decide) ?_ ?_
      · refine z_aload_n C dX10_nextToken_303 0 rfl ?_
        refine z_getI C fd_X10_95 dX10_nextToken_304 ?_
        exact z_sub [0] rfl (b_X10_nextToken_J307 K C (σ2 0 12) _ ih σ2)
      · refine z_bipush (v := 10) C dX10_nextToken_280 (by decide) ?_
        refine z_aload_n C dX10_nextToken_282 0 rfl ?_
        refine z_getI C fd_X10_95 dX10_nextToken_283 ?_
        refine z_imul C dX10_nextToken_286 ?_
        refine z_aload_n C dX10_nextToken_287 0 rfl ?_
        refine z_getR C fd_X10_26 dX10_nextToken_288 ?_
        refine z_aload_n C dX10_nextToken_291 0 rfl ?_
        refine z_getI C fd_X10_86 dX10_nextToken_292 ?_
        refine z_iald C sB_4 dX10_nextToken_295 (fun v3 => ?_)
        refine z_iadd C dX10_nextToken_296 ?_
        refine z_bipush (v := 48) C dX10_nextToken_297 (by decide) ?_
        refine z_isub C dX10_nextToken_299 ?_
        refine z_goto (tgt := 307) C dX10_nextToken_300 (by decide) ?_
        exact z_sub [0] rfl (b_X10_nextToken_J307 K C (((10 * (σ2 0 12)) + v3) - 48) _ ih σ2)
theorem b_X10_nextToken_J191 (K : zK) (C : zOk zshB K RX10 cX10_nextToken none 1 1) (σ : zS) : Zf zshB K (f_X10_nextToken_J191 σ) 191 [(0, .ref (ga (kG K) 0))] [] σ := by
  unfold f_X10_nextToken_J191
  refine z_aload_n C dX10_nextToken_191 0 rfl ?_
  refine z_aload_n C dX10_nextToken_192 0 rfl ?_
  refine z_getI C fd_X10_86 dX10_nextToken_193 ?_
  refine z_aload_n C dX10_nextToken_196 0 rfl ?_
  refine z_getI C fd_X10_89 dX10_nextToken_197 ?_
  refine z_isub C dX10_nextToken_200 ?_
  refine z_bipush (v := 9) C dX10_nextToken_201 (by decide) ?_
  refine z_icmp_le (tgt := 212) C dX10_nextToken_203 (by decide) ?_ ?_
  · refine z_aload_n C dX10_nextToken_212 0 rfl ?_
    refine z_getL C fd_X10_100 dX10_nextToken_213 ?_
    refine z_putL C fd_X10_100 fwB_0_10 (lgB 0) (by decide) dX10_nextToken_216 (fun σ1 => ?_)
    refine z_goto (tgt := 394) C dX10_nextToken_219 (by decide) ?_
    exact z_vret C dX10_nextToken_394
  · refine z_ldc2 (v := (-4)) C dX10_nextToken_206 ko_X10_108 ?_
    refine z_goto (tgt := 216) C dX10_nextToken_209 (by decide) ?_
    refine z_putL C fd_X10_100 fwB_0_10 (lgB 0) (by decide) dX10_nextToken_216 (fun σ1 => ?_)
    refine z_goto (tgt := 394) C dX10_nextToken_219 (by decide) ?_
    exact z_vret C dX10_nextToken_394
theorem b_X10_nextToken_J175 (K : zK) (C : zOk zshB K RX10 cX10_nextToken none 1 1) (s0 : Int64) (k101 : zS → Option (Int32 × zS)) (hk101 : ∀ (σ : zS), Zf zshB K (k101 σ) 101 [(0, .ref (ga (kG K) 0))] [] σ) (σ : zS) : Zf zshB K (f_X10_nextToken_J175 k101 s0 σ) 175 [(0, .ref (ga (kG K) 0))] [.long s0, .ref (ga (kG K) 0)] σ := by
  unfold f_X10_nextToken_J175
  refine z_putL C fd_X10_100 fwB_0_10 (lgB 0) (by decide) dX10_nextToken_175 (fun σ1 => ?_)
  refine z_aload_n C dX10_nextToken_178 0 rfl ?_
  refine z_dup C dX10_nextToken_179 rfl ?_
  refine z_getI C fd_X10_86 dX10_nextToken_180 ?_
  refine z_iconst (v := 1) C dX10_nextToken_183 (by decide) ?_
  refine z_iadd C dX10_nextToken_184 ?_
  refine z_putI C fd_X10_86 fwB_0_8 (lgB 0) (by decide) dX10_nextToken_185 (fun σ2 => ?_)
  refine z_goto (tgt := 101) C dX10_nextToken_188 (by decide) ?_
  exact z_sub [0] rfl (hk101 σ2)
theorem b_X10_nextToken_L101 (K : zK) (C : zOk zshB K RX10 cX10_nextToken none 1 1) : ∀ (n : Nat) (σ : zS), Zf zshB K (f_X10_nextToken_L101 n σ) 101 [(0, .ref (ga (kG K) 0))] [] σ := by
  intro n
  induction n with
  | zero => intro σ; rw [f_X10_nextToken_L101]; exact z_none
  | succ n ih =>
  intro σ
  rw [f_X10_nextToken_L101]
  refine z_aload_n C dX10_nextToken_101 0 rfl ?_
  refine z_getI C fd_X10_86 dX10_nextToken_102 ?_
  refine z_aload_n C dX10_nextToken_105 0 rfl ?_
  refine z_getI C fd_X10_81 dX10_nextToken_106 ?_
  refine z_icmp_ge (tgt := 191) C dX10_nextToken_109 (by decide) ?_ ?_
  · exact z_sub [0] rfl (b_X10_nextToken_J191 K C σ)
  · refine z_aload_n C dX10_nextToken_112 0 rfl ?_
    refine z_getR C fd_X10_26 dX10_nextToken_113 ?_
    refine z_aload_n C dX10_nextToken_116 0 rfl ?_
    refine z_getI C fd_X10_86 dX10_nextToken_117 ?_
    refine z_iald C sB_4 dX10_nextToken_120 (fun v1 => ?_)
    refine z_bipush (v := 97) C dX10_nextToken_121 (by decide) ?_
    refine z_bipush (v := 122) C dX10_nextToken_123 (by decide) ?_
    refine z_callSz (As := [.int v1, .int 97, .int 122]) (st := []) C zy_X10_in zs_X10_in ml_X10_71 (by decide) (fun _ _ h => m_X10_in h) rfl rfl (Nat.le_of_ble_eq_true rfl) dX10_nextToken_125 (fun v2 σ2 => ?_)
    refine z_if_eq (tgt := 191) C dX10_nextToken_128 (by decide) ?_ ?_
    · exact z_sub [0] rfl (b_X10_nextToken_J191 K C σ2)
    · refine z_aload_n C dX10_nextToken_131 0 rfl ?_
      refine z_aload_n C dX10_nextToken_132 0 rfl ?_
      refine z_getI C fd_X10_86 dX10_nextToken_133 ?_
      refine z_aload_n C dX10_nextToken_136 0 rfl ?_
      refine z_getI C fd_X10_89 dX10_nextToken_137 ?_
      refine z_isub C dX10_nextToken_140 ?_
      refine z_bipush (v := 9) C dX10_nextToken_141 (by decide) ?_
      refine z_icmp_ge (tgt := 172) C dX10_nextToken_143 (by decide) ?_ ?_
      · refine z_ldc2 (v := (-4)) C dX10_nextToken_172 ko_X10_108 ?_
        exact z_sub [0] rfl (b_X10_nextToken_J175 K C (((-4) : Int64)) _ ih σ2)
      · refine z_ldc2 (v := 27) C dX10_nextToken_146 ko_X10_104 ?_
        refine z_aload_n C dX10_nextToken_149 0 rfl ?_
        refine z_getL C fd_X10_100 dX10_nextToken_150 ?_
        refine z_lmul C dX10_nextToken_153 ?_
        refine z_aload_n C dX10_nextToken_154 0 rfl ?_
        refine z_getR C fd_X10_26 dX10_nextToken_155 ?_
        refine z_aload_n C dX10_nextToken_158 0 rfl ?_
        refine z_getI C fd_X10_86 dX10_nextToken_159 ?_
        refine z_iald C sB_4 dX10_nextToken_162 (fun v3 => ?_)
        refine z_i2l C dX10_nextToken_163 ?_
        refine z_ladd C dX10_nextToken_164 ?_
        refine z_ldc2 (v := 96) C dX10_nextToken_165 ko_X10_106 ?_
        refine z_lsub C dX10_nextToken_168 ?_
        refine z_goto (tgt := 175) C dX10_nextToken_169 (by decide) ?_
        exact z_sub [0] rfl (b_X10_nextToken_J175 K C (((((27 : Int64)) * (zlg (σ2 0 10) (σ2 0 1010))) + (Int32.toInt64 v3)) - ((96 : Int64))) _ ih σ2)
theorem b_X10_nextToken_J38 (K : zK) (C : zOk zshB K RX10 cX10_nextToken none 1 1) (σ : zS) : Zf zshB K (f_X10_nextToken_J38 σ) 38 [(0, .ref (ga (kG K) 0))] [] σ := by
  unfold f_X10_nextToken_J38
  refine z_aload_n C dX10_nextToken_38 0 rfl ?_
  refine z_aload_n C dX10_nextToken_39 0 rfl ?_
  refine z_getI C fd_X10_86 dX10_nextToken_40 ?_
  refine z_putI C fd_X10_89 fwB_0_9 (lgB 0) (by decide) dX10_nextToken_43 (fun σ1 => ?_)
  refine z_aload_n C dX10_nextToken_46 0 rfl ?_
  refine z_iconst (v := 0) C dX10_nextToken_47 (by decide) ?_
  refine z_putI C fd_X10_92 fwB_0_11 (lgB 0) (by decide) dX10_nextToken_48 (fun σ2 => ?_)
  refine z_aload_n C dX10_nextToken_51 0 rfl ?_
  refine z_iconst (v := 0) C dX10_nextToken_52 (by decide) ?_
  refine z_putI C fd_X10_95 fwB_0_12 (lgB 0) (by decide) dX10_nextToken_53 (fun σ3 => ?_)
  refine z_aload_n C dX10_nextToken_56 0 rfl ?_
  refine z_getI C fd_X10_86 dX10_nextToken_57 ?_
  refine z_aload_n C dX10_nextToken_60 0 rfl ?_
  refine z_getI C fd_X10_81 dX10_nextToken_61 ?_
  refine z_icmp_ne (tgt := 77) C dX10_nextToken_64 (by decide) ?_ ?_
  · refine z_aload_n C dX10_nextToken_67 0 rfl ?_
    refine z_ldc2 (v := (-2)) C dX10_nextToken_68 ko_X10_98 ?_
    refine z_putL C fd_X10_100 fwB_0_10 (lgB 0) (by decide) dX10_nextToken_71 (fun σ4 => ?_)
    refine z_goto (tgt := 394) C dX10_nextToken_74 (by decide) ?_
    exact z_vret C dX10_nextToken_394
  · refine z_aload_n C dX10_nextToken_77 0 rfl ?_
    refine z_getR C fd_X10_26 dX10_nextToken_78 ?_
    refine z_aload_n C dX10_nextToken_81 0 rfl ?_
    refine z_getI C fd_X10_86 dX10_nextToken_82 ?_
    refine z_iald C sB_4 dX10_nextToken_85 (fun v4 => ?_)
    refine z_bipush (v := 97) C dX10_nextToken_86 (by decide) ?_
    refine z_bipush (v := 122) C dX10_nextToken_88 (by decide) ?_
    refine z_callSz (As := [.int v4, .int 97, .int 122]) (st := []) C zy_X10_in zs_X10_in ml_X10_71 (by decide) (fun _ _ h => m_X10_in h) rfl rfl (Nat.le_of_ble_eq_true rfl) dX10_nextToken_90 (fun v5 σ5 => ?_)
    refine z_if_eq (tgt := 222) C dX10_nextToken_93 (by decide) ?_ ?_
    · refine z_aload_n C dX10_nextToken_222 0 rfl ?_
      refine z_getR C fd_X10_26 dX10_nextToken_223 ?_
      refine z_aload_n C dX10_nextToken_226 0 rfl ?_
      refine z_getI C fd_X10_86 dX10_nextToken_227 ?_
      refine z_iald C sB_4 dX10_nextToken_230 (fun v6 => ?_)
      refine z_bipush (v := 48) C dX10_nextToken_231 (by decide) ?_
      refine z_bipush (v := 57) C dX10_nextToken_233 (by decide) ?_
      refine z_callSz (As := [.int v6, .int 48, .int 57]) (st := []) C zy_X10_in zs_X10_in ml_X10_71 (by decide) (fun _ _ h => m_X10_in h) rfl rfl (Nat.le_of_ble_eq_true rfl) dX10_nextToken_235 (fun v7 σ7 => ?_)
      refine z_if_eq (tgt := 357) C dX10_nextToken_238 (by decide) ?_ ?_
      · refine z_aload_n C dX10_nextToken_357 0 rfl ?_
        refine z_aload_n C dX10_nextToken_358 0 rfl ?_
        refine z_getR C fd_X10_26 dX10_nextToken_359 ?_
        refine z_aload_n C dX10_nextToken_362 0 rfl ?_
        refine z_getI C fd_X10_86 dX10_nextToken_363 ?_
        refine z_iald C sB_4 dX10_nextToken_366 (fun v8 => ?_)
        refine z_bipush (v := 59) C dX10_nextToken_367 (by decide) ?_
        refine z_icmp_ne (tgt := 378) C dX10_nextToken_369 (by decide) ?_ ?_
        · refine z_ldc2 (v := (-3)) C dX10_nextToken_372 ko_X10_112 ?_
          refine z_goto (tgt := 381) C dX10_nextToken_375 (by decide) ?_
          exact z_sub [0] rfl (b_X10_nextToken_J381 K C (((-3) : Int64)) σ7)
        · refine z_ldc2 (v := (-4)) C dX10_nextToken_378 ko_X10_108 ?_
          exact z_sub [0] rfl (b_X10_nextToken_J381 K C (((-4) : Int64)) σ7)
      · exact z_sub [0] rfl (b_X10_nextToken_L241 K C zfu σ7)
    · refine z_aload_n C dX10_nextToken_96 0 rfl ?_
      refine z_lconst (v := 0) C dX10_nextToken_97 (by decide) ?_
      refine z_putL C fd_X10_100 fwB_0_10 (lgB 0) (by decide) dX10_nextToken_98 (fun σ6 => ?_)
      exact z_sub [0] rfl (b_X10_nextToken_L101 K C zfu σ6)
theorem b_X10_nextToken_L0 (K : zK) (C : zOk zshB K RX10 cX10_nextToken none 1 1) : ∀ (n : Nat) (σ : zS), Zf zshB K (f_X10_nextToken_L0 n σ) 0 [(0, .ref (ga (kG K) 0))] [] σ := by
  intro n
  induction n with
  | zero => intro σ; rw [f_X10_nextToken_L0]; exact z_none
  | succ n ih =>
  intro σ
  rw [f_X10_nextToken_L0]
  refine z_aload_n C dX10_nextToken_0 0 rfl ?_
  refine z_getI C fd_X10_86 dX10_nextToken_1 ?_
  refine z_aload_n C dX10_nextToken_4 0 rfl ?_
  refine z_getI C fd_X10_81 dX10_nextToken_5 ?_
  refine z_icmp_ge (tgt := 38) C dX10_nextToken_8 (by decide) ?_ ?_
  · exact z_sub [0] rfl (b_X10_nextToken_J38 K C σ)
  · refine z_aload_n C dX10_nextToken_11 0 rfl ?_
    refine z_getR C fd_X10_26 dX10_nextToken_12 ?_
    refine z_aload_n C dX10_nextToken_15 0 rfl ?_
    refine z_getI C fd_X10_86 dX10_nextToken_16 ?_
    refine z_iald C sB_4 dX10_nextToken_19 (fun v1 => ?_)
    refine z_bipush (v := 32) C dX10_nextToken_20 (by decide) ?_
    refine z_icmp_ne (tgt := 38) C dX10_nextToken_22 (by decide) ?_ ?_
    · refine z_aload_n C dX10_nextToken_25 0 rfl ?_
      refine z_dup C dX10_nextToken_26 rfl ?_
      refine z_getI C fd_X10_86 dX10_nextToken_27 ?_
      refine z_iconst (v := 1) C dX10_nextToken_30 (by decide) ?_
      refine z_iadd C dX10_nextToken_31 ?_
      refine z_putI C fd_X10_86 fwB_0_8 (lgB 0) (by decide) dX10_nextToken_32 (fun σ2 => ?_)
      refine z_goto (tgt := 0) C dX10_nextToken_35 (by decide) ?_
      exact z_sub [0] rfl (ih σ2)
    · exact z_sub [0] rfl (b_X10_nextToken_J38 K C σ)
theorem b_X10_nextToken (K : zK) (C : zOk zshB K RX10 cX10_nextToken none 1 1) (σ : zS) : Zf zshB K (f_X10_nextToken σ) 0 [(0, .ref (ga (kG K) 0))] [] σ := by
  unfold f_X10_nextToken
  exact z_sub [0] rfl (b_X10_nextToken_L0 K C zfu σ)
theorem m_X10_nextToken {l : Launch} {G : zG} {σ σ1 : zS} {r : Int32} (h : f_X10_nextToken σ = some (r, σ1)) : zM l G zshB yX10_nextToken cX10_nextToken 1 none 1 [.ref (ga G 0)] (zov none G r) σ σ1 :=
  z_met (by decide) (Nat.le_of_ble_eq_true rfl) h (fun K _ hG C => by subst hG; exact b_X10_nextToken K C σ)
theorem b_X10_isNumber (K : zK) (C : zOk zshB K RX10 cX10_isNumber (some .boolean) 4 2) (x1 : Int32) (x2 : Int32) (x3 : Int32) (σ : zS) : Zf zshB K (f_X10_isNumber x1 x2 x3 σ) 0 [(0, .ref (ga (kG K) 0)), (1, .int x1), (2, .int x2), (3, .int x3)] [] σ := by
  unfold f_X10_isNumber
  refine z_aload_n C dX10_isNumber_0 0 rfl ?_
  refine z_callVv (q := 0) (As := []) (st := []) C zy_X10_nextToken zv_X10_nextToken ml_X10_117 rcB_0 (by decide) (fun _ _ h => m_X10_nextToken h) rfl rfl (Nat.le_of_ble_eq_true rfl) dX10_isNumber_1 (fun _ σ1 => ?_)
  refine z_aload_n C dX10_isNumber_4 0 rfl ?_
  refine z_getL C fd_X10_100 dX10_isNumber_5 ?_
  refine z_ldc2 (v := (-1)) C dX10_isNumber_8 ko_X10_110 ?_
  refine z_lcmp C dX10_isNumber_11 ?_
  refine z_if_ne (tgt := 27) C dX10_isNumber_12 (by decide) ?_ ?_
  · refine z_aload_n C dX10_isNumber_15 0 rfl ?_
    refine z_getI C fd_X10_95 dX10_isNumber_16 ?_
    refine z_iload_n C dX10_isNumber_19 2 rfl ?_
    refine z_iload_n C dX10_isNumber_20 3 rfl ?_
    refine z_callSz (As := [.int (σ1 0 12), .int x2, .int x3]) (st := []) C zy_X10_in zs_X10_in ml_X10_71 (by decide) (fun _ _ h => m_X10_in h) rfl rfl (Nat.le_of_ble_eq_true rfl) dX10_isNumber_21 (fun v2 σ2 => ?_)
    refine z_if_ne (tgt := 32) C dX10_isNumber_24 (by decide) ?_ ?_
    · refine z_aload_n C dX10_isNumber_27 0 rfl ?_
      refine z_callVz (q := 0) (As := []) (st := []) C zy_X10_fails zv_X10_fails ml_X10_120 rcB_0 (by decide) (fun _ _ h => m_X10_fails h) rfl rfl (Nat.le_of_ble_eq_true rfl) dX10_isNumber_28 (fun v3 σ3 => ?_)
      exact z_zrb C dX10_isNumber_31
    · refine z_aload_n C dX10_isNumber_32 0 rfl ?_
      refine z_getR C fd_X10_29 dX10_isNumber_33 ?_
      refine z_iload_n C dX10_isNumber_36 1 rfl ?_
      refine z_aload_n C dX10_isNumber_37 0 rfl ?_
      refine z_getI C fd_X10_95 dX10_isNumber_38 ?_
      refine z_iast C sB_5 dX10_isNumber_41 (fun σ3 => ?_)
      refine z_iconst (v := 1) C dX10_isNumber_42 (by decide) ?_
      exact z_zret C (by decide) dX10_isNumber_43
  · refine z_aload_n C dX10_isNumber_27 0 rfl ?_
    refine z_callVz (q := 0) (As := []) (st := []) C zy_X10_fails zv_X10_fails ml_X10_120 rcB_0 (by decide) (fun _ _ h => m_X10_fails h) rfl rfl (Nat.le_of_ble_eq_true rfl) dX10_isNumber_28 (fun v2 σ2 => ?_)
    exact z_zrb C dX10_isNumber_31
theorem m_X10_isNumber {l : Launch} {G : zG} {x1 : Int32} {x2 : Int32} {x3 : Int32} {σ σ1 : zS} {r : Int32} (h : f_X10_isNumber x1 x2 x3 σ = some (r, σ1)) : zM l G zshB yX10_isNumber cX10_isNumber 4 (some .boolean) 2 [.ref (ga G 0), .int x1, .int x2, .int x3] (zov (some .boolean) G r) σ σ1 :=
  z_met (by decide) (Nat.le_of_ble_eq_true rfl) h (fun K _ hG C => by subst hG; exact b_X10_isNumber K C x1 x2 x3 σ)
theorem b_X10_isWay (K : zK) (C : zOk zshB K RX10 cX10_isWay (some .boolean) 2 3) (x1 : Int32) (σ : zS) : Zf zshB K (f_X10_isWay x1 σ) 0 [(0, .ref (ga (kG K) 0)), (1, .int x1)] [] σ := by
  unfold f_X10_isWay
  refine z_aload_n C dX10_isWay_0 0 rfl ?_
  refine z_iload_n C dX10_isWay_1 1 rfl ?_
  refine z_iconst (v := 1) C dX10_isWay_2 (by decide) ?_
  refine z_iadd C dX10_isWay_3 ?_
  refine z_iconst (v := 0) C dX10_isWay_4 (by decide) ?_
  refine z_bipush (v := 9) C dX10_isWay_5 (by decide) ?_
  refine z_callVz (q := 0) (As := [.int (x1 + 1), .int 0, .int 9]) (st := []) C zy_X10_isNumber zv_X10_isNumber ml_X10_124 rcB_0 (by decide) (fun _ _ h => m_X10_isNumber h) rfl rfl (Nat.le_of_ble_eq_true rfl) dX10_isWay_7 (fun v1 σ1 => ?_)
  refine z_if_eq (tgt := 26) C dX10_isWay_10 (by decide) ?_ ?_
  · refine z_iconst (v := 0) C dX10_isWay_26 (by decide) ?_
    exact z_zret C (by decide) dX10_isWay_27
  · refine z_aload_n C dX10_isWay_13 0 rfl ?_
    refine z_iload_n C dX10_isWay_14 1 rfl ?_
    refine z_iconst (v := 2) C dX10_isWay_15 (by decide) ?_
    refine z_iadd C dX10_isWay_16 ?_
    refine z_iconst (v := 0) C dX10_isWay_17 (by decide) ?_
    refine z_bipush (v := 9) C dX10_isWay_18 (by decide) ?_
    refine z_callVz (q := 0) (As := [.int (x1 + 2), .int 0, .int 9]) (st := []) C zy_X10_isNumber zv_X10_isNumber ml_X10_124 rcB_0 (by decide) (fun _ _ h => m_X10_isNumber h) rfl rfl (Nat.le_of_ble_eq_true rfl) dX10_isWay_20 (fun v2 σ2 => ?_)
    refine z_if_ne (tgt := 28) C dX10_isWay_23 (by decide) ?_ ?_
    · refine z_iconst (v := 0) C dX10_isWay_26 (by decide) ?_
      exact z_zret C (by decide) dX10_isWay_27
    · refine z_aload_n C dX10_isWay_28 0 rfl ?_
      refine z_getR C fd_X10_29 dX10_isWay_29 ?_
      refine z_iload_n C dX10_isWay_32 1 rfl ?_
      refine z_iconst (v := 1) C dX10_isWay_33 (by decide) ?_
      refine z_iadd C dX10_isWay_34 ?_
      refine z_iald C sB_5 dX10_isWay_35 (fun v3 => ?_)
      refine z_aload_n C dX10_isWay_36 0 rfl ?_
      refine z_getR C fd_X10_29 dX10_isWay_37 ?_
      refine z_iload_n C dX10_isWay_40 1 rfl ?_
      refine z_iconst (v := 2) C dX10_isWay_41 (by decide) ?_
      refine z_iadd C dX10_isWay_42 ?_
      refine z_iald C sB_5 dX10_isWay_43 (fun v4 => ?_)
      refine z_icmp_ne (tgt := 54) C dX10_isWay_44 (by decide) ?_ ?_
      · refine z_aload_n C dX10_isWay_47 0 rfl ?_
        refine z_callVz (q := 0) (As := []) (st := []) C zy_X10_fails zv_X10_fails ml_X10_120 rcB_0 (by decide) (fun _ _ h => m_X10_fails h) rfl rfl (Nat.le_of_ble_eq_true rfl) dX10_isWay_48 (fun v5 σ5 => ?_)
        refine z_goto (tgt := 65) C dX10_isWay_51 (by decide) ?_
        exact z_zrb C dX10_isWay_65
      · refine z_aload_n C dX10_isWay_54 0 rfl ?_
        refine z_iload_n C dX10_isWay_55 1 rfl ?_
        refine z_iconst (v := 3) C dX10_isWay_56 (by decide) ?_
        refine z_iadd C dX10_isWay_57 ?_
        refine z_iconst (v := 0) C dX10_isWay_58 (by decide) ?_
        refine z_sipush (v := 999) C dX10_isWay_59 (by decide) ?_
        refine z_callVz (q := 0) (As := [.int (x1 + 3), .int 0, .int 999]) (st := []) C zy_X10_isNumber zv_X10_isNumber ml_X10_124 rcB_0 (by decide) (fun _ _ h => m_X10_isNumber h) rfl rfl (Nat.le_of_ble_eq_true rfl) dX10_isWay_62 (fun v5 σ5 => ?_)
        exact z_zrb C dX10_isWay_65
theorem m_X10_isWay {l : Launch} {G : zG} {x1 : Int32} {σ σ1 : zS} {r : Int32} (h : f_X10_isWay x1 σ = some (r, σ1)) : zM l G zshB yX10_isWay cX10_isWay 2 (some .boolean) 3 [.ref (ga G 0), .int x1] (zov (some .boolean) G r) σ σ1 :=
  z_met (by decide) (Nat.le_of_ble_eq_true rfl) h (fun K _ hG C => by subst hG; exact b_X10_isWay K C x1 σ)
