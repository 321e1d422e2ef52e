theorem b_X9_isWithin (K : zK) (C : zOk zshA K RX9 cX9_isWithin (some .boolean) 3 0) (x0 : Int32) (x1 : Int32) (x2 : Int32) (σ : zS) : Zf zshA K (f_X9_isWithin x0 x1 x2 σ) 0 [(0, .int x0), (1, .int x1), (2, .int x2)] [] σ := by
  unfold f_X9_isWithin
  refine z_iload_n C dX9_isWithin_0 0 rfl ?_
  refine z_iload_n C dX9_isWithin_1 1 rfl ?_
  refine z_icmp_lt (tgt := 14) C dX9_isWithin_2 (by decide) ?_ ?_
  · refine z_iconst (v := 0) C dX9_isWithin_14 (by decide) ?_
    exact z_zret C (by decide) dX9_isWithin_15
  · refine z_iload_n C dX9_isWithin_5 0 rfl ?_
    refine z_iload_n C dX9_isWithin_6 2 rfl ?_
    refine z_icmp_gt (tgt := 14) C dX9_isWithin_7 (by decide) ?_ ?_
    · refine z_iconst (v := 0) C dX9_isWithin_14 (by decide) ?_
      exact z_zret C (by decide) dX9_isWithin_15
    · refine z_iconst (v := 1) C dX9_isWithin_10 (by decide) ?_
      refine z_goto (tgt := 15) C dX9_isWithin_11 (by decide) ?_
      exact z_zret C (by decide) dX9_isWithin_15
theorem m_X9_isWithin {l : Launch} {G : zG} {x0 : Int32} {x1 : Int32} {x2 : Int32} {σ σ1 : zS} {r : Int32} (h : f_X9_isWithin x0 x1 x2 σ = some (r, σ1)) : zM l G zshA yX9_isWithin cX9_isWithin 3 (some .boolean) 0 [.int x0, .int x1, .int x2] (zov (some .boolean) G r) σ σ1 :=
  z_met (by decide) (Nat.le_of_ble_eq_true rfl) h (fun K _ hG C => by subst hG; exact b_X9_isWithin K C x0 x1 x2 σ)
theorem b_X7_hasRoomFor (K : zK) (C : zOk zshA K RX7 cX7_hasRoomFor (some .boolean) 2 0) (x1 : Int32) (σ : zS) : Zf zshA K (f_X7_hasRoomFor x1 σ) 0 [(0, .ref (ga (kG K) 1)), (1, .int x1)] [] σ := by
  unfold f_X7_hasRoomFor
  refine z_iload_n C dX7_hasRoomFor_0 1 rfl ?_
  refine z_sipush (v := 200) C dX7_hasRoomFor_1 (by decide) ?_
  refine z_aload_n C dX7_hasRoomFor_4 0 rfl ?_
  refine z_getI C fd_X7_18 dX7_hasRoomFor_5 ?_
  refine z_isub C dX7_hasRoomFor_8 ?_
  refine z_icmp_gt (tgt := 16) C dX7_hasRoomFor_9 (by decide) ?_ ?_
  · refine z_iconst (v := 0) C dX7_hasRoomFor_16 (by decide) ?_
    exact z_zret C (by decide) dX7_hasRoomFor_17
  · refine z_iconst (v := 1) C dX7_hasRoomFor_12 (by decide) ?_
    refine z_goto (tgt := 17) C dX7_hasRoomFor_13 (by decide) ?_
    exact z_zret C (by decide) dX7_hasRoomFor_17
theorem m_X7_hasRoomFor {l : Launch} {G : zG} {x1 : Int32} {σ σ1 : zS} {r : Int32} (h : f_X7_hasRoomFor x1 σ = some (r, σ1)) : zM l G zshA yX7_hasRoomFor cX7_hasRoomFor 2 (some .boolean) 0 [.ref (ga G 1), .int x1] (zov (some .boolean) G r) σ σ1 :=
  z_met (by decide) (Nat.le_of_ble_eq_true rfl) h (fun K _ hG C => by subst hG; exact b_X7_hasRoomFor K C x1 σ)
theorem b_X7_append_L3 (K : zK) (C : zOk zshA K RX7 cX7_append (some .int) 5 0) (x1 : Int64) (x3 : Int32) : ∀ (n : Nat) (x4 : Int32) (σ : zS), Zf zshA K (f_X7_append_L3 x1 x3 n x4 σ) 3 [(0, .ref (ga (kG K) 1)), (1, .long x1), (3, .int x3), (4, .int x4)] [] σ := by
  intro n
  induction n with
  | zero => intro x4 σ; rw [f_X7_append_L3]; exact z_none
  | succ n ih =>
  intro x4 σ
  rw [f_X7_append_L3]
  refine z_iload C dX7_append_3 3 rfl ?_
  refine z_iload_n C dX7_append_5 2 rfl ?_
  refine z_icmp_ge (tgt := 56) C dX7_append_6 (by decide) ?_ ?_
  · refine z_aload_n C dX7_append_56 0 rfl ?_
    refine z_getI C fd_X7_18 dX7_append_57 ?_
    exact z_iret C dX7_append_60
  · refine z_aload_n C dX7_append_9 0 rfl ?_
    refine z_getI C fd_X7_18 dX7_append_10 ?_
    refine z_sipush (v := 200) C dX7_append_13 (by decide) ?_
    refine z_icmp_ge (tgt := 56) C dX7_append_16 (by decide) ?_ ?_
    · refine z_aload_n C dX7_append_56 0 rfl ?_
      refine z_getI C fd_X7_18 dX7_append_57 ?_
      exact z_iret C dX7_append_60
    · refine z_aload_n C dX7_append_19 0 rfl ?_
      refine z_getR C fd_X7_9 dX7_append_20 ?_
      refine z_aload_n C dX7_append_23 0 rfl ?_
      refine z_getI C fd_X7_18 dX7_append_24 ?_
      refine z_lload_n C dX7_append_27 1 rfl ?_
      refine z_bipush (v := 8) C dX7_append_28 (by decide) ?_
      refine z_iload C dX7_append_30 3 rfl ?_
      refine z_imul C dX7_append_32 ?_
      refine z_lshr C dX7_append_33 ?_
      refine z_l2i C dX7_append_34 ?_
      refine z_sipush (v := 255) C dX7_append_35 (by decide) ?_
      refine z_iand C dX7_append_38 ?_
      refine z_iast C sA_2 dX7_append_39 (fun σ1 => ?_)
      refine z_aload_n C dX7_append_40 0 rfl ?_
      refine z_dup C dX7_append_41 rfl ?_
      refine z_getI C fd_X7_18 dX7_append_42 ?_
      refine z_iconst (v := 1) C dX7_append_45 (by decide) ?_
      refine z_iadd C dX7_append_46 ?_
      refine z_putI C fd_X7_18 fwA_1_1 (lgA 1) (by decide) dX7_append_47 (fun σ2 => ?_)
      refine z_iinc (v := 1) (lv1 := [(4, .int (x4 + 1)), (0, .ref (ga (kG K) 1)), (1, .long x1), (3, .int x3)]) C dX7_append_50 3 rfl (by decide) (by decide) rfl ?_
      refine z_goto (tgt := 3) C dX7_append_53 (by decide) ?_
      exact z_sub [1, 2, 3, 0] rfl (ih (x4 + 1) σ2)
theorem b_X7_append (K : zK) (C : zOk zshA K RX7 cX7_append (some .int) 5 0) (x1 : Int64) (x3 : Int32) (σ : zS) : Zf zshA K (f_X7_append x1 x3 σ) 0 [(0, .ref (ga (kG K) 1)), (1, .long x1), (3, .int x3)] [] σ := by
  unfold f_X7_append
  refine z_iconst (v := 0) C dX7_append_0 (by decide) ?_
  refine z_istore (lv1 := [(4, .int 0), (0, .ref (ga (kG K) 1)), (1, .long x1), (3, .int x3)]) C dX7_append_1 (by decide) rfl ?_
  exact z_sub [1, 2, 3, 0] rfl (b_X7_append_L3 K C x1 x3 zfu 0 σ)
theorem m_X7_append {l : Launch} {G : zG} {x1 : Int64} {x3 : Int32} {σ σ1 : zS} {r : Int32} (h : f_X7_append x1 x3 σ = some (r, σ1)) : zM l G zshA yX7_append cX7_append 5 (some .int) 0 [.ref (ga G 1), .long x1, .int x3] (zov (some .int) G r) σ σ1 :=
  z_met (by decide) (Nat.le_of_ble_eq_true rfl) h (fun K _ hG C => by subst hG; exact b_X7_append K C x1 x3 σ)
theorem b_X9_write (K : zK) (C : zOk zshA K RX9 cX9_write (some .int) 4 1) (x1 : Int64) (x3 : Int32) (σ : zS) : Zf zshA K (f_X9_write x1 x3 σ) 0 [(0, .ref (ga (kG K) 0)), (1, .long x1), (3, .int x3)] [] σ := by
  unfold f_X9_write
  refine z_iload_n C dX9_write_0 2 rfl ?_
  refine z_iconst (v := 1) C dX9_write_1 (by decide) ?_
  refine z_bipush (v := 8) C dX9_write_2 (by decide) ?_
  refine z_callSz (As := [.int x3, .int 1, .int 8]) (st := []) C zy_X9_isWithin zs_X9_isWithin ml_X9_84 (by decide) (fun _ _ h => m_X9_isWithin h) rfl rfl (Nat.le_of_ble_eq_true rfl) dX9_write_4 (fun v1 σ1 => ?_)
  refine z_if_ne (tgt := 13) C dX9_write_7 (by decide) ?_ ?_
  · refine z_bipush (v := (-3)) C dX9_write_10 (by decide) ?_
    exact z_iret C dX9_write_12
  · refine z_aload_n C dX9_write_13 0 rfl ?_
    refine z_getR C fd_X9_12 dX9_write_14 ?_
    refine z_iload_n C dX9_write_17 2 rfl ?_
    refine z_callVz (q := 1) (As := [.int x3]) (st := []) C zy_X7_hasRoomFor zv_X7_hasRoomFor ml_X9_88 rcA_1 (by decide) (fun _ _ h => m_X7_hasRoomFor h) rfl rfl (Nat.le_of_ble_eq_true rfl) dX9_write_18 (fun v2 σ2 => ?_)
    refine z_if_eq (tgt := 36) C dX9_write_21 (by decide) ?_ ?_
    · refine z_bipush (v := (-5)) C dX9_write_36 (by decide) ?_
      exact z_iret C dX9_write_38
    · refine z_aload_n C dX9_write_24 0 rfl ?_
      refine z_getR C fd_X9_12 dX9_write_25 ?_
      refine z_lload_n C dX9_write_28 1 rfl ?_
      refine z_iload_n C dX9_write_29 2 rfl ?_
      refine z_callVi (q := 1) (As := [.long x1, .int x3]) (st := []) C zy_X7_append zv_X7_append ml_X9_92 rcA_1 (by decide) (fun _ _ h => m_X7_append h) rfl rfl (Nat.le_of_ble_eq_true rfl) dX9_write_30 (fun v3 σ3 => ?_)
      refine z_goto (tgt := 38) C dX9_write_33 (by decide) ?_
      exact z_iret C dX9_write_38
theorem m_X9_write {l : Launch} {G : zG} {x1 : Int64} {x3 : Int32} {σ σ1 : zS} {r : Int32} (h : f_X9_write x1 x3 σ = some (r, σ1)) : zM l G zshA yX9_write cX9_write 4 (some .int) 1 [.ref (ga G 0), .long x1, .int x3] (zov (some .int) G r) σ σ1 :=
  z_met (by decide) (Nat.le_of_ble_eq_true rfl) h (fun K _ hG C => by subst hG; exact b_X9_write K C x1 x3 σ)
theorem b_X7_empty (K : zK) (C : zOk zshA K RX7 cX7_empty (some .int) 2 0) (σ : zS) : Zf zshA K (f_X7_empty σ) 0 [(0, .ref (ga (kG K) 1))] [] σ := by
  unfold f_X7_empty
  refine z_aload_n C dX7_empty_0 0 rfl ?_
  refine z_getI C fd_X7_18 dX7_empty_1 ?_
  refine z_istore_n (lv1 := [(1, .int (σ 1 1)), (0, .ref (ga (kG K) 1))]) C dX7_empty_4 (by decide) rfl ?_
  refine z_aload_n C dX7_empty_5 1 rfl ?_
  refine z_iconst (v := 0) C dX7_empty_6 (by decide) ?_
  refine z_putI C fd_X7_18 fwA_1_1 (lgA 1) (by decide) dX7_empty_7 (fun σ1 => ?_)
  refine z_iload_n C dX7_empty_10 0 rfl ?_
  exact z_iret C dX7_empty_11
theorem m_X7_empty {l : Launch} {G : zG} {σ σ1 : zS} {r : Int32} (h : f_X7_empty σ = some (r, σ1)) : zM l G zshA yX7_empty cX7_empty 2 (some .int) 0 [.ref (ga G 1)] (zov (some .int) G r) σ σ1 :=
  z_met (by decide) (Nat.le_of_ble_eq_true rfl) h (fun K _ hG C => by subst hG; exact b_X7_empty K C σ)
theorem b_X9_erase (K : zK) (C : zOk zshA K RX9 cX9_erase (some .int) 1 1) (σ : zS) : Zf zshA K (f_X9_erase σ) 0 [(0, .ref (ga (kG K) 0))] [] σ := by
  unfold f_X9_erase
  refine z_aload_n C dX9_erase_0 0 rfl ?_
  refine z_getR C fd_X9_12 dX9_erase_1 ?_
  refine z_callVi (q := 1) (As := []) (st := []) C zy_X7_empty zv_X7_empty ml_X9_96 rcA_1 (by decide) (fun _ _ h => m_X7_empty h) rfl rfl (Nat.le_of_ble_eq_true rfl) dX9_erase_4 (fun v1 σ1 => ?_)
  exact z_iret C dX9_erase_7
theorem m_X9_erase {l : Launch} {G : zG} {σ σ1 : zS} {r : Int32} (h : f_X9_erase σ = some (r, σ1)) : zM l G zshA yX9_erase cX9_erase 1 (some .int) 1 [.ref (ga G 0)] (zov (some .int) G r) σ σ1 :=
  z_met (by decide) (Nat.le_of_ble_eq_true rfl) h (fun K _ hG C => by subst hG; exact b_X9_erase K C σ)
theorem b_X7_isLetter (K : zK) (C : zOk zshA K RX7 cX7_isLetter (some .boolean) 1 1) (x0 : Int32) (σ : zS) : Zf zshA K (f_X7_isLetter x0 σ) 0 [(0, .int x0)] [] σ := by
  unfold f_X7_isLetter
  refine z_iload_n C dX7_isLetter_0 0 rfl ?_
  refine z_bipush (v := 97) C dX7_isLetter_1 (by decide) ?_
  refine z_bipush (v := 122) C dX7_isLetter_3 (by decide) ?_
  refine z_callNz (As := [.int x0, .int 97, .int 122]) (st := []) C zy_X9_isWithin zs_X9_isWithin mn_X7_77 (by decide) (fun _ _ h => m_X9_isWithin h) rfl rfl (Nat.le_of_ble_eq_true rfl) dX7_isLetter_5 (fun v1 σ1 => ?_)
  exact z_zrb C dX7_isLetter_8
theorem m_X7_isLetter {l : Launch} {G : zG} {x0 : Int32} {σ σ1 : zS} {r : Int32} (h : f_X7_isLetter x0 σ = some (r, σ1)) : zM l G zshA yX7_isLetter cX7_isLetter 1 (some .boolean) 1 [.int x0] (zov (some .boolean) G r) σ σ1 :=
  z_met (by decide) (Nat.le_of_ble_eq_true rfl) h (fun K _ hG C => by subst hG; exact b_X7_isLetter K C x0 σ)
theorem b_X7_isDigit (K : zK) (C : zOk zshA K RX7 cX7_isDigit (some .boolean) 1 1) (x0 : Int32) (σ : zS) : Zf zshA K (f_X7_isDigit x0 σ) 0 [(0, .int x0)] [] σ := by
  unfold f_X7_isDigit
  refine z_iload_n C dX7_isDigit_0 0 rfl ?_
  refine z_bipush (v := 48) C dX7_isDigit_1 (by decide) ?_
  refine z_bipush (v := 57) C dX7_isDigit_3 (by decide) ?_
  refine z_callNz (As := [.int x0, .int 48, .int 57]) (st := []) C zy_X9_isWithin zs_X9_isWithin mn_X7_77 (by decide) (fun _ _ h => m_X9_isWithin h) rfl rfl (Nat.le_of_ble_eq_true rfl) dX7_isDigit_5 (fun v1 σ1 => ?_)
  exact z_zrb C dX7_isDigit_8
theorem m_X7_isDigit {l : Launch} {G : zG} {x0 : Int32} {σ σ1 : zS} {r : Int32} (h : f_X7_isDigit x0 σ = some (r, σ1)) : zM l G zshA yX7_isDigit cX7_isDigit 1 (some .boolean) 1 [.int x0] (zov (some .boolean) G r) σ σ1 :=
  z_met (by decide) (Nat.le_of_ble_eq_true rfl) h (fun K _ hG C => by subst hG; exact b_X7_isDigit K C x0 σ)
theorem b_X7_areOfOneToken_J14 (K : zK) (C : zOk zshA K RX7 cX7_areOfOneToken (some .boolean) 2 2) (x0 : Int32) (x1 : Int32) (σ : zS) : Zf zshA K (f_X7_areOfOneToken_J14 x0 x1 σ) 14 [(0, .int x0), (1, .int x1)] [] σ := by
  unfold f_X7_areOfOneToken_J14
  refine z_iload_n C dX7_areOfOneToken_14 0 rfl ?_
  refine z_callSz (As := [.int x0]) (st := []) C zy_X7_isDigit zs_X7_isDigit ml_X7_74 (by decide) (fun _ _ h => m_X7_isDigit h) rfl rfl (Nat.le_of_ble_eq_true rfl) dX7_areOfOneToken_15 (fun v1 σ1 => ?_)
  refine z_if_eq (tgt := 32) C dX7_areOfOneToken_18 (by decide) ?_ ?_
  · refine z_iconst (v := 0) C dX7_areOfOneToken_32 (by decide) ?_
    exact z_zret C (by decide) dX7_areOfOneToken_33
  · refine z_iload_n C dX7_areOfOneToken_21 1 rfl ?_
    refine z_callSz (As := [.int x1]) (st := []) C zy_X7_isDigit zs_X7_isDigit ml_X7_74 (by decide) (fun _ _ h => m_X7_isDigit h) rfl rfl (Nat.le_of_ble_eq_true rfl) dX7_areOfOneToken_22 (fun v2 σ2 => ?_)
    refine z_if_eq (tgt := 32) C dX7_areOfOneToken_25 (by decide) ?_ ?_
    · refine z_iconst (v := 0) C dX7_areOfOneToken_32 (by decide) ?_
      exact z_zret C (by decide) dX7_areOfOneToken_33
    · refine z_iconst (v := 1) C dX7_areOfOneToken_28 (by decide) ?_
      refine z_goto (tgt := 33) C dX7_areOfOneToken_29 (by decide) ?_
      exact z_zret C (by decide) dX7_areOfOneToken_33
theorem b_X7_areOfOneToken (K : zK) (C : zOk zshA K RX7 cX7_areOfOneToken (some .boolean) 2 2) (x0 : Int32) (x1 : Int32) (σ : zS) : Zf zshA K (f_X7_areOfOneToken x0 x1 σ) 0 [(0, .int x0), (1, .int x1)] [] σ := by
  unfold f_X7_areOfOneToken
  refine z_iload_n C dX7_areOfOneToken_0 0 rfl ?_
  refine z_callSz (As := [.int x0]) (st := []) C zy_X7_isLetter zs_X7_isLetter ml_X7_71 (by decide) (fun _ _ h => m_X7_isLetter h) rfl rfl (Nat.le_of_ble_eq_true rfl) dX7_areOfOneToken_1 (fun v1 σ1 => ?_)
  refine z_if_eq (tgt := 14) C dX7_areOfOneToken_4 (by decide) ?_ ?_
  · exact z_sub [0, 1] rfl (b_X7_areOfOneToken_J14 K C x0 x1 σ1)
  · refine z_iload_n C dX7_areOfOneToken_7 1 rfl ?_
    refine z_callSz (As := [.int x1]) (st := []) C zy_X7_isLetter zs_X7_isLetter ml_X7_71 (by decide) (fun _ _ h => m_X7_isLetter h) rfl rfl (Nat.le_of_ble_eq_true rfl) dX7_areOfOneToken_8 (fun v2 σ2 => ?_)
    refine z_if_ne (tgt := 28) C dX7_areOfOneToken_11 (by decide) ?_ ?_
    · exact z_sub [0, 1] rfl (b_X7_areOfOneToken_J14 K C x0 x1 σ2)
    · refine z_iconst (v := 1) C dX7_areOfOneToken_28 (by decide) ?_
      refine z_goto (tgt := 33) C dX7_areOfOneToken_29 (by decide) ?_
      exact z_zret C (by decide) dX7_areOfOneToken_33
theorem m_X7_areOfOneToken {l : Launch} {G : zG} {x0 : Int32} {x1 : Int32} {σ σ1 : zS} {r : Int32} (h : f_X7_areOfOneToken x0 x1 σ = some (r, σ1)) : zM l G zshA yX7_areOfOneToken cX7_areOfOneToken 2 (some .boolean) 2 [.int x0, .int x1] (zov (some .boolean) G r) σ σ1 :=
  z_met (by decide) (Nat.le_of_ble_eq_true rfl) h (fun K _ hG C => by subst hG; exact b_X7_areOfOneToken K C x0 x1 σ)
theorem b_X7_takeToken_L63 (K : zK) (C : zOk zshA K RX7 cX7_takeToken none 1 3) : ∀ (n : Nat) (σ : zS), Zf zshA K (f_X7_takeToken_L63 n σ) 63 [(0, .ref (ga (kG K) 1))] [] σ := by
  intro n
  induction n with
  | zero => intro σ; rw [f_X7_takeToken_L63]; exact z_none
  | succ n ih =>
  intro σ
  rw [f_X7_takeToken_L63]
  refine z_aload_n C dX7_takeToken_63 0 rfl ?_
  refine z_getI C fd_X7_22 dX7_takeToken_64 ?_
  refine z_aload_n C dX7_takeToken_67 0 rfl ?_
  refine z_getI C fd_X7_18 dX7_takeToken_68 ?_
  refine z_icmp_ge (tgt := 111) C dX7_takeToken_71 (by decide) ?_ ?_
  · exact z_vret C dX7_takeToken_111
  · refine z_aload_n C dX7_takeToken_74 0 rfl ?_
    refine z_getR C fd_X7_9 dX7_takeToken_75 ?_
    refine z_aload_n C dX7_takeToken_78 0 rfl ?_
    refine z_getI C fd_X7_32 dX7_takeToken_79 ?_
    refine z_iald C sA_2 dX7_takeToken_82 (fun v1 => ?_)
    refine z_aload_n C dX7_takeToken_83 0 rfl ?_
    refine z_getR C fd_X7_9 dX7_takeToken_84 ?_
    refine z_aload_n C dX7_takeToken_87 0 rfl ?_
    refine z_getI C fd_X7_22 dX7_takeToken_88 ?_
    refine z_iald C sA_2 dX7_takeToken_91 (fun v2 => ?_)
    refine z_callSz (As := [.int v1, .int v2]) (st := []) C zy_X7_areOfOneToken zs_X7_areOfOneToken ml_X7_67 (by decide) (fun _ _ h => m_X7_areOfOneToken h) rfl rfl (Nat.le_of_ble_eq_true rfl) dX7_takeToken_92 (fun v3 σ3 => ?_)
    refine z_if_eq (tgt := 111) C dX7_takeToken_95 (by decide) ?_ ?_
    · exact z_vret C dX7_takeToken_111
    · refine z_aload_n C dX7_takeToken_98 0 rfl ?_
      refine z_dup C dX7_takeToken_99 rfl ?_
      refine z_getI C fd_X7_22 dX7_takeToken_100 ?_
      refine z_iconst (v := 1) C dX7_takeToken_103 (by decide) ?_
      refine z_iadd C dX7_takeToken_104 ?_
      refine z_putI C fd_X7_22 fwA_1_5 (lgA 1) (by decide) dX7_takeToken_105 (fun σ4 => ?_)
      refine z_goto (tgt := 63) C dX7_takeToken_108 (by decide) ?_
      exact z_sub [0] rfl (ih σ4)
theorem b_X7_takeToken_J46 (K : zK) (C : zOk zshA K RX7 cX7_takeToken none 1 3) (σ : zS) : Zf zshA K (f_X7_takeToken_J46 σ) 46 [(0, .ref (ga (kG K) 1))] [] σ := by
  unfold f_X7_takeToken_J46
  refine z_aload_n C dX7_takeToken_46 0 rfl ?_
  refine z_aload_n C dX7_takeToken_47 0 rfl ?_
  refine z_getI C fd_X7_32 dX7_takeToken_48 ?_
  refine z_iconst (v := 1) C dX7_takeToken_51 (by decide) ?_
  refine z_iadd C dX7_takeToken_52 ?_
  refine z_aload_n C dX7_takeToken_53 0 rfl ?_
  refine z_getI C fd_X7_18 dX7_takeToken_54 ?_
  refine z_mmin C ml_X7_61 zma_min_s zma_i zma_min_c (by decide) (Nat.le_of_ble_eq_true rfl) dX7_takeToken_57 ?_
  refine z_putI C fd_X7_22 fwA_1_5 (lgA 1) (by decide) dX7_takeToken_60 (fun σ1 => ?_)
  exact z_sub [0] rfl (b_X7_takeToken_L63 K C zfu σ1)
theorem b_X7_takeToken_L8 (K : zK) (C : zOk zshA K RX7 cX7_takeToken none 1 3) : ∀ (n : Nat) (σ : zS), Zf zshA K (f_X7_takeToken_L8 n σ) 8 [(0, .ref (ga (kG K) 1))] [] σ := by
  intro n
  induction n with
  | zero => intro σ; rw [f_X7_takeToken_L8]; exact z_none
  | succ n ih =>
  intro σ
  rw [f_X7_takeToken_L8]
  refine z_aload_n C dX7_takeToken_8 0 rfl ?_
  refine z_getI C fd_X7_32 dX7_takeToken_9 ?_
  refine z_aload_n C dX7_takeToken_12 0 rfl ?_
  refine z_getI C fd_X7_18 dX7_takeToken_13 ?_
  refine z_icmp_ge (tgt := 46) C dX7_takeToken_16 (by decide) ?_ ?_
  · exact z_sub [0] rfl (b_X7_takeToken_J46 K C σ)
  · refine z_aload_n C dX7_takeToken_19 0 rfl ?_
    refine z_getR C fd_X7_9 dX7_takeToken_20 ?_
    refine z_aload_n C dX7_takeToken_23 0 rfl ?_
    refine z_getI C fd_X7_32 dX7_takeToken_24 ?_
    refine z_iald C sA_2 dX7_takeToken_27 (fun v1 => ?_)
    refine z_bipush (v := 32) C dX7_takeToken_28 (by decide) ?_
    refine z_icmp_ne (tgt := 46) C dX7_takeToken_30 (by decide) ?_ ?_
    · refine z_aload_n C dX7_takeToken_33 0 rfl ?_
      refine z_dup C dX7_takeToken_34 rfl ?_
      refine z_getI C fd_X7_32 dX7_takeToken_35 ?_
      refine z_iconst (v := 1) C dX7_takeToken_38 (by decide) ?_
      refine z_iadd C dX7_takeToken_39 ?_
      refine z_putI C fd_X7_32 fwA_1_4 (lgA 1) (by decide) dX7_takeToken_40 (fun σ2 => ?_)
      refine z_goto (tgt := 8) C dX7_takeToken_43 (by decide) ?_
      exact z_sub [0] rfl (ih σ2)
    · exact z_sub [0] rfl (b_X7_takeToken_J46 K C σ)
theorem b_X7_takeToken (K : zK) (C : zOk zshA K RX7 cX7_takeToken none 1 3) (σ : zS) : Zf zshA K (f_X7_takeToken σ) 0 [(0, .ref (ga (kG K) 1))] [] σ := by
  unfold f_X7_takeToken
  refine z_aload_n C dX7_takeToken_0 0 rfl ?_
  refine z_aload_n C dX7_takeToken_1 0 rfl ?_
  refine z_getI C fd_X7_22 dX7_takeToken_2 ?_
  refine z_putI C fd_X7_32 fwA_1_4 (lgA 1) (by decide) dX7_takeToken_5 (fun σ1 => ?_)
  exact z_sub [0] rfl (b_X7_takeToken_L8 K C zfu σ1)
theorem m_X7_takeToken {l : Launch} {G : zG} {σ σ1 : zS} {r : Int32} (h : f_X7_takeToken σ = some (r, σ1)) : zM l G zshA yX7_takeToken cX7_takeToken 1 none 3 [.ref (ga G 1)] (zov none G r) σ σ1 :=
  z_met (by decide) (Nat.le_of_ble_eq_true rfl) h (fun K _ hG C => by subst hG; exact b_X7_takeToken K C σ)
theorem b_X7_wordOf (K : zK) (C : zOk zshA K RX7 cX7_wordOf (some (.object "java/lang/String")) 1 0) (x0 : Int32) (σ : zS) : Zf zshA K (f_X7_wordOf x0 σ) 0 [(0, .int x0)] [] σ := by
  unfold f_X7_wordOf
  refine z_iload_n C dX7_wordOf_0 0 rfl ?_
  refine z_case 0 (fun hc1_0 => ?_) (fun hc1_0 => ?_)
  · refine z_tabIn (tgt := 36) C dX7_wordOf_1 0 hc1_0 (by decide) (by decide) rfl (by decide) ?_
    refine z_ldcS C 0 rfl dX7_wordOf_36 ?_
    exact z_aret (v := 0) C dX7_wordOf_38
  refine z_case 1 (fun hc1_1 => ?_) (fun hc1_1 => ?_)
  · refine z_tabIn (tgt := 39) C dX7_wordOf_1 1 hc1_1 (by decide) (by decide) rfl (by decide) ?_
    refine z_ldcS C 1 rfl dX7_wordOf_39 ?_
    exact z_aret (v := 1) C dX7_wordOf_41
  refine z_case 2 (fun hc1_2 => ?_) (fun hc1_2 => ?_)
  · refine z_tabIn (tgt := 42) C dX7_wordOf_1 2 hc1_2 (by decide) (by decide) rfl (by decide) ?_
    refine z_ldcS C 2 rfl dX7_wordOf_42 ?_
    exact z_aret (v := 2) C dX7_wordOf_44
  refine z_case 3 (fun hc1_3 => ?_) (fun hc1_3 => ?_)
  · refine z_tabIn (tgt := 45) C dX7_wordOf_1 3 hc1_3 (by decide) (by decide) rfl (by decide) ?_
    refine z_ldcS C 3 rfl dX7_wordOf_45 ?_
    exact z_aret (v := 3) C dX7_wordOf_47
  refine z_case 4 (fun hc1_4 => ?_) (fun hc1_4 => ?_)
  · refine z_tabIn (tgt := 48) C dX7_wordOf_1 4 hc1_4 (by decide) (by decide) rfl (by decide) ?_
    refine z_ldcS C 4 rfl dX7_wordOf_48 ?_
    exact z_aret (v := 4) C dX7_wordOf_50
  refine z_tabD (tgt := 51) C [0, 1, 2, 3, 4] (List.forall_mem_cons.mpr ⟨ztoi hc1_0 rfl, (List.forall_mem_cons.mpr ⟨ztoi hc1_1 rfl, (List.forall_mem_cons.mpr ⟨ztoi hc1_2 rfl, (List.forall_mem_cons.mpr ⟨ztoi hc1_3 rfl, (List.forall_mem_cons.mpr ⟨ztoi hc1_4 rfl, (fun _ h => absurd h List.not_mem_nil)⟩)⟩)⟩)⟩)⟩) dX7_wordOf_1 (by decide +kernel) (by decide) ?_
  refine z_ldcS C 5 rfl dX7_wordOf_51 ?_
  exact z_aret (v := 5) C dX7_wordOf_53
theorem m_X7_wordOf {l : Launch} {G : zG} {x0 : Int32} {σ σ1 : zS} {r : Int32} (h : f_X7_wordOf x0 σ = some (r, σ1)) : zM l G zshA yX7_wordOf cX7_wordOf 1 (some (.object "java/lang/String")) 0 [.int x0] (zov (some (.object "java/lang/String")) G r) σ σ1 :=
  z_met (by decide) (Nat.le_of_ble_eq_true rfl) h (fun K _ hG C => by subst hG; exact b_X7_wordOf K C x0 σ)
theorem b_X7_tokenIs_L24 (K : zK) (C : zOk zshA K RX7 cX7_tokenIs (some .boolean) 4 5) (x1 : Int32) : ∀ (n : Nat) (x2 : Int32) (x3 : Int32) (σ : zS), Zf zshA K (f_X7_tokenIs_L24 x1 n x2 x3 σ) 24 [(0, .ref (ga (kG K) 1)), (1, .ref (gk (kG K) (x1).toNatClampNeg)), (2, .int x2), (3, .int x3)] [] σ := by
  intro n
  induction n with
  | zero => intro x2 x3 σ; rw [f_X7_tokenIs_L24]; exact z_none
  | succ n ih =>
  intro x2 x3 σ
  rw [f_X7_tokenIs_L24]
  refine z_iload_n C dX7_tokenIs_24 2 rfl ?_
  refine z_if_eq (tgt := 67) C dX7_tokenIs_25 (by decide) ?_ ?_
  · refine z_iload_n C dX7_tokenIs_67 2 rfl ?_
    exact z_zrb C dX7_tokenIs_68
  · refine z_iload_n C dX7_tokenIs_28 3 rfl ?_
    refine z_aload_n C dX7_tokenIs_29 1 rfl ?_
    refine z_callTi (q := (x1).toNatClampNeg) (As := []) (st := [.int x3]) C zy_J0_length_8abf5 zv_J0_length_8abf5 ml_X7_46 rfl (fun h => zq_J0_length_8abf5 h) (by decide) (fun _ _ h => m_J0_length_8abf5 h) rfl rfl (Nat.le_of_ble_eq_true rfl) dX7_tokenIs_30 (fun v1 σ1 => ?_)
    refine z_icmp_ge (tgt := 67) C dX7_tokenIs_33 (by decide) ?_ ?_
    · refine z_iload_n C dX7_tokenIs_67 2 rfl ?_
      exact z_zrb C dX7_tokenIs_68
    · refine z_aload_n C dX7_tokenIs_36 0 rfl ?_
      refine z_getR C fd_X7_9 dX7_tokenIs_37 ?_
      refine z_aload_n C dX7_tokenIs_40 0 rfl ?_
      refine z_getI C fd_X7_32 dX7_tokenIs_41 ?_
      refine z_iload_n C dX7_tokenIs_44 3 rfl ?_
      refine z_iadd C dX7_tokenIs_45 ?_
      refine z_iald C sA_2 dX7_tokenIs_46 (fun v2 => ?_)
      refine z_aload_n C dX7_tokenIs_47 1 rfl ?_
      refine z_iload_n C dX7_tokenIs_48 3 rfl ?_
      refine z_callTc (q := (x1).toNatClampNeg) (As := [.int x3]) (st := [.int v2]) C zy_J0_charAt_5068e zv_J0_charAt_5068e ml_X7_53 rfl (fun h => zq_J0_charAt_5068e h) (by decide) (fun _ _ h => m_J0_charAt_5068e h) rfl rfl (Nat.le_of_ble_eq_true rfl) dX7_tokenIs_49 (fun v3 σ3 => ?_)
      refine z_icmp_ne (tgt := 59) C dX7_tokenIs_52 (by decide) ?_ ?_
      · refine z_iconst (v := 1) C dX7_tokenIs_55 (by decide) ?_
        refine z_goto (tgt := 60) C dX7_tokenIs_56 (by decide) ?_
        refine z_istore_n (lv1 := [(2, .int 1), (0, .ref (ga (kG K) 1)), (1, .ref (gk (kG K) (x1).toNatClampNeg)), (3, .int x3)]) C dX7_tokenIs_60 (by decide) rfl ?_
        refine z_iinc (v := 1) (lv1 := [(3, .int (x3 + 1)), (2, .int 1), (0, .ref (ga (kG K) 1)), (1, .ref (gk (kG K) (x1).toNatClampNeg))]) C dX7_tokenIs_61 3 rfl (by decide) (by decide) rfl ?_
        refine z_goto (tgt := 24) C dX7_tokenIs_64 (by decide) ?_
        exact z_sub [2, 3, 1, 0] rfl (ih 1 (x3 + 1) σ3)
      · refine z_iconst (v := 0) C dX7_tokenIs_59 (by decide) ?_
        refine z_istore_n (lv1 := [(2, .int 0), (0, .ref (ga (kG K) 1)), (1, .ref (gk (kG K) (x1).toNatClampNeg)), (3, .int x3)]) C dX7_tokenIs_60 (by decide) rfl ?_
        refine z_iinc (v := 1) (lv1 := [(3, .int (x3 + 1)), (2, .int 0), (0, .ref (ga (kG K) 1)), (1, .ref (gk (kG K) (x1).toNatClampNeg))]) C dX7_tokenIs_61 3 rfl (by decide) (by decide) rfl ?_
        refine z_goto (tgt := 24) C dX7_tokenIs_64 (by decide) ?_
        exact z_sub [2, 3, 1, 0] rfl (ih 0 (x3 + 1) σ3)
theorem b_X7_tokenIs (K : zK) (C : zOk zshA K RX7 cX7_tokenIs (some .boolean) 4 5) (x1 : Int32) (σ : zS) : Zf zshA K (f_X7_tokenIs x1 σ) 0 [(0, .ref (ga (kG K) 1)), (1, .ref (gk (kG K) (x1).toNatClampNeg))] [] σ := by
  unfold f_X7_tokenIs
  refine z_aload_n C dX7_tokenIs_0 0 rfl ?_
  refine z_getI C fd_X7_22 dX7_tokenIs_1 ?_
  refine z_aload_n C dX7_tokenIs_4 0 rfl ?_
  refine z_getI C fd_X7_32 dX7_tokenIs_5 ?_
  refine z_isub C dX7_tokenIs_8 ?_
  refine z_aload_n C dX7_tokenIs_9 1 rfl ?_
  refine z_callTi (q := (x1).toNatClampNeg) (As := []) (st := [.int ((σ 1 5) - (σ 1 4))]) C zy_J0_length_8abf5 zv_J0_length_8abf5 ml_X7_46 rfl (fun h => zq_J0_length_8abf5 h) (by decide) (fun _ _ h => m_J0_length_8abf5 h) rfl rfl (Nat.le_of_ble_eq_true rfl) dX7_tokenIs_10 (fun v1 σ1 => ?_)
  refine z_icmp_ne (tgt := 20) C dX7_tokenIs_13 (by decide) ?_ ?_
  · refine z_iconst (v := 1) C dX7_tokenIs_16 (by decide) ?_
    refine z_goto (tgt := 21) C dX7_tokenIs_17 (by decide) ?_
    refine z_istore_n (lv1 := [(2, .int 1), (0, .ref (ga (kG K) 1)), (1, .ref (gk (kG K) (x1).toNatClampNeg))]) C dX7_tokenIs_21 (by decide) rfl ?_
    refine z_iconst (v := 0) C dX7_tokenIs_22 (by decide) ?_
    refine z_istore_n (lv1 := [(3, .int 0), (2, .int 1), (0, .ref (ga (kG K) 1)), (1, .ref (gk (kG K) (x1).toNatClampNeg))]) C dX7_tokenIs_23 (by decide) rfl ?_
    exact z_sub [2, 3, 1, 0] rfl (b_X7_tokenIs_L24 K C x1 zfu 1 0 σ1)
  · refine z_iconst (v := 0) C dX7_tokenIs_20 (by decide) ?_
    refine z_istore_n (lv1 := [(2, .int 0), (0, .ref (ga (kG K) 1)), (1, .ref (gk (kG K) (x1).toNatClampNeg))]) C dX7_tokenIs_21 (by decide) rfl ?_
    refine z_iconst (v := 0) C dX7_tokenIs_22 (by decide) ?_
    refine z_istore_n (lv1 := [(3, .int 0), (2, .int 0), (0, .ref (ga (kG K) 1)), (1, .ref (gk (kG K) (x1).toNatClampNeg))]) C dX7_tokenIs_23 (by decide) rfl ?_
    exact z_sub [2, 3, 1, 0] rfl (b_X7_tokenIs_L24 K C x1 zfu 0 0 σ1)
theorem m_X7_tokenIs {l : Launch} {G : zG} {x1 : Int32} {σ σ1 : zS} {r : Int32} (h : f_X7_tokenIs x1 σ = some (r, σ1)) : zM l G zshA yX7_tokenIs cX7_tokenIs 4 (some .boolean) 5 [.ref (ga G 1), .ref (gk G (x1).toNatClampNeg)] (zov (some .boolean) G r) σ σ1 :=
  z_met (by decide) (Nat.le_of_ble_eq_true rfl) h (fun K _ hG C => by subst hG; exact b_X7_tokenIs K C x1 σ)
theorem b_X7_kindOfToken_L2 (K : zK) (C : zOk zshA K RX7 cX7_kindOfToken (some .int) 2 6) : ∀ (n : Nat) (x1 : Int32) (σ : zS), Zf zshA K (f_X7_kindOfToken_L2 n x1 σ) 2 [(0, .ref (ga (kG K) 1)), (1, .int x1)] [] σ := by
  intro n
  induction n with
  | zero => intro x1 σ; rw [f_X7_kindOfToken_L2]; exact z_none
  | succ n ih =>
  intro x1 σ
  rw [f_X7_kindOfToken_L2]
  refine z_iload_n C dX7_kindOfToken_2 1 rfl ?_
  refine z_bipush (v := 6) C dX7_kindOfToken_3 (by decide) ?_
  refine z_icmp_ge (tgt := 27) C dX7_kindOfToken_5 (by decide) ?_ ?_
  · refine z_iconst (v := (-1)) C dX7_kindOfToken_27 (by decide) ?_
    exact z_iret C dX7_kindOfToken_28
  · refine z_aload_n C dX7_kindOfToken_8 0 rfl ?_
    refine z_iload_n C dX7_kindOfToken_9 1 rfl ?_
    refine z_callSa (As := [.int x1]) (st := [.ref (ga (kG K) 1)]) C zy_X7_wordOf zs_X7_wordOf ml_X7_80 (by decide) (fun _ _ h => m_X7_wordOf h) rfl rfl (Nat.le_of_ble_eq_true rfl) dX7_kindOfToken_10 (fun v1 σ1 => ?_)
    refine z_callVz (q := 1) (As := [.ref (gk (kG K) (v1).toNatClampNeg)]) (st := []) C zy_X7_tokenIs zv_X7_tokenIs ml_X7_83 rcA_1 (by decide) (fun _ _ h => m_X7_tokenIs h) rfl rfl (Nat.le_of_ble_eq_true rfl) dX7_kindOfToken_13 (fun v2 σ2 => ?_)
    refine z_if_eq (tgt := 21) C dX7_kindOfToken_16 (by decide) ?_ ?_
    · refine z_iinc (v := 1) (lv1 := [(1, .int (x1 + 1)), (0, .ref (ga (kG K) 1))]) C dX7_kindOfToken_21 1 rfl (by decide) (by decide) rfl ?_
      refine z_goto (tgt := 2) C dX7_kindOfToken_24 (by decide) ?_
      exact z_sub [1, 0] rfl (ih (x1 + 1) σ2)
    · refine z_iload_n C dX7_kindOfToken_19 1 rfl ?_
      exact z_iret C dX7_kindOfToken_20
theorem b_X7_kindOfToken (K : zK) (C : zOk zshA K RX7 cX7_kindOfToken (some .int) 2 6) (σ : zS) : Zf zshA K (f_X7_kindOfToken σ) 0 [(0, .ref (ga (kG K) 1))] [] σ := by
  unfold f_X7_kindOfToken
  refine z_iconst (v := 0) C dX7_kindOfToken_0 (by decide) ?_
  refine z_istore_n (lv1 := [(1, .int 0), (0, .ref (ga (kG K) 1))]) C dX7_kindOfToken_1 (by decide) rfl ?_
  exact z_sub [1, 0] rfl (b_X7_kindOfToken_L2 K C zfu 0 σ)
theorem m_X7_kindOfToken {l : Launch} {G : zG} {σ σ1 : zS} {r : Int32} (h : f_X7_kindOfToken σ = some (r, σ1)) : zM l G zshA yX7_kindOfToken cX7_kindOfToken 2 (some .int) 6 [.ref (ga G 1)] (zov (some .int) G r) σ σ1 :=
  z_met (by decide) (Nat.le_of_ble_eq_true rfl) h (fun K _ hG C => by subst hG; exact b_X7_kindOfToken K C σ)
theorem b_X7_formOf (K : zK) (C : zOk zshA K RX7 cX7_formOf (some (.object "java/lang/String")) 1 0) (x0 : Int32) (σ : zS) : Zf zshA K (f_X7_formOf x0 σ) 0 [(0, .int x0)] [] σ := by
  unfold f_X7_formOf
  refine z_iload_n C dX7_formOf_0 0 rfl ?_
  refine z_case 0 (fun hc1_0 => ?_) (fun hc1_0 => ?_)
  · refine z_tabIn (tgt := 32) C dX7_formOf_1 0 hc1_0 (by decide) (by decide) rfl (by decide) ?_
    refine z_ldcS C 6 rfl dX7_formOf_32 ?_
    exact z_aret (v := 6) C dX7_formOf_34
  refine z_case 1 (fun hc1_1 => ?_) (fun hc1_1 => ?_)
  · refine z_tabIn (tgt := 35) C dX7_formOf_1 1 hc1_1 (by decide) (by decide) rfl (by decide) ?_
    refine z_ldcS C 7 rfl dX7_formOf_35 ?_
    exact z_aret (v := 7) C dX7_formOf_37
  refine z_case 2 (fun hc1_2 => ?_) (fun hc1_2 => ?_)
  · refine z_tabIn (tgt := 38) C dX7_formOf_1 2 hc1_2 (by decide) (by decide) rfl (by decide) ?_
    refine z_ldcS C 8 rfl dX7_formOf_38 ?_
    exact z_aret (v := 8) C dX7_formOf_40
  refine z_case 3 (fun hc1_3 => ?_) (fun hc1_3 => ?_)
  · refine z_tabIn (tgt := 38) C dX7_formOf_1 3 hc1_3 (by decide) (by decide) rfl (by decide) ?_
    refine z_ldcS C 8 rfl dX7_formOf_38 ?_
    exact z_aret (v := 8) C dX7_formOf_40
  refine z_tabD (tgt := 41) C [0, 1, 2, 3] (List.forall_mem_cons.mpr ⟨ztoi hc1_0 rfl, (List.forall_mem_cons.mpr ⟨ztoi hc1_1 rfl, (List.forall_mem_cons.mpr ⟨ztoi hc1_2 rfl, (List.forall_mem_cons.mpr ⟨ztoi hc1_3 rfl, (fun _ h => absurd h List.not_mem_nil)⟩)⟩)⟩)⟩) dX7_formOf_1 (by decide +kernel) (by decide) ?_
  refine z_ldcS C 9 rfl dX7_formOf_41 ?_
  exact z_aret (v := 9) C dX7_formOf_43
theorem m_X7_formOf {l : Launch} {G : zG} {x0 : Int32} {σ σ1 : zS} {r : Int32} (h : f_X7_formOf x0 σ = some (r, σ1)) : zM l G zshA yX7_formOf cX7_formOf 1 (some (.object "java/lang/String")) 0 [.int x0] (zov (some (.object "java/lang/String")) G r) σ σ1 :=
  z_met (by decide) (Nat.le_of_ble_eq_true rfl) h (fun K _ hG C => by subst hG; exact b_X7_formOf K C x0 σ)
theorem b_X7_numberOfToken_L48 (K : zK) (C : zOk zshA K RX7 cX7_numberOfToken (some .int) 3 2) : ∀ (n : Nat) (x1 : Int32) (x2 : Int32) (σ : zS), Zf zshA K (f_X7_numberOfToken_L48 n x1 x2 σ) 48 [(0, .ref (ga (kG K) 1)), (1, .int x1), (2, .int x2)] [] σ := by
  intro n
  induction n with
  | zero => intro x1 x2 σ; rw [f_X7_numberOfToken_L48]; exact z_none
  | succ n ih =>
  intro x1 x2 σ
  rw [f_X7_numberOfToken_L48]
  refine z_iload_n C dX7_numberOfToken_48 2 rfl ?_
  refine z_aload_n C dX7_numberOfToken_49 0 rfl ?_
  refine z_getI C fd_X7_22 dX7_numberOfToken_50 ?_
  refine z_icmp_ge (tgt := 77) C dX7_numberOfToken_53 (by decide) ?_ ?_
  · refine z_iload_n C dX7_numberOfToken_77 1 rfl ?_
    exact z_iret C dX7_numberOfToken_78
  · refine z_bipush (v := 10) C dX7_numberOfToken_56 (by decide) ?_
    refine z_iload_n C dX7_numberOfToken_58 1 rfl ?_
    refine z_imul C dX7_numberOfToken_59 ?_
    refine z_aload_n C dX7_numberOfToken_60 0 rfl ?_
    refine z_getR C fd_X7_9 dX7_numberOfToken_61 ?_
    refine z_iload_n C dX7_numberOfToken_64 2 rfl ?_
    refine z_iald C sA_2 dX7_numberOfToken_65 (fun v1 => ?_)
    refine z_iadd C dX7_numberOfToken_66 ?_
    refine z_bipush (v := 48) C dX7_numberOfToken_67 (by decide) ?_
    refine z_isub C dX7_numberOfToken_69 ?_
    refine z_istore_n (lv1 := [(1, .int (((10 * x1) + v1) - 48)), (0, .ref (ga (kG K) 1)), (2, .int x2)]) C dX7_numberOfToken_70 (by decide) rfl ?_
    refine z_iinc (v := 1) (lv1 := [(2, .int (x2 + 1)), (1, .int (((10 * x1) + v1) - 48)), (0, .ref (ga (kG K) 1))]) C dX7_numberOfToken_71 2 rfl (by decide) (by decide) rfl ?_
    refine z_goto (tgt := 48) C dX7_numberOfToken_74 (by decide) ?_
    exact z_sub [2, 1, 0] rfl (ih (((10 * x1) + v1) - 48) (x2 + 1) σ)
theorem b_X7_numberOfToken (K : zK) (C : zOk zshA K RX7 cX7_numberOfToken (some .int) 3 2) (σ : zS) : Zf zshA K (f_X7_numberOfToken σ) 0 [(0, .ref (ga (kG K) 1))] [] σ := by
  unfold f_X7_numberOfToken
  refine z_aload_n C dX7_numberOfToken_0 0 rfl ?_
  refine z_getI C fd_X7_32 dX7_numberOfToken_1 ?_
  refine z_aload_n C dX7_numberOfToken_4 0 rfl ?_
  refine z_getI C fd_X7_18 dX7_numberOfToken_5 ?_
  refine z_icmp_ge (tgt := 39) C dX7_numberOfToken_8 (by decide) ?_ ?_
  · refine z_iconst (v := (-1)) C dX7_numberOfToken_39 (by decide) ?_
    exact z_iret C dX7_numberOfToken_40
  · refine z_aload_n C dX7_numberOfToken_11 0 rfl ?_
    refine z_getR C fd_X7_9 dX7_numberOfToken_12 ?_
    refine z_aload_n C dX7_numberOfToken_15 0 rfl ?_
    refine z_getI C fd_X7_32 dX7_numberOfToken_16 ?_
    refine z_iald C sA_2 dX7_numberOfToken_19 (fun v1 => ?_)
    refine z_callSz (As := [.int v1]) (st := []) C zy_X7_isDigit zs_X7_isDigit ml_X7_74 (by decide) (fun _ _ h => m_X7_isDigit h) rfl rfl (Nat.le_of_ble_eq_true rfl) dX7_numberOfToken_20 (fun v2 σ2 => ?_)
    refine z_if_eq (tgt := 39) C dX7_numberOfToken_23 (by decide) ?_ ?_
    · refine z_iconst (v := (-1)) C dX7_numberOfToken_39 (by decide) ?_
      exact z_iret C dX7_numberOfToken_40
    · refine z_aload_n C dX7_numberOfToken_26 0 rfl ?_
      refine z_getI C fd_X7_22 dX7_numberOfToken_27 ?_
      refine z_aload_n C dX7_numberOfToken_30 0 rfl ?_
      refine z_getI C fd_X7_32 dX7_numberOfToken_31 ?_
      refine z_isub C dX7_numberOfToken_34 ?_
      refine z_iconst (v := 4) C dX7_numberOfToken_35 (by decide) ?_
      refine z_icmp_le (tgt := 41) C dX7_numberOfToken_36 (by decide) ?_ ?_
      · refine z_iconst (v := 0) C dX7_numberOfToken_41 (by decide) ?_
        refine z_istore_n (lv1 := [(1, .int 0), (0, .ref (ga (kG K) 1))]) C dX7_numberOfToken_42 (by decide) rfl ?_
        refine z_aload_n C dX7_numberOfToken_43 1 rfl ?_
        refine z_getI C fd_X7_32 dX7_numberOfToken_44 ?_
        refine z_istore_n (lv1 := [(2, .int (σ2 1 4)), (1, .int 0), (0, .ref (ga (kG K) 1))]) C dX7_numberOfToken_47 (by decide) rfl ?_
        exact z_sub [2, 1, 0] rfl (b_X7_numberOfToken_L48 K C zfu 0 (σ2 1 4) σ2)
      · refine z_iconst (v := (-1)) C dX7_numberOfToken_39 (by decide) ?_
        exact z_iret C dX7_numberOfToken_40
theorem m_X7_numberOfToken {l : Launch} {G : zG} {σ σ1 : zS} {r : Int32} (h : f_X7_numberOfToken σ = some (r, σ1)) : zM l G zshA yX7_numberOfToken cX7_numberOfToken 3 (some .int) 2 [.ref (ga G 1)] (zov (some .int) G r) σ σ1 :=
  z_met (by decide) (Nat.le_of_ble_eq_true rfl) h (fun K _ hG C => by subst hG; exact b_X7_numberOfToken K C σ)
theorem b_X9_isPlace (K : zK) (C : zOk zshA K RX9 cX9_isPlace (some .boolean) 1 1) (x0 : Int32) (σ : zS) : Zf zshA K (f_X9_isPlace x0 σ) 0 [(0, .int x0)] [] σ := by
  unfold f_X9_isPlace
  refine z_iload_n C dX9_isPlace_0 0 rfl ?_
  refine z_iconst (v := 0) C dX9_isPlace_1 (by decide) ?_
  refine z_bipush (v := 9) C dX9_isPlace_2 (by decide) ?_
  refine z_callSz (As := [.int x0, .int 0, .int 9]) (st := []) C zy_X9_isWithin zs_X9_isWithin ml_X9_84 (by decide) (fun _ _ h => m_X9_isWithin h) rfl rfl (Nat.le_of_ble_eq_true rfl) dX9_isPlace_4 (fun v1 σ1 => ?_)
  exact z_zrb C dX9_isPlace_7
theorem m_X9_isPlace {l : Launch} {G : zG} {x0 : Int32} {σ σ1 : zS} {r : Int32} (h : f_X9_isPlace x0 σ = some (r, σ1)) : zM l G zshA yX9_isPlace cX9_isPlace 1 (some .boolean) 1 [.int x0] (zov (some .boolean) G r) σ σ1 :=
  z_met (by decide) (Nat.le_of_ble_eq_true rfl) h (fun K _ hG C => by subst hG; exact b_X9_isPlace K C x0 σ)
theorem b_X7_canStand (K : zK) (C : zOk zshA K RX7 cX7_canStand (some .boolean) 3 2) (x0 : Int32) (x1 : Int32) (x2 : Int32) (σ : zS) : Zf zshA K (f_X7_canStand x0 x1 x2 σ) 0 [(0, .int x0), (1, .int x1), (2, .int x2)] [] σ := by
  unfold f_X7_canStand
  refine z_iload_n C dX7_canStand_0 0 rfl ?_
  refine z_case 70 (fun hc1_0 => ?_) (fun hc1_0 => ?_)
  · refine z_tabIn (tgt := 154) C dX7_canStand_1 70 hc1_0 (by decide) (by decide) rfl (by decide) ?_
    refine z_iload_n C dX7_canStand_154 1 rfl ?_
    refine z_bipush (v := 9) C dX7_canStand_155 (by decide) ?_
    refine z_icmp_ge (tgt := 164) C dX7_canStand_157 (by decide) ?_ ?_
    · refine z_iconst (v := 0) C dX7_canStand_164 (by decide) ?_
      exact z_zret C (by decide) dX7_canStand_165
    · refine z_iconst (v := 1) C dX7_canStand_160 (by decide) ?_
      refine z_goto (tgt := 165) C dX7_canStand_161 (by decide) ?_
      exact z_zret C (by decide) dX7_canStand_165
  refine z_case 80 (fun hc1_1 => ?_) (fun hc1_1 => ?_)
  · refine z_tabIn (tgt := 100) C dX7_canStand_1 80 hc1_1 (by decide) (by decide) rfl (by decide) ?_
    refine z_iload_n C dX7_canStand_100 1 rfl ?_
    refine z_callNz (As := [.int x1]) (st := []) C zy_X9_isPlace zs_X9_isPlace mn_X7_107 (by decide) (fun _ _ h => m_X9_isPlace h) rfl rfl (Nat.le_of_ble_eq_true rfl) dX7_canStand_101 (fun v1 σ1 => ?_)
    exact z_zrb C dX7_canStand_104
  refine z_case 81 (fun hc1_2 => ?_) (fun hc1_2 => ?_)
  · refine z_tabIn (tgt := 105) C dX7_canStand_1 81 hc1_2 (by decide) (by decide) rfl (by decide) ?_
    refine z_iload_n C dX7_canStand_105 1 rfl ?_
    refine z_callNz (As := [.int x1]) (st := []) C zy_X9_isPlace zs_X9_isPlace mn_X7_107 (by decide) (fun _ _ h => m_X9_isPlace h) rfl rfl (Nat.le_of_ble_eq_true rfl) dX7_canStand_106 (fun v1 σ1 => ?_)
    refine z_if_eq (tgt := 121) C dX7_canStand_109 (by decide) ?_ ?_
    · refine z_iconst (v := 0) C dX7_canStand_121 (by decide) ?_
      exact z_zret C (by decide) dX7_canStand_122
    · refine z_iload_n C dX7_canStand_112 1 rfl ?_
      refine z_iload_n C dX7_canStand_113 2 rfl ?_
      refine z_icmp_eq (tgt := 121) C dX7_canStand_114 (by decide) ?_ ?_
      · refine z_iconst (v := 0) C dX7_canStand_121 (by decide) ?_
        exact z_zret C (by decide) dX7_canStand_122
      · refine z_iconst (v := 1) C dX7_canStand_117 (by decide) ?_
        refine z_goto (tgt := 122) C dX7_canStand_118 (by decide) ?_
        exact z_zret C (by decide) dX7_canStand_122
  refine z_case 83 (fun hc1_3 => ?_) (fun hc1_3 => ?_)
  · refine z_tabIn (tgt := 166) C dX7_canStand_1 83 hc1_3 (by decide) (by decide) rfl (by decide) ?_
    refine z_iload_n C dX7_canStand_166 1 rfl ?_
    refine z_bipush (v := 99) C dX7_canStand_167 (by decide) ?_
    refine z_icmp_gt (tgt := 176) C dX7_canStand_169 (by decide) ?_ ?_
    · refine z_iconst (v := 0) C dX7_canStand_176 (by decide) ?_
      exact z_zret C (by decide) dX7_canStand_177
    · refine z_iconst (v := 1) C dX7_canStand_172 (by decide) ?_
      refine z_goto (tgt := 177) C dX7_canStand_173 (by decide) ?_
      exact z_zret C (by decide) dX7_canStand_177
  refine z_case 87 (fun hc1_4 => ?_) (fun hc1_4 => ?_)
  · refine z_tabIn (tgt := 145) C dX7_canStand_1 87 hc1_4 (by decide) (by decide) rfl (by decide) ?_
    refine z_iload_n C dX7_canStand_145 1 rfl ?_
    refine z_iconst (v := 1) C dX7_canStand_146 (by decide) ?_
    refine z_sipush (v := 999) C dX7_canStand_147 (by decide) ?_
    refine z_callNz (As := [.int x1, .int 1, .int 999]) (st := []) C zy_X9_isWithin zs_X9_isWithin mn_X7_77 (by decide) (fun _ _ h => m_X9_isWithin h) rfl rfl (Nat.le_of_ble_eq_true rfl) dX7_canStand_150 (fun v1 σ1 => ?_)
    exact z_zrb C dX7_canStand_153
  refine z_case 89 (fun hc1_5 => ?_) (fun hc1_5 => ?_)
  · refine z_tabIn (tgt := 123) C dX7_canStand_1 89 hc1_5 (by decide) (by decide) rfl (by decide) ?_
    refine z_iload_n C dX7_canStand_123 1 rfl ?_
    refine z_sipush (v := 9999) C dX7_canStand_124 (by decide) ?_
    refine z_icmp_gt (tgt := 134) C dX7_canStand_127 (by decide) ?_ ?_
    · refine z_iconst (v := 0) C dX7_canStand_134 (by decide) ?_
      exact z_zret C (by decide) dX7_canStand_135
    · refine z_iconst (v := 1) C dX7_canStand_130 (by decide) ?_
      refine z_goto (tgt := 135) C dX7_canStand_131 (by decide) ?_
      exact z_zret C (by decide) dX7_canStand_135
  refine z_case 90 (fun hc1_6 => ?_) (fun hc1_6 => ?_)
  · refine z_tabIn (tgt := 136) C dX7_canStand_1 90 hc1_6 (by decide) (by decide) rfl (by decide) ?_
    refine z_iload_n C dX7_canStand_136 1 rfl ?_
    refine z_iload_n C dX7_canStand_137 2 rfl ?_
    refine z_sipush (v := 9999) C dX7_canStand_138 (by decide) ?_
    refine z_callNz (As := [.int x1, .int x2, .int 9999]) (st := []) C zy_X9_isWithin zs_X9_isWithin mn_X7_77 (by decide) (fun _ _ h => m_X9_isWithin h) rfl rfl (Nat.le_of_ble_eq_true rfl) dX7_canStand_141 (fun v1 σ1 => ?_)
    exact z_zrb C dX7_canStand_144
  refine z_tabD (tgt := 178) C [70, 80, 81, 83, 87, 89, 90] (List.forall_mem_cons.mpr ⟨ztoi hc1_0 rfl, (List.forall_mem_cons.mpr ⟨ztoi hc1_1 rfl, (List.forall_mem_cons.mpr ⟨ztoi hc1_2 rfl, (List.forall_mem_cons.mpr ⟨ztoi hc1_3 rfl, (List.forall_mem_cons.mpr ⟨ztoi hc1_4 rfl, (List.forall_mem_cons.mpr ⟨ztoi hc1_5 rfl, (List.forall_mem_cons.mpr ⟨ztoi hc1_6 rfl, (fun _ h => absurd h List.not_mem_nil)⟩)⟩)⟩)⟩)⟩)⟩)⟩) dX7_canStand_1 (by decide +kernel) (by decide) ?_
  refine z_iload_n C dX7_canStand_178 1 rfl ?_
  refine z_sipush (v := 999) C dX7_canStand_179 (by decide) ?_
  refine z_icmp_gt (tgt := 189) C dX7_canStand_182 (by decide) ?_ ?_
  · refine z_iconst (v := 0) C dX7_canStand_189 (by decide) ?_
    exact z_zret C (by decide) dX7_canStand_190
  · refine z_iconst (v := 1) C dX7_canStand_185 (by decide) ?_
    refine z_goto (tgt := 190) C dX7_canStand_186 (by decide) ?_
    exact z_zret C (by decide) dX7_canStand_190
theorem m_X7_canStand {l : Launch} {G : zG} {x0 : Int32} {x1 : Int32} {x2 : Int32} {σ σ1 : zS} {r : Int32} (h : f_X7_canStand x0 x1 x2 σ = some (r, σ1)) : zM l G zshA yX7_canStand cX7_canStand 3 (some .boolean) 2 [.int x0, .int x1, .int x2] (zov (some .boolean) G r) σ σ1 :=
  z_met (by decide) (Nat.le_of_ble_eq_true rfl) h (fun K _ hG C => by subst hG; exact b_X7_canStand K C x0 x1 x2 σ)
theorem b_X7_readLine_L34 (K : zK) (C : zOk zshA K RX7 cX7_readLine (some .boolean) 7 7) (x1 : Int32) (x3 : Int32) : ∀ (n : Nat) (x4 : Int32) (x5 : Int32) (σ : zS), Zf zshA K (f_X7_readLine_L34 x1 x3 n x4 x5 σ) 34 [(0, .ref (ga (kG K) 1)), (1, .int x1), (3, .ref (gk (kG K) (x3).toNatClampNeg)), (4, .int x4), (5, .int x5)] [] σ := by
  intro n
  induction n with
  | zero => intro x4 x5 σ; rw [f_X7_readLine_L34]; exact z_none
  | succ n ih =>
  intro x4 x5 σ
  rw [f_X7_readLine_L34]
  refine z_iload C dX7_readLine_34 4 rfl ?_
  refine z_aload_n C dX7_readLine_36 2 rfl ?_
  refine z_callTi (q := (x3).toNatClampNeg) (As := []) (st := [.int x5]) C zy_J0_length_8abf5 zv_J0_length_8abf5 ml_X7_46 rfl (fun h => zq_J0_length_8abf5 h) (by decide) (fun _ _ h => m_J0_length_8abf5 h) rfl rfl (Nat.le_of_ble_eq_true rfl) dX7_readLine_37 (fun v1 σ1 => ?_)
  refine z_icmp_ge (tgt := 100) C dX7_readLine_40 (by decide) ?_ ?_
  · refine z_iconst (v := 1) C dX7_readLine_100 (by decide) ?_
    exact z_zret C (by decide) dX7_readLine_101
  · refine z_aload_n C dX7_readLine_43 0 rfl ?_
    refine z_callVv (q := 1) (As := []) (st := []) C zy_X7_takeToken zv_X7_takeToken ml_X7_35 rcA_1 (by decide) (fun _ _ h => m_X7_takeToken h) rfl rfl (Nat.le_of_ble_eq_true rfl) dX7_readLine_44 (fun _ σ2 => ?_)
    refine z_aload_n C dX7_readLine_47 0 rfl ?_
    refine z_callVi (q := 1) (As := []) (st := []) C zy_X7_numberOfToken zv_X7_numberOfToken ml_X7_50 rcA_1 (by decide) (fun _ _ h => m_X7_numberOfToken h) rfl rfl (Nat.le_of_ble_eq_true rfl) dX7_readLine_48 (fun v3 σ3 => ?_)
    refine z_istore (lv1 := [(6, .int v3), (0, .ref (ga (kG K) 1)), (1, .int x1), (3, .ref (gk (kG K) (x3).toNatClampNeg)), (4, .int x4), (5, .int x5)]) C dX7_readLine_51 (by decide) rfl ?_
    refine z_iload C dX7_readLine_53 0 rfl ?_
    refine z_iconst (v := (-1)) C dX7_readLine_55 (by decide) ?_
    refine z_icmp_eq (tgt := 75) C dX7_readLine_56 (by decide) ?_ ?_
    · refine z_iconst (v := 0) C dX7_readLine_75 (by decide) ?_
      exact z_zret C (by decide) dX7_readLine_76
    · refine z_aload_n C dX7_readLine_59 3 rfl ?_
      refine z_iload C dX7_readLine_60 5 rfl ?_
      refine z_callTc (q := (x3).toNatClampNeg) (As := [.int x5]) (st := []) C zy_J0_charAt_5068e zv_J0_charAt_5068e ml_X7_53 rfl (fun h => zq_J0_charAt_5068e h) (by decide) (fun _ _ h => m_J0_charAt_5068e h) rfl rfl (Nat.le_of_ble_eq_true rfl) dX7_readLine_62 (fun v4 σ4 => ?_)
      refine z_iload C dX7_readLine_65 0 rfl ?_
      refine z_iload C dX7_readLine_67 4 rfl ?_
      refine z_callSz (As := [.int v4, .int v3, .int x4]) (st := []) C zy_X7_canStand zs_X7_canStand ml_X7_57 (by decide) (fun _ _ h => m_X7_canStand h) rfl rfl (Nat.le_of_ble_eq_true rfl) dX7_readLine_69 (fun v5 σ5 => ?_)
      refine z_if_ne (tgt := 77) C dX7_readLine_72 (by decide) ?_ ?_
      · refine z_iconst (v := 0) C dX7_readLine_75 (by decide) ?_
        exact z_zret C (by decide) dX7_readLine_76
      · refine z_aload_n C dX7_readLine_77 1 rfl ?_
        refine z_getR C fd_X7_15 dX7_readLine_78 ?_
        refine z_iload_n C dX7_readLine_81 2 rfl ?_
        refine z_iconst (v := 1) C dX7_readLine_82 (by decide) ?_
        refine z_iadd C dX7_readLine_83 ?_
        refine z_iload C dX7_readLine_84 5 rfl ?_
        refine z_iadd C dX7_readLine_86 ?_
        refine z_iload C dX7_readLine_87 0 rfl ?_
        refine z_iast C sA_3 dX7_readLine_89 (fun σ6 => ?_)
        refine z_iload C dX7_readLine_90 0 rfl ?_
        refine z_istore (lv1 := [(4, .int v3), (6, .int v3), (0, .ref (ga (kG K) 1)), (1, .int x1), (3, .ref (gk (kG K) (x3).toNatClampNeg)), (5, .int x5)]) C dX7_readLine_92 (by decide) rfl ?_
        refine z_iinc (v := 1) (lv1 := [(5, .int (x5 + 1)), (4, .int v3), (6, .int v3), (0, .ref (ga (kG K) 1)), (1, .int x1), (3, .ref (gk (kG K) (x3).toNatClampNeg))]) C dX7_readLine_94 5 rfl (by decide) (by decide) rfl ?_
        refine z_goto (tgt := 34) C dX7_readLine_97 (by decide) ?_
        exact z_sub [3, 4, 5, 1, 0] rfl (ih v3 (x5 + 1) σ6)
theorem b_X7_readLine (K : zK) (C : zOk zshA K RX7 cX7_readLine (some .boolean) 7 7) (x1 : Int32) (σ : zS) : Zf zshA K (f_X7_readLine x1 σ) 0 [(0, .ref (ga (kG K) 1)), (1, .int x1)] [] σ := by
  unfold f_X7_readLine
  refine z_aload_n C dX7_readLine_0 0 rfl ?_
  refine z_callVv (q := 1) (As := []) (st := []) C zy_X7_takeToken zv_X7_takeToken ml_X7_35 rcA_1 (by decide) (fun _ _ h => m_X7_takeToken h) rfl rfl (Nat.le_of_ble_eq_true rfl) dX7_readLine_1 (fun _ σ1 => ?_)
  refine z_aload_n C dX7_readLine_4 0 rfl ?_
  refine z_callVi (q := 1) (As := []) (st := []) C zy_X7_kindOfToken zv_X7_kindOfToken ml_X7_38 rcA_1 (by decide) (fun _ _ h => m_X7_kindOfToken h) rfl rfl (Nat.le_of_ble_eq_true rfl) dX7_readLine_5 (fun v2 σ2 => ?_)
  refine z_istore_n (lv1 := [(2, .int v2), (0, .ref (ga (kG K) 1)), (1, .int x1)]) C dX7_readLine_8 (by decide) rfl ?_
  refine z_iload_n C dX7_readLine_9 0 rfl ?_
  refine z_iconst (v := (-1)) C dX7_readLine_10 (by decide) ?_
  refine z_icmp_ne (tgt := 16) C dX7_readLine_11 (by decide) ?_ ?_
  · refine z_iconst (v := 0) C dX7_readLine_14 (by decide) ?_
    exact z_zret C (by decide) dX7_readLine_15
  · refine z_aload_n C dX7_readLine_16 1 rfl ?_
    refine z_getR C fd_X7_15 dX7_readLine_17 ?_
    refine z_iload_n C dX7_readLine_20 2 rfl ?_
    refine z_iload_n C dX7_readLine_21 0 rfl ?_
    refine z_iast C sA_3 dX7_readLine_22 (fun σ3 => ?_)
    refine z_iload_n C dX7_readLine_23 0 rfl ?_
    refine z_callSa (As := [.int v2]) (st := []) C zy_X7_formOf zs_X7_formOf ml_X7_42 (by decide) (fun _ _ h => m_X7_formOf h) rfl rfl (Nat.le_of_ble_eq_true rfl) dX7_readLine_24 (fun v4 σ4 => ?_)
    refine z_astore_n (lv1 := [(3, .ref (gk (kG K) (v4).toNatClampNeg)), (2, .int v2), (0, .ref (ga (kG K) 1)), (1, .int x1)]) C dX7_readLine_27 (by decide) rfl ?_
    refine z_iconst (v := 0) C dX7_readLine_28 (by decide) ?_
    refine z_istore (lv1 := [(4, .int 0), (3, .ref (gk (kG K) (v4).toNatClampNeg)), (2, .int v2), (0, .ref (ga (kG K) 1)), (1, .int x1)]) C dX7_readLine_29 (by decide) rfl ?_
    refine z_iconst (v := 0) C dX7_readLine_31 (by decide) ?_
    refine z_istore (lv1 := [(5, .int 0), (4, .int 0), (3, .ref (gk (kG K) (v4).toNatClampNeg)), (2, .int v2), (0, .ref (ga (kG K) 1)), (1, .int x1)]) C dX7_readLine_32 (by decide) rfl ?_
    exact z_sub [4, 5, 2, 1, 0] rfl (b_X7_readLine_L34 K C x1 v4 zfu 0 0 σ4)
theorem m_X7_readLine {l : Launch} {G : zG} {x1 : Int32} {σ σ1 : zS} {r : Int32} (h : f_X7_readLine x1 σ = some (r, σ1)) : zM l G zshA yX7_readLine cX7_readLine 7 (some .boolean) 7 [.ref (ga G 1), .int x1] (zov (some .boolean) G r) σ σ1 :=
  z_met (by decide) (Nat.le_of_ble_eq_true rfl) h (fun K _ hG C => by subst hG; exact b_X7_readLine K C x1 σ)
theorem b_X7_read_L12 (K : zK) (C : zOk zshA K RX7 cX7_read (some .int) 2 8) : ∀ (n : Nat) (x1 : Int32) (σ : zS), Zf zshA K (f_X7_read_L12 n x1 σ) 12 [(0, .ref (ga (kG K) 1)), (1, .int x1)] [] σ := by
  intro n
  induction n with
  | zero => intro x1 σ; rw [f_X7_read_L12]; exact z_none
  | succ n ih =>
  intro x1 σ
  rw [f_X7_read_L12]
  refine z_iload_n C dX7_read_12 1 rfl ?_
  refine z_bipush (v := 8) C dX7_read_13 (by decide) ?_
  refine z_icmp_ge (tgt := 86) C dX7_read_15 (by decide) ?_ ?_
  · refine z_aload_n C dX7_read_86 0 rfl ?_
    refine z_getI C fd_X7_32 dX7_read_87 ?_
    exact z_iret C dX7_read_90
  · refine z_aload_n C dX7_read_18 0 rfl ?_
    refine z_iload_n C dX7_read_19 1 rfl ?_
    refine z_bipush (v := 8) C dX7_read_20 (by decide) ?_
    refine z_imul C dX7_read_22 ?_
    refine z_callVz (q := 1) (As := [.int (x1 * 8)]) (st := []) C zy_X7_readLine zv_X7_readLine ml_X7_28 rcA_1 (by decide) (fun _ _ h => m_X7_readLine h) rfl rfl (Nat.le_of_ble_eq_true rfl) dX7_read_23 (fun v1 σ1 => ?_)
    refine z_if_ne (tgt := 34) C dX7_read_26 (by decide) ?_ ?_
    · refine z_aload_n C dX7_read_29 0 rfl ?_
      refine z_getI C fd_X7_32 dX7_read_30 ?_
      exact z_iret C dX7_read_33
    · refine z_aload_n C dX7_read_34 0 rfl ?_
      refine z_dup C dX7_read_35 rfl ?_
      refine z_getI C fd_X7_25 dX7_read_36 ?_
      refine z_iconst (v := 1) C dX7_read_39 (by decide) ?_
      refine z_iadd C dX7_read_40 ?_
      refine z_putI C fd_X7_25 fwA_1_3 (lgA 1) (by decide) dX7_read_41 (fun σ2 => ?_)
      refine z_aload_n C dX7_read_44 0 rfl ?_
      refine z_callVv (q := 1) (As := []) (st := []) C zy_X7_takeToken zv_X7_takeToken ml_X7_35 rcA_1 (by decide) (fun _ _ h => m_X7_takeToken h) rfl rfl (Nat.le_of_ble_eq_true rfl) dX7_read_45 (fun _ σ3 => ?_)
      refine z_aload_n C dX7_read_48 0 rfl ?_
      refine z_getI C fd_X7_32 dX7_read_49 ?_
      refine z_aload_n C dX7_read_52 0 rfl ?_
      refine z_getI C fd_X7_18 dX7_read_53 ?_
      refine z_icmp_lt (tgt := 61) C dX7_read_56 (by decide) ?_ ?_
      · refine z_aload_n C dX7_read_61 0 rfl ?_
        refine z_getR C fd_X7_9 dX7_read_62 ?_
        refine z_aload_n C dX7_read_65 0 rfl ?_
        refine z_getI C fd_X7_32 dX7_read_66 ?_
        refine z_iald C sA_2 dX7_read_69 (fun v4 => ?_)
        refine z_bipush (v := 59) C dX7_read_70 (by decide) ?_
        refine z_icmp_eq (tgt := 80) C dX7_read_72 (by decide) ?_ ?_
        · refine z_iinc (v := 1) (lv1 := [(1, .int (x1 + 1)), (0, .ref (ga (kG K) 1))]) C dX7_read_80 1 rfl (by decide) (by decide) rfl ?_
          refine z_goto (tgt := 12) C dX7_read_83 (by decide) ?_
          exact z_sub [1, 0] rfl (ih (x1 + 1) σ3)
        · refine z_aload_n C dX7_read_75 0 rfl ?_
          refine z_getI C fd_X7_32 dX7_read_76 ?_
          exact z_iret C dX7_read_79
      · refine z_iconst (v := (-1)) C dX7_read_59 (by decide) ?_
        exact z_iret C dX7_read_60
theorem b_X7_read (K : zK) (C : zOk zshA K RX7 cX7_read (some .int) 2 8) (σ : zS) : Zf zshA K (f_X7_read σ) 0 [(0, .ref (ga (kG K) 1))] [] σ := by
  unfold f_X7_read
  refine z_aload_n C dX7_read_0 0 rfl ?_
  refine z_iconst (v := 0) C dX7_read_1 (by decide) ?_
  refine z_putI C fd_X7_22 fwA_1_5 (lgA 1) (by decide) dX7_read_2 (fun σ1 => ?_)
  refine z_aload_n C dX7_read_5 0 rfl ?_
  refine z_iconst (v := 0) C dX7_read_6 (by decide) ?_
  refine z_putI C fd_X7_25 fwA_1_3 (lgA 1) (by decide) dX7_read_7 (fun σ2 => ?_)
  refine z_iconst (v := 0) C dX7_read_10 (by decide) ?_
  refine z_istore_n (lv1 := [(1, .int 0), (0, .ref (ga (kG K) 1))]) C dX7_read_11 (by decide) rfl ?_
  exact z_sub [1, 0] rfl (b_X7_read_L12 K C zfu 0 σ2)
theorem m_X7_read {l : Launch} {G : zG} {σ σ1 : zS} {r : Int32} (h : f_X7_read σ = some (r, σ1)) : zM l G zshA yX7_read cX7_read 2 (some .int) 8 [.ref (ga G 1)] (zov (some .int) G r) σ σ1 :=
  z_met (by decide) (Nat.le_of_ble_eq_true rfl) h (fun K _ hG C => by subst hG; exact b_X7_read K C σ)
theorem b_X9_fault (K : zK) (C : zOk zshA K RX9 cX9_fault (some .int) 1 9) (σ : zS) : Zf zshA K (f_X9_fault σ) 0 [(0, .ref (ga (kG K) 0))] [] σ := by
  unfold f_X9_fault
  refine z_aload_n C dX9_fault_0 0 rfl ?_
  refine z_getR C fd_X9_12 dX9_fault_1 ?_
  refine z_callVi (q := 1) (As := []) (st := []) C zy_X7_read zv_X7_read ml_X9_100 rcA_1 (by decide) (fun _ _ h => m_X7_read h) rfl rfl (Nat.le_of_ble_eq_true rfl) dX9_fault_4 (fun v1 σ1 => ?_)
  exact z_iret C dX9_fault_7
theorem m_X9_fault {l : Launch} {G : zG} {σ σ1 : zS} {r : Int32} (h : f_X9_fault σ = some (r, σ1)) : zM l G zshA yX9_fault cX9_fault 1 (some .int) 9 [.ref (ga G 0)] (zov (some .int) G r) σ σ1 :=
  z_met (by decide) (Nat.le_of_ble_eq_true rfl) h (fun K _ hG C => by subst hG; exact b_X9_fault K C σ)
theorem b_X3_tellFlow_L30 (K : zK) (C : zOk zshA K RX3 cX3_tellFlow none 5 0) (x1 : Int32) (x3 : Int32) : ∀ (n : Nat) (x4 : Int32) (σ : zS), Zf zshA K (f_X3_tellFlow_L30 x1 x3 n x4 σ) 30 [(0, .ref (ga (kG K) 4)), (1, .int x1), (2, .ref (ga (kG K) 3)), (3, .int x3), (4, .int x4)] [] σ := by
  intro n
  induction n with
  | zero => intro x4 σ; rw [f_X3_tellFlow_L30]; exact z_none
  | succ n ih =>
  intro x4 σ
  rw [f_X3_tellFlow_L30]
  refine z_iload C dX3_tellFlow_30 4 rfl ?_
  refine z_iconst (v := 3) C dX3_tellFlow_32 (by decide) ?_
  refine z_icmp_ge (tgt := 61) C dX3_tellFlow_33 (by decide) ?_ ?_
  · refine z_aload_n C dX3_tellFlow_61 0 rfl ?_
    refine z_getR C fd_X3_34 dX3_tellFlow_62 ?_
    refine z_iload_n C dX3_tellFlow_65 1 rfl ?_
    refine z_aload_n C dX3_tellFlow_66 2 rfl ?_
    refine z_iload_n C dX3_tellFlow_67 3 rfl ?_
    refine z_iconst (v := 2) C dX3_tellFlow_68 (by decide) ?_
    refine z_iadd C dX3_tellFlow_69 ?_
    refine z_iconst (v := 3) C dX3_tellFlow_70 (by decide) ?_
    refine z_iadd C dX3_tellFlow_71 ?_
    refine z_iald C sA_3 dX3_tellFlow_72 (fun v1 => ?_)
    refine z_iast C sA_12 dX3_tellFlow_73 (fun σ2 => ?_)
    exact z_vret C dX3_tellFlow_74
  · refine z_aload_n C dX3_tellFlow_36 0 rfl ?_
    refine z_getR C fd_X3_31 dX3_tellFlow_37 ?_
    refine z_iload_n C dX3_tellFlow_40 1 rfl ?_
    refine z_iconst (v := 3) C dX3_tellFlow_41 (by decide) ?_
    refine z_imul C dX3_tellFlow_42 ?_
    refine z_iload C dX3_tellFlow_43 4 rfl ?_
    refine z_iadd C dX3_tellFlow_45 ?_
    refine z_aload_n C dX3_tellFlow_46 2 rfl ?_
    refine z_iload_n C dX3_tellFlow_47 3 rfl ?_
    refine z_iconst (v := 2) C dX3_tellFlow_48 (by decide) ?_
    refine z_iadd C dX3_tellFlow_49 ?_
    refine z_iload C dX3_tellFlow_50 4 rfl ?_
    refine z_iadd C dX3_tellFlow_52 ?_
    refine z_iald C sA_3 dX3_tellFlow_53 (fun v1 => ?_)
    refine z_iast C sA_11 dX3_tellFlow_54 (fun σ2 => ?_)
    refine z_iinc (v := 1) (lv1 := [(4, .int (x4 + 1)), (0, .ref (ga (kG K) 4)), (1, .int x1), (2, .ref (ga (kG K) 3)), (3, .int x3)]) C dX3_tellFlow_55 4 rfl (by decide) (by decide) rfl ?_
    refine z_goto (tgt := 30) C dX3_tellFlow_58 (by decide) ?_
    exact z_sub [1, 2, 3, 4, 0] rfl (ih (x4 + 1) σ2)
theorem b_X3_tellFlow (K : zK) (C : zOk zshA K RX3 cX3_tellFlow none 5 0) (x1 : Int32) (x3 : Int32) (σ : zS) : Zf zshA K (f_X3_tellFlow x1 x3 σ) 0 [(0, .ref (ga (kG K) 4)), (1, .int x1), (2, .ref (ga (kG K) 3)), (3, .int x3)] [] σ := by
  unfold f_X3_tellFlow
  refine z_aload_n C dX3_tellFlow_0 0 rfl ?_
  refine z_getR C fd_X3_21 dX3_tellFlow_1 ?_
  refine z_iload_n C dX3_tellFlow_4 1 rfl ?_
  refine z_iconst (v := 1) C dX3_tellFlow_5 (by decide) ?_
  refine z_bast1 C sA_8 dX3_tellFlow_6 (fun σ1 => ?_)
  refine z_aload_n C dX3_tellFlow_7 0 rfl ?_
  refine z_getR C fd_X3_25 dX3_tellFlow_8 ?_
  refine z_iload_n C dX3_tellFlow_11 1 rfl ?_
  refine z_aload_n C dX3_tellFlow_12 2 rfl ?_
  refine z_iload_n C dX3_tellFlow_13 3 rfl ?_
  refine z_iald C sA_3 dX3_tellFlow_14 (fun v2 => ?_)
  refine z_iast C sA_9 dX3_tellFlow_15 (fun σ3 => ?_)
  refine z_aload_n C dX3_tellFlow_16 0 rfl ?_
  refine z_getR C fd_X3_28 dX3_tellFlow_17 ?_
  refine z_iload_n C dX3_tellFlow_20 1 rfl ?_
  refine z_aload_n C dX3_tellFlow_21 2 rfl ?_
  refine z_iload_n C dX3_tellFlow_22 3 rfl ?_
  refine z_iconst (v := 1) C dX3_tellFlow_23 (by decide) ?_
  refine z_iadd C dX3_tellFlow_24 ?_
  refine z_iald C sA_3 dX3_tellFlow_25 (fun v4 => ?_)
  refine z_iast C sA_10 dX3_tellFlow_26 (fun σ5 => ?_)
  refine z_iconst (v := 0) C dX3_tellFlow_27 (by decide) ?_
  refine z_istore (lv1 := [(4, .int 0), (0, .ref (ga (kG K) 4)), (1, .int x1), (2, .ref (ga (kG K) 3)), (3, .int x3)]) C dX3_tellFlow_28 (by decide) rfl ?_
  exact z_sub [1, 2, 3, 4, 0] rfl (b_X3_tellFlow_L30 K C x1 x3 zfu 0 σ5)
theorem m_X3_tellFlow {l : Launch} {G : zG} {x1 : Int32} {x3 : Int32} {σ σ1 : zS} {r : Int32} (h : f_X3_tellFlow x1 x3 σ = some (r, σ1)) : zM l G zshA yX3_tellFlow cX3_tellFlow 5 none 0 [.ref (ga G 4), .int x1, .ref (ga G 3), .int x3] (zov none G r) σ σ1 :=
  z_met (by decide) (Nat.le_of_ble_eq_true rfl) h (fun K _ hG C => by subst hG; exact b_X3_tellFlow K C x1 x3 σ)
theorem b_X3_tellWay_13_15_J30 (K : zK) (C : zOk zshA K RX3 cX3_tellWay none 6 0) (x2 : Int32) (x3 : Int32) (s0 : Int32) (σ : zS) : Zf zshA K (f_X3_tellWay_13_15_J30 x2 x3 s0 σ) 30 [(1, .ref (ga (kG K) 15)), (2, .int x2), (3, .int x3)] [.int s0] σ := by
  unfold f_X3_tellWay_13_15_J30
  refine z_istore (lv1 := [(5, .int s0), (1, .ref (ga (kG K) 15)), (2, .int x2), (3, .int x3)]) C dX3_tellWay_30 (by decide) rfl ?_
  refine z_aload_n C dX3_tellWay_32 1 rfl ?_
  refine z_iload_n C dX3_tellWay_33 2 rfl ?_
  refine z_aload_n C dX3_tellWay_34 1 rfl ?_
  refine z_iload_n C dX3_tellWay_35 2 rfl ?_
  refine z_iald C sA_15 dX3_tellWay_36 (fun v1 => ?_)
  refine z_iconst (v := 1) C dX3_tellWay_37 (by decide) ?_
  refine z_iload_n C dX3_tellWay_38 3 rfl ?_
  refine z_ishl C dX3_tellWay_39 ?_
  refine z_iconst (v := (-1)) C dX3_tellWay_40 (by decide) ?_
  refine z_ixor C dX3_tellWay_41 ?_
  refine z_iand C dX3_tellWay_42 ?_
  refine z_iload C dX3_tellWay_43 0 rfl ?_
  refine z_iload_n C dX3_tellWay_45 3 rfl ?_
  refine z_ishl C dX3_tellWay_46 ?_
  refine z_ior C dX3_tellWay_47 ?_
  refine z_iast C sA_15 dX3_tellWay_48 (fun σ2 => ?_)
  refine z_aload_n C dX3_tellWay_49 1 rfl ?_
  refine z_iload_n C dX3_tellWay_50 3 rfl ?_
  refine z_aload_n C dX3_tellWay_51 1 rfl ?_
  refine z_iload_n C dX3_tellWay_52 3 rfl ?_
  refine z_iald C sA_15 dX3_tellWay_53 (fun v3 => ?_)
  refine z_iconst (v := 1) C dX3_tellWay_54 (by decide) ?_
  refine z_iload_n C dX3_tellWay_55 2 rfl ?_
  refine z_ishl C dX3_tellWay_56 ?_
  refine z_iconst (v := (-1)) C dX3_tellWay_57 (by decide) ?_
  refine z_ixor C dX3_tellWay_58 ?_
  refine z_iand C dX3_tellWay_59 ?_
  refine z_iload C dX3_tellWay_60 0 rfl ?_
  refine z_iload_n C dX3_tellWay_62 2 rfl ?_
  refine z_ishl C dX3_tellWay_63 ?_
  refine z_ior C dX3_tellWay_64 ?_
  refine z_iast C sA_15 dX3_tellWay_65 (fun σ4 => ?_)
  exact z_vret C dX3_tellWay_66
theorem b_X3_tellWay_13_15 (K : zK) (C : zOk zshA K RX3 cX3_tellWay none 6 0) (x2 : Int32) (x3 : Int32) (x4 : Int32) (σ : zS) : Zf zshA K (f_X3_tellWay_13_15 x2 x3 x4 σ) 0 [(0, .ref (ga (kG K) 13)), (1, .ref (ga (kG K) 15)), (2, .int x2), (3, .int x3), (4, .int x4)] [] σ := by
  unfold f_X3_tellWay_13_15
  refine z_aload_n C dX3_tellWay_0 0 rfl ?_
  refine z_iload_n C dX3_tellWay_1 2 rfl ?_
  refine z_bipush (v := 10) C dX3_tellWay_2 (by decide) ?_
  refine z_imul C dX3_tellWay_4 ?_
  refine z_iload_n C dX3_tellWay_5 3 rfl ?_
  refine z_iadd C dX3_tellWay_6 ?_
  refine z_iload C dX3_tellWay_7 4 rfl ?_
  refine z_iast C sA_13 dX3_tellWay_9 (fun σ1 => ?_)
  refine z_aload_n C dX3_tellWay_10 0 rfl ?_
  refine z_iload_n C dX3_tellWay_11 3 rfl ?_
  refine z_bipush (v := 10) C dX3_tellWay_12 (by decide) ?_
  refine z_imul C dX3_tellWay_14 ?_
  refine z_iload_n C dX3_tellWay_15 2 rfl ?_
  refine z_iadd C dX3_tellWay_16 ?_
  refine z_iload C dX3_tellWay_17 4 rfl ?_
  refine z_iast C sA_13 dX3_tellWay_19 (fun σ2 => ?_)
  refine z_iload C dX3_tellWay_20 4 rfl ?_
  refine z_if_le (tgt := 29) C dX3_tellWay_22 (by decide) ?_ ?_
  · refine z_iconst (v := 0) C dX3_tellWay_29 (by decide) ?_
    exact z_sub [1, 2, 3] rfl (b_X3_tellWay_13_15_J30 K C x2 x3 0 σ2)
  · refine z_iconst (v := 1) C dX3_tellWay_25 (by decide) ?_
    refine z_goto (tgt := 30) C dX3_tellWay_26 (by decide) ?_
    exact z_sub [1, 2, 3] rfl (b_X3_tellWay_13_15_J30 K C x2 x3 1 σ2)
theorem m_X3_tellWay_13_15 {l : Launch} {G : zG} {x2 : Int32} {x3 : Int32} {x4 : Int32} {σ σ1 : zS} {r : Int32} (h : f_X3_tellWay_13_15 x2 x3 x4 σ = some (r, σ1)) : zM l G zshA yX3_tellWay cX3_tellWay 6 none 0 [.ref (ga G 13), .ref (ga G 15), .int x2, .int x3, .int x4] (zov none G r) σ σ1 :=
  z_met (by decide) (Nat.le_of_ble_eq_true rfl) h (fun K _ hG C => by subst hG; exact b_X3_tellWay_13_15 K C x2 x3 x4 σ)
theorem b_X3_tellWay_14_16_J30 (K : zK) (C : zOk zshA K RX3 cX3_tellWay none 6 0) (x2 : Int32) (x3 : Int32) (s0 : Int32) (σ : zS) : Zf zshA K (f_X3_tellWay_14_16_J30 x2 x3 s0 σ) 30 [(1, .ref (ga (kG K) 16)), (2, .int x2), (3, .int x3)] [.int s0] σ := by
  unfold f_X3_tellWay_14_16_J30
  refine z_istore (lv1 := [(5, .int s0), (1, .ref (ga (kG K) 16)), (2, .int x2), (3, .int x3)]) C dX3_tellWay_30 (by decide) rfl ?_
  refine z_aload_n C dX3_tellWay_32 1 rfl ?_
  refine z_iload_n C dX3_tellWay_33 2 rfl ?_
  refine z_aload_n C dX3_tellWay_34 1 rfl ?_
  refine z_iload_n C dX3_tellWay_35 2 rfl ?_
  refine z_iald C sA_16 dX3_tellWay_36 (fun v1 => ?_)
  refine z_iconst (v := 1) C dX3_tellWay_37 (by decide) ?_
  refine z_iload_n C dX3_tellWay_38 3 rfl ?_
  refine z_ishl C dX3_tellWay_39 ?_
  refine z_iconst (v := (-1)) C dX3_tellWay_40 (by decide) ?_
  refine z_ixor C dX3_tellWay_41 ?_
  refine z_iand C dX3_tellWay_42 ?_
  refine z_iload C dX3_tellWay_43 0 rfl ?_
  refine z_iload_n C dX3_tellWay_45 3 rfl ?_
  refine z_ishl C dX3_tellWay_46 ?_
  refine z_ior C dX3_tellWay_47 ?_
  refine z_iast C sA_16 dX3_tellWay_48 (fun σ2 => ?_)
  refine z_aload_n C dX3_tellWay_49 1 rfl ?_
  refine z_iload_n C dX3_tellWay_50 3 rfl ?_
  refine z_aload_n C dX3_tellWay_51 1 rfl ?_
  refine z_iload_n C dX3_tellWay_52 3 rfl ?_
  refine z_iald C sA_16 dX3_tellWay_53 (fun v3 => ?_)
  refine z_iconst (v := 1) C dX3_tellWay_54 (by decide) ?_
  refine z_iload_n C dX3_tellWay_55 2 rfl ?_
  refine z_ishl C dX3_tellWay_56 ?_
  refine z_iconst (v := (-1)) C dX3_tellWay_57 (by decide) ?_
  refine z_ixor C dX3_tellWay_58 ?_
  refine z_iand C dX3_tellWay_59 ?_
  refine z_iload C dX3_tellWay_60 0 rfl ?_
  refine z_iload_n C dX3_tellWay_62 2 rfl ?_
  refine z_ishl C dX3_tellWay_63 ?_
  refine z_ior C dX3_tellWay_64 ?_
  refine z_iast C sA_16 dX3_tellWay_65 (fun σ4 => ?_)
  exact z_vret C dX3_tellWay_66
theorem b_X3_tellWay_14_16 (K : zK) (C : zOk zshA K RX3 cX3_tellWay none 6 0) (x2 : Int32) (x3 : Int32) (x4 : Int32) (σ : zS) : Zf zshA K (f_X3_tellWay_14_16 x2 x3 x4 σ) 0 [(0, .ref (ga (kG K) 14)), (1, .ref (ga (kG K) 16)), (2, .int x2), (3, .int x3), (4, .int x4)] [] σ := by
  unfold f_X3_tellWay_14_16
  refine z_aload_n C dX3_tellWay_0 0 rfl ?_
  refine z_iload_n C dX3_tellWay_1 2 rfl ?_
  refine z_bipush (v := 10) C dX3_tellWay_2 (by decide) ?_
  refine z_imul C dX3_tellWay_4 ?_
  refine z_iload_n C dX3_tellWay_5 3 rfl ?_
  refine z_iadd C dX3_tellWay_6 ?_
  refine z_iload C dX3_tellWay_7 4 rfl ?_
  refine z_iast C sA_14 dX3_tellWay_9 (fun σ1 => ?_)
  refine z_aload_n C dX3_tellWay_10 0 rfl ?_
  refine z_iload_n C dX3_tellWay_11 3 rfl ?_
  refine z_bipush (v := 10) C dX3_tellWay_12 (by decide) ?_
  refine z_imul C dX3_tellWay_14 ?_
  refine z_iload_n C dX3_tellWay_15 2 rfl ?_
  refine z_iadd C dX3_tellWay_16 ?_
  refine z_iload C dX3_tellWay_17 4 rfl ?_
  refine z_iast C sA_14 dX3_tellWay_19 (fun σ2 => ?_)
  refine z_iload C dX3_tellWay_20 4 rfl ?_
  refine z_if_le (tgt := 29) C dX3_tellWay_22 (by decide) ?_ ?_
  · refine z_iconst (v := 0) C dX3_tellWay_29 (by decide) ?_
    exact z_sub [1, 2, 3] rfl (b_X3_tellWay_14_16_J30 K C x2 x3 0 σ2)
  · refine z_iconst (v := 1) C dX3_tellWay_25 (by decide) ?_
    refine z_goto (tgt := 30) C dX3_tellWay_26 (by decide) ?_
    exact z_sub [1, 2, 3] rfl (b_X3_tellWay_14_16_J30 K C x2 x3 1 σ2)
theorem m_X3_tellWay_14_16 {l : Launch} {G : zG} {x2 : Int32} {x3 : Int32} {x4 : Int32} {σ σ1 : zS} {r : Int32} (h : f_X3_tellWay_14_16 x2 x3 x4 σ = some (r, σ1)) : zM l G zshA yX3_tellWay cX3_tellWay 6 none 0 [.ref (ga G 14), .ref (ga G 16), .int x2, .int x3, .int x4] (zov none G r) σ σ1 :=
  z_met (by decide) (Nat.le_of_ble_eq_true rfl) h (fun K _ hG C => by subst hG; exact b_X3_tellWay_14_16 K C x2 x3 x4 σ)
theorem b_X3_tell (K : zK) (C : zOk zshA K RX3 cX3_tell none 4 1) (x2 : Int32) (σ : zS) : Zf zshA K (f_X3_tell x2 σ) 0 [(0, .ref (ga (kG K) 4)), (1, .ref (ga (kG K) 3)), (2, .int x2)] [] σ := by
  unfold f_X3_tell
  refine z_aload_n C dX3_tell_0 1 rfl ?_
  refine z_iload_n C dX3_tell_1 2 rfl ?_
  refine z_iconst (v := 1) C dX3_tell_2 (by decide) ?_
  refine z_iadd C dX3_tell_3 ?_
  refine z_iald C sA_3 dX3_tell_4 (fun v1 => ?_)
  refine z_istore_n (lv1 := [(3, .int v1), (0, .ref (ga (kG K) 4)), (1, .ref (ga (kG K) 3)), (2, .int x2)]) C dX3_tell_5 (by decide) rfl ?_
  refine z_aload_n C dX3_tell_6 2 rfl ?_
  refine z_iload_n C dX3_tell_7 3 rfl ?_
  refine z_iald C sA_3 dX3_tell_8 (fun v2 => ?_)
  refine z_case 0 (fun hc9_0 => ?_) (fun hc9_0 => ?_)
  · refine z_tabIn (tgt := 44) C dX3_tell_9 0 hc9_0 (by decide) (by decide) rfl (by decide) ?_
    refine z_aload_n C dX3_tell_44 1 rfl ?_
    refine z_getR C fd_X3_9 dX3_tell_45 ?_
    refine z_iload_n C dX3_tell_48 0 rfl ?_
    refine z_aload_n C dX3_tell_49 2 rfl ?_
    refine z_iload_n C dX3_tell_50 3 rfl ?_
    refine z_iconst (v := 2) C dX3_tell_51 (by decide) ?_
    refine z_iadd C dX3_tell_52 ?_
    refine z_iald C sA_3 dX3_tell_53 (fun v3 => ?_)
    refine z_iast C sA_5 dX3_tell_54 (fun σ4 => ?_)
    refine z_aload_n C dX3_tell_55 1 rfl ?_
    refine z_getR C fd_X3_15 dX3_tell_56 ?_
    refine z_iload_n C dX3_tell_59 0 rfl ?_
    refine z_aload_n C dX3_tell_60 2 rfl ?_
    refine z_iload_n C dX3_tell_61 3 rfl ?_
    refine z_iconst (v := 3) C dX3_tell_62 (by decide) ?_
    refine z_iadd C dX3_tell_63 ?_
    refine z_iald C sA_3 dX3_tell_64 (fun v5 => ?_)
    refine z_iast C sA_6 dX3_tell_65 (fun σ6 => ?_)
    refine z_aload_n C dX3_tell_66 1 rfl ?_
    refine z_getR C fd_X3_18 dX3_tell_67 ?_
    refine z_iload_n C dX3_tell_70 0 rfl ?_
    refine z_aload_n C dX3_tell_71 2 rfl ?_
    refine z_iload_n C dX3_tell_72 3 rfl ?_
    refine z_iconst (v := 4) C dX3_tell_73 (by decide) ?_
    refine z_iadd C dX3_tell_74 ?_
    refine z_iald C sA_3 dX3_tell_75 (fun v7 => ?_)
    refine z_iast C sA_7 dX3_tell_76 (fun σ8 => ?_)
    refine z_goto (tgt := 155) C dX3_tell_77 (by decide) ?_
    exact z_vret C dX3_tell_155
  refine z_case 1 (fun hc9_1 => ?_) (fun hc9_1 => ?_)
  · refine z_tabIn (tgt := 80) C dX3_tell_9 1 hc9_1 (by decide) (by decide) rfl (by decide) ?_
    refine z_aload_n C dX3_tell_80 1 rfl ?_
    refine z_iload_n C dX3_tell_81 0 rfl ?_
    refine z_aload_n C dX3_tell_82 2 rfl ?_
    refine z_iload_n C dX3_tell_83 3 rfl ?_
    refine z_iconst (v := 2) C dX3_tell_84 (by decide) ?_
    refine z_iadd C dX3_tell_85 ?_
    refine z_callVv (q := 4) (As := [.int v1, .ref (ga (kG K) 3), .int (x2 + 2)]) (st := []) C zy_X3_tellFlow zv_X3_tellFlow ml_X3_60 rcA_4 (by decide) (fun _ _ h => m_X3_tellFlow h) rfl rfl (Nat.le_of_ble_eq_true rfl) dX3_tell_86 (fun _ σ3 => ?_)
    refine z_goto (tgt := 155) C dX3_tell_89 (by decide) ?_
    exact z_vret C dX3_tell_155
  refine z_case 2 (fun hc9_2 => ?_) (fun hc9_2 => ?_)
  · refine z_tabIn (tgt := 92) C dX3_tell_9 2 hc9_2 (by decide) (by decide) rfl (by decide) ?_
    refine z_aload_n C dX3_tell_92 1 rfl ?_
    refine z_getR C fd_X3_37 dX3_tell_93 ?_
    refine z_aload_n C dX3_tell_96 1 rfl ?_
    refine z_getR C fd_X3_43 dX3_tell_97 ?_
    refine z_iload_n C dX3_tell_100 0 rfl ?_
    refine z_aload_n C dX3_tell_101 2 rfl ?_
    refine z_iload_n C dX3_tell_102 3 rfl ?_
    refine z_iconst (v := 2) C dX3_tell_103 (by decide) ?_
    refine z_iadd C dX3_tell_104 ?_
    refine z_iald C sA_3 dX3_tell_105 (fun v3 => ?_)
    refine z_aload_n C dX3_tell_106 2 rfl ?_
    refine z_iload_n C dX3_tell_107 3 rfl ?_
    refine z_iconst (v := 3) C dX3_tell_108 (by decide) ?_
    refine z_iadd C dX3_tell_109 ?_
    refine z_iald C sA_3 dX3_tell_110 (fun v4 => ?_)
    refine z_callSv (As := [.ref (ga (kG K) 13), .ref (ga (kG K) 15), .int v1, .int v3, .int v4]) (st := []) C zy_X3_tellWay zs_X3_tellWay ml_X3_64 (by decide) (fun _ _ h => m_X3_tellWay_13_15 h) rfl rfl (Nat.le_of_ble_eq_true rfl) dX3_tell_111 (fun _ σ5 => ?_)
    refine z_goto (tgt := 155) C dX3_tell_114 (by decide) ?_
    exact z_vret C dX3_tell_155
  refine z_case 3 (fun hc9_3 => ?_) (fun hc9_3 => ?_)
  · refine z_tabIn (tgt := 117) C dX3_tell_9 3 hc9_3 (by decide) (by decide) rfl (by decide) ?_
    refine z_aload_n C dX3_tell_117 1 rfl ?_
    refine z_getR C fd_X3_40 dX3_tell_118 ?_
    refine z_aload_n C dX3_tell_121 1 rfl ?_
    refine z_getR C fd_X3_46 dX3_tell_122 ?_
    refine z_iload_n C dX3_tell_125 0 rfl ?_
    refine z_aload_n C dX3_tell_126 2 rfl ?_
    refine z_iload_n C dX3_tell_127 3 rfl ?_
    refine z_iconst (v := 2) C dX3_tell_128 (by decide) ?_
    refine z_iadd C dX3_tell_129 ?_
    refine z_iald C sA_3 dX3_tell_130 (fun v3 => ?_)
    refine z_aload_n C dX3_tell_131 2 rfl ?_
    refine z_iload_n C dX3_tell_132 3 rfl ?_
    refine z_iconst (v := 3) C dX3_tell_133 (by decide) ?_
    refine z_iadd C dX3_tell_134 ?_
    refine z_iald C sA_3 dX3_tell_135 (fun v4 => ?_)
    refine z_callSv (As := [.ref (ga (kG K) 14), .ref (ga (kG K) 16), .int v1, .int v3, .int v4]) (st := []) C zy_X3_tellWay zs_X3_tellWay ml_X3_64 (by decide) (fun _ _ h => m_X3_tellWay_14_16 h) rfl rfl (Nat.le_of_ble_eq_true rfl) dX3_tell_136 (fun _ σ5 => ?_)
    refine z_goto (tgt := 155) C dX3_tell_139 (by decide) ?_
    exact z_vret C dX3_tell_155
  refine z_case 4 (fun hc9_4 => ?_) (fun hc9_4 => ?_)
  · refine z_tabIn (tgt := 142) C dX3_tell_9 4 hc9_4 (by decide) (by decide) rfl (by decide) ?_
    refine z_aload_n C dX3_tell_142 1 rfl ?_
    refine z_iload_n C dX3_tell_143 0 rfl ?_
    refine z_putI C fd_X3_49 fwA_4_12 (lgA 4) (by decide) dX3_tell_144 (fun σ3 => ?_)
    refine z_goto (tgt := 155) C dX3_tell_147 (by decide) ?_
    exact z_vret C dX3_tell_155
  refine z_tabD (tgt := 150) C [0, 1, 2, 3, 4] (List.forall_mem_cons.mpr ⟨ztoi hc9_0 rfl, (List.forall_mem_cons.mpr ⟨ztoi hc9_1 rfl, (List.forall_mem_cons.mpr ⟨ztoi hc9_2 rfl, (List.forall_mem_cons.mpr ⟨ztoi hc9_3 rfl, (List.forall_mem_cons.mpr ⟨ztoi hc9_4 rfl, (fun _ h => absurd h List.not_mem_nil)⟩)⟩)⟩)⟩)⟩) dX3_tell_9 (by decide +kernel) (by decide) ?_
  refine z_aload_n C dX3_tell_150 1 rfl ?_
  refine z_iload_n C dX3_tell_151 0 rfl ?_
  refine z_putI C fd_X3_53 fwA_4_13 (lgA 4) (by decide) dX3_tell_152 (fun σ3 => ?_)
  exact z_vret C dX3_tell_155
theorem m_X3_tell {l : Launch} {G : zG} {x2 : Int32} {σ σ1 : zS} {r : Int32} (h : f_X3_tell x2 σ = some (r, σ1)) : zM l G zshA yX3_tell cX3_tell 4 none 1 [.ref (ga G 4), .ref (ga G 3), .int x2] (zov none G r) σ σ1 :=
  z_met (by decide) (Nat.le_of_ble_eq_true rfl) h (fun K _ hG C => by subst hG; exact b_X3_tell K C x2 σ)
theorem b_X9_land_L24 (K : zK) (C : zOk zshA K RX9 cX9_land (some .int) 3 9) (x1 : Int32) : ∀ (n : Nat) (x2 : Int32) (σ : zS), Zf zshA K (f_X9_land_L24 x1 n x2 σ) 24 [(0, .ref (ga (kG K) 0)), (1, .int x1), (2, .int x2)] [] σ := by
  intro n
  induction n with
  | zero => intro x2 σ; rw [f_X9_land_L24]; exact z_none
  | succ n ih =>
  intro x2 σ
  rw [f_X9_land_L24]
  refine z_iload_n C dX9_land_24 2 rfl ?_
  refine z_iload_n C dX9_land_25 1 rfl ?_
  refine z_icmp_ge (tgt := 53) C dX9_land_26 (by decide) ?_ ?_
  · refine z_aload_n C dX9_land_53 0 rfl ?_
    refine z_getR C fd_X9_12 dX9_land_54 ?_
    refine z_callVi (q := 1) (As := []) (st := []) C zy_X7_empty zv_X7_empty ml_X9_96 rcA_1 (by decide) (fun _ _ h => m_X7_empty h) rfl rfl (Nat.le_of_ble_eq_true rfl) dX9_land_57 (fun v1 σ1 => ?_)
    refine z_pop C dX9_land_60 rfl ?_
    refine z_iload_n C dX9_land_61 1 rfl ?_
    exact z_iret C dX9_land_62
  · refine z_aload_n C dX9_land_29 0 rfl ?_
    refine z_getR C fd_X9_19 dX9_land_30 ?_
    refine z_aload_n C dX9_land_33 0 rfl ?_
    refine z_getR C fd_X9_12 dX9_land_34 ?_
    refine z_getR C fd_X9_107 dX9_land_37 ?_
    refine z_iload_n C dX9_land_40 2 rfl ?_
    refine z_bipush (v := 8) C dX9_land_41 (by decide) ?_
    refine z_imul C dX9_land_43 ?_
    refine z_callVv (q := 4) (As := [.ref (ga (kG K) 3), .int (x2 * 8)]) (st := []) C zy_X3_tell zv_X3_tell ml_X9_111 rcA_4 (by decide) (fun _ _ h => m_X3_tell h) rfl rfl (Nat.le_of_ble_eq_true rfl) dX9_land_44 (fun _ σ1 => ?_)
    refine z_iinc (v := 1) (lv1 := [(2, .int (x2 + 1)), (0, .ref (ga (kG K) 0)), (1, .int x1)]) C dX9_land_47 2 rfl (by decide) (by decide) rfl ?_
    refine z_goto (tgt := 24) C dX9_land_50 (by decide) ?_
    exact z_sub [1, 2, 0] rfl (ih (x2 + 1) σ1)
theorem b_X9_land (K : zK) (C : zOk zshA K RX9 cX9_land (some .int) 3 9) (σ : zS) : Zf zshA K (f_X9_land σ) 0 [(0, .ref (ga (kG K) 0))] [] σ := by
  unfold f_X9_land
  refine z_aload_n C dX9_land_0 0 rfl ?_
  refine z_getR C fd_X9_12 dX9_land_1 ?_
  refine z_callVi (q := 1) (As := []) (st := []) C zy_X7_read zv_X7_read ml_X9_100 rcA_1 (by decide) (fun _ _ h => m_X7_read h) rfl rfl (Nat.le_of_ble_eq_true rfl) dX9_land_4 (fun v1 σ1 => ?_)
  refine z_iconst (v := (-1)) C dX9_land_7 (by decide) ?_
  refine z_icmp_eq (tgt := 14) C dX9_land_8 (by decide) ?_ ?_
  · refine z_aload_n C dX9_land_14 0 rfl ?_
    refine z_getR C fd_X9_12 dX9_land_15 ?_
    refine z_getI C fd_X9_103 dX9_land_18 ?_
    refine z_istore_n (lv1 := [(1, .int (σ1 1 3)), (0, .ref (ga (kG K) 0))]) C dX9_land_21 (by decide) rfl ?_
    refine z_iconst (v := 0) C dX9_land_22 (by decide) ?_
    refine z_istore_n (lv1 := [(2, .int 0), (1, .int (σ1 1 3)), (0, .ref (ga (kG K) 0))]) C dX9_land_23 (by decide) rfl ?_
    exact z_sub [2, 1, 0] rfl (b_X9_land_L24 K C (σ1 1 3) zfu 0 σ1)
  · refine z_bipush (v := (-4)) C dX9_land_11 (by decide) ?_
    exact z_iret C dX9_land_13
theorem m_X9_land {l : Launch} {G : zG} {σ σ1 : zS} {r : Int32} (h : f_X9_land σ = some (r, σ1)) : zM l G zshA yX9_land cX9_land 3 (some .int) 9 [.ref (ga G 0)] (zov (some .int) G r) σ σ1 :=
  z_met (by decide) (Nat.le_of_ble_eq_true rfl) h (fun K _ hG C => by subst hG; exact b_X9_land K C σ)
theorem b_X9_place (K : zK) (C : zOk zshA K RX9 cX9_place (some .int) 3 2) (x1 : Int32) (x2 : Int32) (σ : zS) : Zf zshA K (f_X9_place x1 x2 σ) 0 [(0, .ref (ga (kG K) 0)), (1, .int x1), (2, .int x2)] [] σ := by
  unfold f_X9_place
  refine z_iload_n C dX9_place_0 1 rfl ?_
  refine z_callSz (As := [.int x1]) (st := []) C zy_X9_isPlace zs_X9_isPlace ml_X9_115 (by decide) (fun _ _ h => m_X9_isPlace h) rfl rfl (Nat.le_of_ble_eq_true rfl) dX9_place_1 (fun v1 σ1 => ?_)
  refine z_if_ne (tgt := 10) C dX9_place_4 (by decide) ?_ ?_
  · refine z_bipush (v := (-2)) C dX9_place_7 (by decide) ?_
    exact z_iret C dX9_place_9
  · refine z_iload_n C dX9_place_10 2 rfl ?_
    refine z_case 0 (fun hc11_0 => ?_) (fun hc11_0 => ?_)
    · refine z_tabIn (tgt := 36) C dX9_place_11 0 hc11_0 (by decide) (by decide) rfl (by decide) ?_
      refine z_aload_n C dX9_place_36 0 rfl ?_
      refine z_getR C fd_X9_19 dX9_place_37 ?_
      refine z_getR C fd_X9_118 dX9_place_40 ?_
      refine z_iload_n C dX9_place_43 1 rfl ?_
      refine z_iald C sA_5 dX9_place_44 (fun v2 => ?_)
      exact z_iret C dX9_place_45
    refine z_case 1 (fun hc11_1 => ?_) (fun hc11_1 => ?_)
    · refine z_tabIn (tgt := 46) C dX9_place_11 1 hc11_1 (by decide) (by decide) rfl (by decide) ?_
      refine z_aload_n C dX9_place_46 0 rfl ?_
      refine z_getR C fd_X9_19 dX9_place_47 ?_
      refine z_getR C fd_X9_121 dX9_place_50 ?_
      refine z_iload_n C dX9_place_53 1 rfl ?_
      refine z_iald C sA_6 dX9_place_54 (fun v2 => ?_)
      exact z_iret C dX9_place_55
    refine z_case 2 (fun hc11_2 => ?_) (fun hc11_2 => ?_)
    · refine z_tabIn (tgt := 56) C dX9_place_11 2 hc11_2 (by decide) (by decide) rfl (by decide) ?_
      refine z_aload_n C dX9_place_56 0 rfl ?_
      refine z_getR C fd_X9_19 dX9_place_57 ?_
      refine z_getR C fd_X9_124 dX9_place_60 ?_
      refine z_iload_n C dX9_place_63 1 rfl ?_
      refine z_iald C sA_7 dX9_place_64 (fun v2 => ?_)
      exact z_iret C dX9_place_65
    refine z_tabD (tgt := 66) C [0, 1, 2] (List.forall_mem_cons.mpr ⟨ztoi hc11_0 rfl, (List.forall_mem_cons.mpr ⟨ztoi hc11_1 rfl, (List.forall_mem_cons.mpr ⟨ztoi hc11_2 rfl, (fun _ h => absurd h List.not_mem_nil)⟩)⟩)⟩) dX9_place_11 (by decide +kernel) (by decide) ?_
    refine z_bipush (v := (-3)) C dX9_place_66 (by decide) ?_
    exact z_iret C dX9_place_68
theorem m_X9_place {l : Launch} {G : zG} {x1 : Int32} {x2 : Int32} {σ σ1 : zS} {r : Int32} (h : f_X9_place x1 x2 σ = some (r, σ1)) : zM l G zshA yX9_place cX9_place 3 (some .int) 2 [.ref (ga G 0), .int x1, .int x2] (zov (some .int) G r) σ σ1 :=
  z_met (by decide) (Nat.le_of_ble_eq_true rfl) h (fun K _ hG C => by subst hG; exact b_X9_place K C x1 x2 σ)
theorem b_X3_isTold (K : zK) (C : zOk zshA K RX3 cX3_isTold (some .boolean) 2 1) (x1 : Int32) (σ : zS) : Zf zshA K (f_X3_isTold x1 σ) 0 [(0, .ref (ga (kG K) 4)), (1, .int x1)] [] σ := by
  unfold f_X3_isTold
  refine z_iload_n C dX3_isTold_0 1 rfl ?_
  refine z_iconst (v := 0) C dX3_isTold_1 (by decide) ?_
  refine z_bipush (v := 8) C dX3_isTold_2 (by decide) ?_
  refine z_callNz (As := [.int x1, .int 0, .int 8]) (st := []) C zy_X9_isWithin zs_X9_isWithin mn_X3_56 (by decide) (fun _ _ h => m_X9_isWithin h) rfl rfl (Nat.le_of_ble_eq_true rfl) dX3_isTold_4 (fun v1 σ1 => ?_)
  refine z_if_eq (tgt := 23) C dX3_isTold_7 (by decide) ?_ ?_
  · refine z_iconst (v := 0) C dX3_isTold_23 (by decide) ?_
    exact z_zret C (by decide) dX3_isTold_24
  · refine z_aload_n C dX3_isTold_10 0 rfl ?_
    refine z_getR C fd_X3_21 dX3_isTold_11 ?_
    refine z_iload_n C dX3_isTold_14 1 rfl ?_
    refine z_bald C sA_8 dX3_isTold_15 (fun v2 => ?_)
    refine z_if_eq (tgt := 23) C dX3_isTold_16 (by decide) ?_ ?_
    · refine z_iconst (v := 0) C dX3_isTold_23 (by decide) ?_
      exact z_zret C (by decide) dX3_isTold_24
    · refine z_iconst (v := 1) C dX3_isTold_19 (by decide) ?_
      refine z_goto (tgt := 24) C dX3_isTold_20 (by decide) ?_
      exact z_zret C (by decide) dX3_isTold_24
theorem m_X3_isTold {l : Launch} {G : zG} {x1 : Int32} {σ σ1 : zS} {r : Int32} (h : f_X3_isTold x1 σ = some (r, σ1)) : zM l G zshA yX3_isTold cX3_isTold 2 (some .boolean) 1 [.ref (ga G 4), .int x1] (zov (some .boolean) G r) σ σ1 :=
  z_met (by decide) (Nat.le_of_ble_eq_true rfl) h (fun K _ hG C => by subst hG; exact b_X3_isTold K C x1 σ)
theorem b_X9_flow (K : zK) (C : zOk zshA K RX9 cX9_flow (some .int) 3 2) (x1 : Int32) (x2 : Int32) (σ : zS) : Zf zshA K (f_X9_flow x1 x2 σ) 0 [(0, .ref (ga (kG K) 0)), (1, .int x1), (2, .int x2)] [] σ := by
  unfold f_X9_flow
  refine z_aload_n C dX9_flow_0 0 rfl ?_
  refine z_getR C fd_X9_19 dX9_flow_1 ?_
  refine z_iload_n C dX9_flow_4 1 rfl ?_
  refine z_callVz (q := 4) (As := [.int x1]) (st := []) C zy_X3_isTold zv_X3_isTold ml_X9_127 rcA_4 (by decide) (fun _ _ h => m_X3_isTold h) rfl rfl (Nat.le_of_ble_eq_true rfl) dX9_flow_5 (fun v1 σ1 => ?_)
  refine z_if_ne (tgt := 14) C dX9_flow_8 (by decide) ?_ ?_
  · refine z_bipush (v := (-2)) C dX9_flow_11 (by decide) ?_
    exact z_iret C dX9_flow_13
  · refine z_iload_n C dX9_flow_14 2 rfl ?_
    refine z_case 0 (fun hc15_0 => ?_) (fun hc15_0 => ?_)
    · refine z_tabIn (tgt := 52) C dX9_flow_15 0 hc15_0 (by decide) (by decide) rfl (by decide) ?_
      refine z_aload_n C dX9_flow_52 0 rfl ?_
      refine z_getR C fd_X9_19 dX9_flow_53 ?_
      refine z_getR C fd_X9_130 dX9_flow_56 ?_
      refine z_iload_n C dX9_flow_59 1 rfl ?_
      refine z_iald C sA_9 dX9_flow_60 (fun v2 => ?_)
      exact z_iret C dX9_flow_61
    refine z_case 1 (fun hc15_1 => ?_) (fun hc15_1 => ?_)
    · refine z_tabIn (tgt := 62) C dX9_flow_15 1 hc15_1 (by decide) (by decide) rfl (by decide) ?_
      refine z_aload_n C dX9_flow_62 0 rfl ?_
      refine z_getR C fd_X9_19 dX9_flow_63 ?_
      refine z_getR C fd_X9_133 dX9_flow_66 ?_
      refine z_iload_n C dX9_flow_69 1 rfl ?_
      refine z_iald C sA_10 dX9_flow_70 (fun v2 => ?_)
      exact z_iret C dX9_flow_71
    refine z_case 2 (fun hc15_2 => ?_) (fun hc15_2 => ?_)
    · refine z_tabIn (tgt := 72) C dX9_flow_15 2 hc15_2 (by decide) (by decide) rfl (by decide) ?_
      refine z_aload_n C dX9_flow_72 0 rfl ?_
      refine z_getR C fd_X9_19 dX9_flow_73 ?_
      refine z_getR C fd_X9_136 dX9_flow_76 ?_
      refine z_iload_n C dX9_flow_79 1 rfl ?_
      refine z_iconst (v := 3) C dX9_flow_80 (by decide) ?_
      refine z_imul C dX9_flow_81 ?_
      refine z_iload_n C dX9_flow_82 2 rfl ?_
      refine z_iadd C dX9_flow_83 ?_
      refine z_iconst (v := 2) C dX9_flow_84 (by decide) ?_
      refine z_isub C dX9_flow_85 ?_
      refine z_iald C sA_11 dX9_flow_86 (fun v2 => ?_)
      exact z_iret C dX9_flow_87
    refine z_case 3 (fun hc15_3 => ?_) (fun hc15_3 => ?_)
    · refine z_tabIn (tgt := 72) C dX9_flow_15 3 hc15_3 (by decide) (by decide) rfl (by decide) ?_
      refine z_aload_n C dX9_flow_72 0 rfl ?_
      refine z_getR C fd_X9_19 dX9_flow_73 ?_
      refine z_getR C fd_X9_136 dX9_flow_76 ?_
      refine z_iload_n C dX9_flow_79 1 rfl ?_
      refine z_iconst (v := 3) C dX9_flow_80 (by decide) ?_
      refine z_imul C dX9_flow_81 ?_
      refine z_iload_n C dX9_flow_82 2 rfl ?_
      refine z_iadd C dX9_flow_83 ?_
      refine z_iconst (v := 2) C dX9_flow_84 (by decide) ?_
      refine z_isub C dX9_flow_85 ?_
      refine z_iald C sA_11 dX9_flow_86 (fun v2 => ?_)
      exact z_iret C dX9_flow_87
    refine z_case 4 (fun hc15_4 => ?_) (fun hc15_4 => ?_)
    · refine z_tabIn (tgt := 72) C dX9_flow_15 4 hc15_4 (by decide) (by decide) rfl (by decide) ?_
      refine z_aload_n C dX9_flow_72 0 rfl ?_
      refine z_getR C fd_X9_19 dX9_flow_73 ?_
      refine z_getR C fd_X9_136 dX9_flow_76 ?_
      refine z_iload_n C dX9_flow_79 1 rfl ?_
      refine z_iconst (v := 3) C dX9_flow_80 (by decide) ?_
      refine z_imul C dX9_flow_81 ?_
      refine z_iload_n C dX9_flow_82 2 rfl ?_
      refine z_iadd C dX9_flow_83 ?_
      refine z_iconst (v := 2) C dX9_flow_84 (by decide) ?_
      refine z_isub C dX9_flow_85 ?_
      refine z_iald C sA_11 dX9_flow_86 (fun v2 => ?_)
      exact z_iret C dX9_flow_87
    refine z_case 5 (fun hc15_5 => ?_) (fun hc15_5 => ?_)
    · refine z_tabIn (tgt := 88) C dX9_flow_15 5 hc15_5 (by decide) (by decide) rfl (by decide) ?_
      refine z_aload_n C dX9_flow_88 0 rfl ?_
      refine z_getR C fd_X9_19 dX9_flow_89 ?_
      refine z_getR C fd_X9_139 dX9_flow_92 ?_
      refine z_iload_n C dX9_flow_95 1 rfl ?_
      refine z_iald C sA_12 dX9_flow_96 (fun v2 => ?_)
      exact z_iret C dX9_flow_97
    refine z_tabD (tgt := 98) C [0, 1, 2, 3, 4, 5] (List.forall_mem_cons.mpr ⟨ztoi hc15_0 rfl, (List.forall_mem_cons.mpr ⟨ztoi hc15_1 rfl, (List.forall_mem_cons.mpr ⟨ztoi hc15_2 rfl, (List.forall_mem_cons.mpr ⟨ztoi hc15_3 rfl, (List.forall_mem_cons.mpr ⟨ztoi hc15_4 rfl, (List.forall_mem_cons.mpr ⟨ztoi hc15_5 rfl, (fun _ h => absurd h List.not_mem_nil)⟩)⟩)⟩)⟩)⟩)⟩) dX9_flow_15 (by decide +kernel) (by decide) ?_
    refine z_bipush (v := (-3)) C dX9_flow_98 (by decide) ?_
    exact z_iret C dX9_flow_100
theorem m_X9_flow {l : Launch} {G : zG} {x1 : Int32} {x2 : Int32} {σ σ1 : zS} {r : Int32} (h : f_X9_flow x1 x2 σ = some (r, σ1)) : zM l G zshA yX9_flow cX9_flow 3 (some .int) 2 [.ref (ga G 0), .int x1, .int x2] (zov (some .int) G r) σ σ1 :=
  z_met (by decide) (Nat.le_of_ble_eq_true rfl) h (fun K _ hG C => by subst hG; exact b_X9_flow K C x1 x2 σ)
theorem b_X9_way (K : zK) (C : zOk zshA K RX9 cX9_way (some .int) 4 2) (x1 : Int32) (x2 : Int32) (x3 : Int32) (σ : zS) : Zf zshA K (f_X9_way x1 x2 x3 σ) 0 [(0, .ref (ga (kG K) 0)), (1, .int x1), (2, .int x2), (3, .int x3)] [] σ := by
  unfold f_X9_way
  refine z_iload_n C dX9_way_0 1 rfl ?_
  refine z_callSz (As := [.int x1]) (st := []) C zy_X9_isPlace zs_X9_isPlace ml_X9_115 (by decide) (fun _ _ h => m_X9_isPlace h) rfl rfl (Nat.le_of_ble_eq_true rfl) dX9_way_1 (fun v1 σ1 => ?_)
  refine z_if_eq (tgt := 19) C dX9_way_4 (by decide) ?_ ?_
  · refine z_bipush (v := (-2)) C dX9_way_19 (by decide) ?_
    exact z_iret C dX9_way_21
  · refine z_iload_n C dX9_way_7 2 rfl ?_
    refine z_callSz (As := [.int x2]) (st := []) C zy_X9_isPlace zs_X9_isPlace ml_X9_115 (by decide) (fun _ _ h => m_X9_isPlace h) rfl rfl (Nat.le_of_ble_eq_true rfl) dX9_way_8 (fun v2 σ2 => ?_)
    refine z_if_eq (tgt := 19) C dX9_way_11 (by decide) ?_ ?_
    · refine z_bipush (v := (-2)) C dX9_way_19 (by decide) ?_
      exact z_iret C dX9_way_21
    · refine z_iload_n C dX9_way_14 1 rfl ?_
      refine z_iload_n C dX9_way_15 2 rfl ?_
      refine z_icmp_ne (tgt := 22) C dX9_way_16 (by decide) ?_ ?_
      · refine z_bipush (v := (-2)) C dX9_way_19 (by decide) ?_
        exact z_iret C dX9_way_21
      · refine z_iload_n C dX9_way_22 3 rfl ?_
        refine z_case 0 (fun hc23_0 => ?_) (fun hc23_0 => ?_)
        · refine z_look (tgt := 48) (off := 25) C dX9_way_23 (by decide) (by rw [hc23_0]; decide) (by decide) ?_
          refine z_aload_n C dX9_way_48 0 rfl ?_
          refine z_getR C fd_X9_19 dX9_way_49 ?_
          refine z_getR C fd_X9_142 dX9_way_52 ?_
          refine z_iload_n C dX9_way_55 1 rfl ?_
          refine z_bipush (v := 10) C dX9_way_56 (by decide) ?_
          refine z_imul C dX9_way_58 ?_
          refine z_iload_n C dX9_way_59 2 rfl ?_
          refine z_iadd C dX9_way_60 ?_
          refine z_iald C sA_13 dX9_way_61 (fun v3 => ?_)
          exact z_iret C dX9_way_62
        refine z_case 1 (fun hc23_1 => ?_) (fun hc23_1 => ?_)
        · refine z_look (tgt := 63) (off := 40) C dX9_way_23 (by decide) (by rw [hc23_1]; decide) (by decide) ?_
          refine z_aload_n C dX9_way_63 0 rfl ?_
          refine z_getR C fd_X9_19 dX9_way_64 ?_
          refine z_getR C fd_X9_145 dX9_way_67 ?_
          refine z_iload_n C dX9_way_70 1 rfl ?_
          refine z_bipush (v := 10) C dX9_way_71 (by decide) ?_
          refine z_imul C dX9_way_73 ?_
          refine z_iload_n C dX9_way_74 2 rfl ?_
          refine z_iadd C dX9_way_75 ?_
          refine z_iald C sA_14 dX9_way_76 (fun v3 => ?_)
          exact z_iret C dX9_way_77
        refine z_look (tgt := 78) (off := 55) C dX9_way_23 (by decide) (by show Op.lookupswitch.offset [(0, 25), (1, 40)] 55 _ = 55; rw [lv_osw (a := 0) hc23_0 rfl, lv_osw (a := 1) hc23_1 rfl]; rfl) (by decide) ?_
        refine z_bipush (v := (-3)) C dX9_way_78 (by decide) ?_
        exact z_iret C dX9_way_80
theorem m_X9_way {l : Launch} {G : zG} {x1 : Int32} {x2 : Int32} {x3 : Int32} {σ σ1 : zS} {r : Int32} (h : f_X9_way x1 x2 x3 σ = some (r, σ1)) : zM l G zshA yX9_way cX9_way 4 (some .int) 2 [.ref (ga G 0), .int x1, .int x2, .int x3] (zov (some .int) G r) σ σ1 :=
  z_met (by decide) (Nat.le_of_ble_eq_true rfl) h (fun K _ hG C => by subst hG; exact b_X9_way K C x1 x2 x3 σ)
theorem b_X9_numberAt (K : zK) (C : zOk zshA K RX9 cX9_numberAt (some .int) 2 0) (x0 : Int32) (x1 : Int32) (σ : zS) : Zf zshA K (f_X9_numberAt x0 x1 σ) 0 [(0, .int x0), (1, .int x1)] [] σ := by
  unfold f_X9_numberAt
  refine z_iload_n C dX9_numberAt_0 0 rfl ?_
  refine z_bipush (v := 10) C dX9_numberAt_1 (by decide) ?_
  refine z_iload_n C dX9_numberAt_3 1 rfl ?_
  refine z_imul C dX9_numberAt_4 ?_
  refine z_ishr C dX9_numberAt_5 ?_
  refine z_sipush (v := 1023) C dX9_numberAt_6 (by decide) ?_
  refine z_iand C dX9_numberAt_9 ?_
  exact z_iret C dX9_numberAt_10
theorem m_X9_numberAt {l : Launch} {G : zG} {x0 : Int32} {x1 : Int32} {σ σ1 : zS} {r : Int32} (h : f_X9_numberAt x0 x1 σ = some (r, σ1)) : zM l G zshA yX9_numberAt cX9_numberAt 2 (some .int) 0 [.int x0, .int x1] (zov (some .int) G r) σ σ1 :=
  z_met (by decide) (Nat.le_of_ble_eq_true rfl) h (fun K _ hG C => by subst hG; exact b_X9_numberAt K C x0 x1 σ)
theorem b_X9_areMeasured_L10 (K : zK) (C : zOk zshA K RX9 cX9_areMeasured (some .boolean) 4 1) (x0 : Int32) : ∀ (n : Nat) (x2 : Int32) (x3 : Int32) (σ : zS), Zf zshA K (f_X9_areMeasured_L10 x0 n x2 x3 σ) 10 [(0, .int x0), (2, .int x2), (3, .int x3)] [] σ := by
  intro n
  induction n with
  | zero => intro x2 x3 σ; rw [f_X9_areMeasured_L10]; exact z_none
  | succ n ih =>
  intro x2 x3 σ
  rw [f_X9_areMeasured_L10]
  refine z_iload_n C dX9_areMeasured_10 2 rfl ?_
  refine z_iconst (v := 3) C dX9_areMeasured_11 (by decide) ?_
  refine z_icmp_ge (tgt := 42) C dX9_areMeasured_12 (by decide) ?_ ?_
  · refine z_iload_n C dX9_areMeasured_42 1 rfl ?_
    exact z_zrb C dX9_areMeasured_43
  · refine z_iload_n C dX9_areMeasured_15 1 rfl ?_
    refine z_if_eq (tgt := 34) C dX9_areMeasured_16 (by decide) ?_ ?_
    · refine z_iconst (v := 0) C dX9_areMeasured_34 (by decide) ?_
      refine z_istore_n (lv1 := [(2, .int 0), (0, .int x0), (3, .int x3)]) C dX9_areMeasured_35 (by decide) rfl ?_
      refine z_iinc (v := 1) (lv1 := [(3, .int (x3 + 1)), (2, .int 0), (0, .int x0)]) C dX9_areMeasured_36 2 rfl (by decide) (by decide) rfl ?_
      refine z_goto (tgt := 10) C dX9_areMeasured_39 (by decide) ?_
      exact z_sub [2, 1, 0] rfl (ih 0 (x3 + 1) σ)
    · refine z_iload_n C dX9_areMeasured_19 0 rfl ?_
      refine z_iload_n C dX9_areMeasured_20 2 rfl ?_
      refine z_callSi (As := [.int x0, .int x3]) (st := []) C zy_X9_numberAt zs_X9_numberAt ml_X9_291 (by decide) (fun _ _ h => m_X9_numberAt h) rfl rfl (Nat.le_of_ble_eq_true rfl) dX9_areMeasured_21 (fun v1 σ1 => ?_)
      refine z_sipush (v := 999) C dX9_areMeasured_24 (by decide) ?_
      refine z_icmp_gt (tgt := 34) C dX9_areMeasured_27 (by decide) ?_ ?_
      · refine z_iconst (v := 0) C dX9_areMeasured_34 (by decide) ?_
        refine z_istore_n (lv1 := [(2, .int 0), (0, .int x0), (3, .int x3)]) C dX9_areMeasured_35 (by decide) rfl ?_
        refine z_iinc (v := 1) (lv1 := [(3, .int (x3 + 1)), (2, .int 0), (0, .int x0)]) C dX9_areMeasured_36 2 rfl (by decide) (by decide) rfl ?_
        refine z_goto (tgt := 10) C dX9_areMeasured_39 (by decide) ?_
        exact z_sub [2, 1, 0] rfl (ih 0 (x3 + 1) σ1)
      · refine z_iconst (v := 1) C dX9_areMeasured_30 (by decide) ?_
        refine z_goto (tgt := 35) C dX9_areMeasured_31 (by decide) ?_
        refine z_istore_n (lv1 := [(2, .int 1), (0, .int x0), (3, .int x3)]) C dX9_areMeasured_35 (by decide) rfl ?_
        refine z_iinc (v := 1) (lv1 := [(3, .int (x3 + 1)), (2, .int 1), (0, .int x0)]) C dX9_areMeasured_36 2 rfl (by decide) (by decide) rfl ?_
        refine z_goto (tgt := 10) C dX9_areMeasured_39 (by decide) ?_
        exact z_sub [2, 1, 0] rfl (ih 1 (x3 + 1) σ1)
theorem b_X9_areMeasured (K : zK) (C : zOk zshA K RX9 cX9_areMeasured (some .boolean) 4 1) (x0 : Int32) (x1 : Int32) (σ : zS) : Zf zshA K (f_X9_areMeasured x0 x1 σ) 0 [(0, .int x0), (1, .int x1)] [] σ := by
  unfold f_X9_areMeasured
  refine z_iload_n C dX9_areMeasured_0 1 rfl ?_
  refine z_iconst (v := 1) C dX9_areMeasured_1 (by decide) ?_
  refine z_bipush (v := 99) C dX9_areMeasured_2 (by decide) ?_
  refine z_callSz (As := [.int x1, .int 1, .int 99]) (st := []) C zy_X9_isWithin zs_X9_isWithin ml_X9_84 (by decide) (fun _ _ h => m_X9_isWithin h) rfl rfl (Nat.le_of_ble_eq_true rfl) dX9_areMeasured_4 (fun v1 σ1 => ?_)
  refine z_istore_n (lv1 := [(2, .int v1), (0, .int x0), (1, .int x1)]) C dX9_areMeasured_7 (by decide) rfl ?_
  refine z_iconst (v := 0) C dX9_areMeasured_8 (by decide) ?_
  refine z_istore_n (lv1 := [(3, .int 0), (2, .int v1), (0, .int x0), (1, .int x1)]) C dX9_areMeasured_9 (by decide) rfl ?_
  exact z_sub [2, 1, 0] rfl (b_X9_areMeasured_L10 K C x0 zfu v1 0 σ1)
theorem m_X9_areMeasured {l : Launch} {G : zG} {x0 : Int32} {x1 : Int32} {σ σ1 : zS} {r : Int32} (h : f_X9_areMeasured x0 x1 σ = some (r, σ1)) : zM l G zshA yX9_areMeasured cX9_areMeasured 4 (some .boolean) 1 [.int x0, .int x1] (zov (some .boolean) G r) σ σ1 :=
  z_met (by decide) (Nat.le_of_ble_eq_true rfl) h (fun K _ hG C => by subst hG; exact b_X9_areMeasured K C x0 x1 σ)
theorem b_X0_add (K : zK) (C : zOk zshA K RX0 cX0_add (some .int) 5 0) (x1 : Int32) (x2 : Int32) (x3 : Int32) (σ : zS) : Zf zshA K (f_X0_add x1 x2 x3 σ) 0 [(0, .ref (ga (kG K) 17)), (1, .int x1), (2, .int x2), (3, .int x3)] [] σ := by
  unfold f_X0_add
  refine z_aload_n C dX0_add_0 0 rfl ?_
  refine z_getI C fd_X0_39 dX0_add_1 ?_
  refine z_istore (lv1 := [(4, .int (σ 17 0)), (0, .ref (ga (kG K) 17)), (1, .int x1), (2, .int x2), (3, .int x3)]) C dX0_add_4 (by decide) rfl ?_
  refine z_aload_n C dX0_add_6 1 rfl ?_
  refine z_getR C fd_X0_9 dX0_add_7 ?_
  refine z_iload C dX0_add_10 0 rfl ?_
  refine z_iload_n C dX0_add_12 2 rfl ?_
  refine z_iast C sA_18 dX0_add_13 (fun σ1 => ?_)
  refine z_aload_n C dX0_add_14 1 rfl ?_
  refine z_getR C fd_X0_21 dX0_add_15 ?_
  refine z_iload C dX0_add_18 0 rfl ?_
  refine z_iload_n C dX0_add_20 3 rfl ?_
  refine z_iast C sA_21 dX0_add_21 (fun σ2 => ?_)
  refine z_aload_n C dX0_add_22 1 rfl ?_
  refine z_getR C fd_X0_24 dX0_add_23 ?_
  refine z_iload C dX0_add_26 0 rfl ?_
  refine z_iload_n C dX0_add_28 4 rfl ?_
  refine z_iast C sA_22 dX0_add_29 (fun σ3 => ?_)
  refine z_aload_n C dX0_add_30 1 rfl ?_
  refine z_getR C fd_X0_33 dX0_add_31 ?_
  refine z_iload C dX0_add_34 0 rfl ?_
  refine z_iconst (v := (-1)) C dX0_add_36 (by decide) ?_
  refine z_iast C sA_25 dX0_add_37 (fun σ4 => ?_)
  refine z_aload_n C dX0_add_38 1 rfl ?_
  refine z_getR C fd_X0_36 dX0_add_39 ?_
  refine z_iload C dX0_add_42 0 rfl ?_
  refine z_iconst (v := (-1)) C dX0_add_44 (by decide) ?_
  refine z_iast C sA_26 dX0_add_45 (fun σ5 => ?_)
  refine z_aload_n C dX0_add_46 1 rfl ?_
  refine z_dup C dX0_add_47 rfl ?_
  refine z_getI C fd_X0_39 dX0_add_48 ?_
  refine z_iconst (v := 1) C dX0_add_51 (by decide) ?_
  refine z_iadd C dX0_add_52 ?_
  refine z_putI C fd_X0_39 fwA_17_0 (lgA 17) (by decide) dX0_add_53 (fun σ6 => ?_)
  refine z_iload C dX0_add_56 0 rfl ?_
  exact z_iret C dX0_add_58
theorem m_X0_add {l : Launch} {G : zG} {x1 : Int32} {x2 : Int32} {x3 : Int32} {σ σ1 : zS} {r : Int32} (h : f_X0_add x1 x2 x3 σ = some (r, σ1)) : zM l G zshA yX0_add cX0_add 5 (some .int) 0 [.ref (ga G 17), .int x1, .int x2, .int x3] (zov (some .int) G r) σ σ1 :=
  z_met (by decide) (Nat.le_of_ble_eq_true rfl) h (fun K _ hG C => by subst hG; exact b_X0_add K C x1 x2 x3 σ)
theorem b_X0_setMeasured_L3 (K : zK) (C : zOk zshA K RX0 cX0_setMeasured none 5 1) (x1 : Int32) (x2 : Int32) (x3 : Int32) : ∀ (n : Nat) (x4 : Int32) (σ : zS), Zf zshA K (f_X0_setMeasured_L3 x1 x2 x3 n x4 σ) 3 [(0, .ref (ga (kG K) 17)), (1, .int x1), (2, .int x2), (3, .int x3), (4, .int x4)] [] σ := by
  intro n
  induction n with
  | zero => intro x4 σ; rw [f_X0_setMeasured_L3]; exact z_none
  | succ n ih =>
  intro x4 σ
  rw [f_X0_setMeasured_L3]
  refine z_iload C dX0_setMeasured_3 4 rfl ?_
  refine z_iconst (v := 3) C dX0_setMeasured_5 (by decide) ?_
  refine z_icmp_ge (tgt := 32) C dX0_setMeasured_6 (by decide) ?_ ?_
  · refine z_aload_n C dX0_setMeasured_32 0 rfl ?_
    refine z_getR C fd_X0_18 dX0_setMeasured_33 ?_
    refine z_iload_n C dX0_setMeasured_36 1 rfl ?_
    refine z_iload_n C dX0_setMeasured_37 3 rfl ?_
    refine z_iast C sA_20 dX0_setMeasured_38 (fun σ1 => ?_)
    exact z_vret C dX0_setMeasured_39
  · refine z_aload_n C dX0_setMeasured_9 0 rfl ?_
    refine z_getR C fd_X0_15 dX0_setMeasured_10 ?_
    refine z_iload_n C dX0_setMeasured_13 1 rfl ?_
    refine z_iconst (v := 3) C dX0_setMeasured_14 (by decide) ?_
    refine z_imul C dX0_setMeasured_15 ?_
    refine z_iload C dX0_setMeasured_16 4 rfl ?_
    refine z_iadd C dX0_setMeasured_18 ?_
    refine z_iload_n C dX0_setMeasured_19 2 rfl ?_
    refine z_iload C dX0_setMeasured_20 4 rfl ?_
    refine z_callNi (As := [.int x2, .int x4]) (st := [.int ((x1 * 3) + x4), .ref (ga (kG K) 19)]) C zy_X9_numberAt zs_X9_numberAt mn_X0_47 (by decide) (fun _ _ h => m_X9_numberAt h) rfl rfl (Nat.le_of_ble_eq_true rfl) dX0_setMeasured_22 (fun v1 σ1 => ?_)
    refine z_iast C sA_19 dX0_setMeasured_25 (fun σ2 => ?_)
    refine z_iinc (v := 1) (lv1 := [(4, .int (x4 + 1)), (0, .ref (ga (kG K) 17)), (1, .int x1), (2, .int x2), (3, .int x3)]) C dX0_setMeasured_26 4 rfl (by decide) (by decide) rfl ?_
    refine z_goto (tgt := 3) C dX0_setMeasured_29 (by decide) ?_
    exact z_sub [1, 2, 3, 4, 0] rfl (ih (x4 + 1) σ2)
theorem b_X0_setMeasured (K : zK) (C : zOk zshA K RX0 cX0_setMeasured none 5 1) (x1 : Int32) (x2 : Int32) (x3 : Int32) (σ : zS) : Zf zshA K (f_X0_setMeasured x1 x2 x3 σ) 0 [(0, .ref (ga (kG K) 17)), (1, .int x1), (2, .int x2), (3, .int x3)] [] σ := by
  unfold f_X0_setMeasured
  refine z_iconst (v := 0) C dX0_setMeasured_0 (by decide) ?_
  refine z_istore (lv1 := [(4, .int 0), (0, .ref (ga (kG K) 17)), (1, .int x1), (2, .int x2), (3, .int x3)]) C dX0_setMeasured_1 (by decide) rfl ?_
  exact z_sub [1, 2, 3, 4, 0] rfl (b_X0_setMeasured_L3 K C x1 x2 x3 zfu 0 σ)
theorem m_X0_setMeasured {l : Launch} {G : zG} {x1 : Int32} {x2 : Int32} {x3 : Int32} {σ σ1 : zS} {r : Int32} (h : f_X0_setMeasured x1 x2 x3 σ = some (r, σ1)) : zM l G zshA yX0_setMeasured cX0_setMeasured 5 none 1 [.ref (ga G 17), .int x1, .int x2, .int x3] (zov none G r) σ σ1 :=
  z_met (by decide) (Nat.le_of_ble_eq_true rfl) h (fun K _ hG C => by subst hG; exact b_X0_setMeasured K C x1 x2 x3 σ)
theorem b_X9_blade (K : zK) (C : zOk zshA K RX9 cX9_blade (some .int) 7 2) (x1 : Int32) (x2 : Int32) (x3 : Int32) (x4 : Int32) (x5 : Int32) (σ : zS) : Zf zshA K (f_X9_blade x1 x2 x3 x4 x5 σ) 0 [(0, .ref (ga (kG K) 0)), (1, .int x1), (2, .int x2), (3, .int x3), (4, .int x4), (5, .int x5)] [] σ := by
  unfold f_X9_blade
  refine z_iload_n C dX9_blade_0 1 rfl ?_
  refine z_callSz (As := [.int x1]) (st := []) C zy_X9_isPlace zs_X9_isPlace ml_X9_115 (by decide) (fun _ _ h => m_X9_isPlace h) rfl rfl (Nat.le_of_ble_eq_true rfl) dX9_blade_1 (fun v1 σ1 => ?_)
  refine z_if_ne (tgt := 10) C dX9_blade_4 (by decide) ?_ ?_
  · refine z_bipush (v := (-2)) C dX9_blade_7 (by decide) ?_
    exact z_iret C dX9_blade_9
  · refine z_iload_n C dX9_blade_10 2 rfl ?_
    refine z_iload_n C dX9_blade_11 3 rfl ?_
    refine z_callSz (As := [.int x2, .int x3]) (st := []) C zy_X9_areMeasured zs_X9_areMeasured ml_X9_148 (by decide) (fun _ _ h => m_X9_areMeasured h) rfl rfl (Nat.le_of_ble_eq_true rfl) dX9_blade_12 (fun v2 σ2 => ?_)
    refine z_if_eq (tgt := 41) C dX9_blade_15 (by decide) ?_ ?_
    · refine z_bipush (v := (-3)) C dX9_blade_41 (by decide) ?_
      exact z_iret C dX9_blade_43
    · refine z_iload C dX9_blade_18 4 rfl ?_
      refine z_iconst (v := 1) C dX9_blade_20 (by decide) ?_
      refine z_sipush (v := 999) C dX9_blade_21 (by decide) ?_
      refine z_callSz (As := [.int x4, .int 1, .int 999]) (st := []) C zy_X9_isWithin zs_X9_isWithin ml_X9_84 (by decide) (fun _ _ h => m_X9_isWithin h) rfl rfl (Nat.le_of_ble_eq_true rfl) dX9_blade_24 (fun v3 σ3 => ?_)
      refine z_if_eq (tgt := 41) C dX9_blade_27 (by decide) ?_ ?_
      · refine z_bipush (v := (-3)) C dX9_blade_41 (by decide) ?_
        exact z_iret C dX9_blade_43
      · refine z_iload C dX9_blade_30 5 rfl ?_
        refine z_iconst (v := 0) C dX9_blade_32 (by decide) ?_
        refine z_bipush (v := 99) C dX9_blade_33 (by decide) ?_
        refine z_callSz (As := [.int x5, .int 0, .int 99]) (st := []) C zy_X9_isWithin zs_X9_isWithin ml_X9_84 (by decide) (fun _ _ h => m_X9_isWithin h) rfl rfl (Nat.le_of_ble_eq_true rfl) dX9_blade_35 (fun v4 σ4 => ?_)
        refine z_if_ne (tgt := 44) C dX9_blade_38 (by decide) ?_ ?_
        · refine z_bipush (v := (-3)) C dX9_blade_41 (by decide) ?_
          exact z_iret C dX9_blade_43
        · refine z_aload_n C dX9_blade_44 0 rfl ?_
          refine z_getR C fd_X9_26 dX9_blade_45 ?_
          refine z_getI C fd_X9_152 dX9_blade_48 ?_
          refine z_bipush (v := 12) C dX9_blade_51 (by decide) ?_
          refine z_icmp_lt (tgt := 59) C dX9_blade_53 (by decide) ?_ ?_
          · refine z_aload_n C dX9_blade_59 0 rfl ?_
            refine z_getR C fd_X9_26 dX9_blade_60 ?_
            refine z_iload_n C dX9_blade_63 1 rfl ?_
            refine z_iload C dX9_blade_64 4 rfl ?_
            refine z_iload C dX9_blade_66 5 rfl ?_
            refine z_callVi (q := 17) (As := [.int x1, .int x4, .int x5]) (st := []) C zy_X0_add zv_X0_add ml_X9_155 rcA_17 (by decide) (fun _ _ h => m_X0_add h) rfl rfl (Nat.le_of_ble_eq_true rfl) dX9_blade_68 (fun v5 σ5 => ?_)
            refine z_istore (lv1 := [(6, .int v5), (0, .ref (ga (kG K) 0)), (1, .int x1), (2, .int x2), (3, .int x3), (4, .int x4), (5, .int x5)]) C dX9_blade_71 (by decide) rfl ?_
            refine z_aload_n C dX9_blade_73 1 rfl ?_
            refine z_getR C fd_X9_26 dX9_blade_74 ?_
            refine z_iload C dX9_blade_77 0 rfl ?_
            refine z_iload_n C dX9_blade_79 3 rfl ?_
            refine z_iload_n C dX9_blade_80 4 rfl ?_
            refine z_callVv (q := 17) (As := [.int v5, .int x2, .int x3]) (st := []) C zy_X0_setMeasured zv_X0_setMeasured ml_X9_159 rcA_17 (by decide) (fun _ _ h => m_X0_setMeasured h) rfl rfl (Nat.le_of_ble_eq_true rfl) dX9_blade_81 (fun _ σ6 => ?_)
            refine z_iload C dX9_blade_84 0 rfl ?_
            exact z_iret C dX9_blade_86
          · refine z_bipush (v := (-5)) C dX9_blade_56 (by decide) ?_
            exact z_iret C dX9_blade_58
theorem m_X9_blade {l : Launch} {G : zG} {x1 : Int32} {x2 : Int32} {x3 : Int32} {x4 : Int32} {x5 : Int32} {σ σ1 : zS} {r : Int32} (h : f_X9_blade x1 x2 x3 x4 x5 σ = some (r, σ1)) : zM l G zshA yX9_blade cX9_blade 7 (some .int) 2 [.ref (ga G 0), .int x1, .int x2, .int x3, .int x4, .int x5] (zov (some .int) G r) σ σ1 :=
  z_met (by decide) (Nat.le_of_ble_eq_true rfl) h (fun K _ hG C => by subst hG; exact b_X9_blade K C x1 x2 x3 x4 x5 σ)
theorem b_X0_has (K : zK) (C : zOk zshA K RX0 cX0_has (some .boolean) 2 1) (x1 : Int32) (σ : zS) : Zf zshA K (f_X0_has x1 σ) 0 [(0, .ref (ga (kG K) 17)), (1, .int x1)] [] σ := by
  unfold f_X0_has
  refine z_iload_n C dX0_has_0 1 rfl ?_
  refine z_iconst (v := 0) C dX0_has_1 (by decide) ?_
  refine z_aload_n C dX0_has_2 0 rfl ?_
  refine z_getI C fd_X0_39 dX0_has_3 ?_
  refine z_iconst (v := 1) C dX0_has_6 (by decide) ?_
  refine z_isub C dX0_has_7 ?_
  refine z_callNz (As := [.int x1, .int 0, .int ((σ 17 0) - 1)]) (st := []) C zy_X9_isWithin zs_X9_isWithin mn_X0_43 (by decide) (fun _ _ h => m_X9_isWithin h) rfl rfl (Nat.le_of_ble_eq_true rfl) dX0_has_8 (fun v1 σ1 => ?_)
  exact z_zrb C dX0_has_11
theorem m_X0_has {l : Launch} {G : zG} {x1 : Int32} {σ σ1 : zS} {r : Int32} (h : f_X0_has x1 σ = some (r, σ1)) : zM l G zshA yX0_has cX0_has 2 (some .boolean) 1 [.ref (ga G 17), .int x1] (zov (some .boolean) G r) σ σ1 :=
  z_met (by decide) (Nat.le_of_ble_eq_true rfl) h (fun K _ hG C => by subst hG; exact b_X0_has K C x1 σ)
