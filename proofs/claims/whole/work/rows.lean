section
-- ===== PART A: goes FIRST, ahead of the names: the tables' words, and 'selects' of the private methods out of them =====
/-- a private method of a class that the tables say can be made, by its rows of tables_1 -/
def lw_okq (q : MethodName × Nat) : Prop := (q.1.cls ≠ "java/lang/invoke/MethodHandle" ∧ q.1.cls ≠ "java/lang/invoke/VarHandle") ∧ Cond.instantiable q.1.cls q.2 ∈ tables_1 ∧ Cond.privateMethod q.1 ∈ tables_1 ∧ Cond.instanceMethod q.1 ∈ tables_1
theorem lw_p0 : lw_okq (⟨"BlackGlass$Text", "readLine", "(I)Z"⟩, 6) := ⟨⟨by decide +kernel, by decide +kernel⟩, List.mem_of_getElem? (i := 28) (by decide +kernel), List.mem_of_getElem? (i := 378) (by decide +kernel), List.mem_of_getElem? (i := 379) (by decide +kernel)⟩
theorem lw_p1 : lw_okq (⟨"BlackGlass$Text", "takeToken", "()V"⟩, 6) := ⟨⟨by decide +kernel, by decide +kernel⟩, List.mem_of_getElem? (i := 28) (by decide +kernel), List.mem_of_getElem? (i := 382) (by decide +kernel), List.mem_of_getElem? (i := 383) (by decide +kernel)⟩
theorem lw_p2 : lw_okq (⟨"BlackGlass$Text", "kindOfToken", "()I"⟩, 6) := ⟨⟨by decide +kernel, by decide +kernel⟩, List.mem_of_getElem? (i := 28) (by decide +kernel), List.mem_of_getElem? (i := 399) (by decide +kernel), List.mem_of_getElem? (i := 400) (by decide +kernel)⟩
theorem lw_p3 : lw_okq (⟨"BlackGlass$Text", "tokenIs", "(Ljava/lang/String;)Z"⟩, 6) := ⟨⟨by decide +kernel, by decide +kernel⟩, List.mem_of_getElem? (i := 28) (by decide +kernel), List.mem_of_getElem? (i := 412) (by decide +kernel), List.mem_of_getElem? (i := 413) (by decide +kernel)⟩
theorem lw_p4 : lw_okq (⟨"BlackGlass$Text", "numberOfToken", "()I"⟩, 6) := ⟨⟨by decide +kernel, by decide +kernel⟩, List.mem_of_getElem? (i := 28) (by decide +kernel), List.mem_of_getElem? (i := 471) (by decide +kernel), List.mem_of_getElem? (i := 472) (by decide +kernel)⟩
theorem lw_p5 : lw_okq (⟨"BlackGlass$Ground", "tellFlow", "(I[II)V"⟩, 14) := ⟨⟨by decide +kernel, by decide +kernel⟩, List.mem_of_getElem? (i := 57) (by decide +kernel), List.mem_of_getElem? (i := 490) (by decide +kernel), List.mem_of_getElem? (i := 491) (by decide +kernel)⟩
theorem lw_p6 : lw_okq (⟨"BlackGlass$Years", "setOwn", "(III)V"⟩, 6) := ⟨⟨by decide +kernel, by decide +kernel⟩, List.mem_of_getElem? (i := 208) (by decide +kernel), List.mem_of_getElem? (i := 637) (by decide +kernel), List.mem_of_getElem? (i := 638) (by decide +kernel)⟩
theorem lw_p7 : lw_okq (⟨"BlackGlass$Years", "raiseStruck", "(I)V"⟩, 6) := ⟨⟨by decide +kernel, by decide +kernel⟩, List.mem_of_getElem? (i := 208) (by decide +kernel), List.mem_of_getElem? (i := 651) (by decide +kernel), List.mem_of_getElem? (i := 652) (by decide +kernel)⟩
theorem lw_p8 : lw_okq (⟨"BlackGlass$Years", "above", "(II)I"⟩, 6) := ⟨⟨by decide +kernel, by decide +kernel⟩, List.mem_of_getElem? (i := 208) (by decide +kernel), List.mem_of_getElem? (i := 655) (by decide +kernel), List.mem_of_getElem? (i := 656) (by decide +kernel)⟩
theorem lw_p9 : lw_okq (⟨"BlackGlass$Years", "raise", "(III)V"⟩, 6) := ⟨⟨by decide +kernel, by decide +kernel⟩, List.mem_of_getElem? (i := 208) (by decide +kernel), List.mem_of_getElem? (i := 663) (by decide +kernel), List.mem_of_getElem? (i := 664) (by decide +kernel)⟩
theorem lw_p10 : lw_okq (⟨"BlackGlass$Years", "raiseLaid", "()V"⟩, 6) := ⟨⟨by decide +kernel, by decide +kernel⟩, List.mem_of_getElem? (i := 208) (by decide +kernel), List.mem_of_getElem? (i := 667) (by decide +kernel), List.mem_of_getElem? (i := 668) (by decide +kernel)⟩
theorem lw_p11 : lw_okq (⟨"BlackGlass$Years", "lowerStruck", "(I)V"⟩, 6) := ⟨⟨by decide +kernel, by decide +kernel⟩, List.mem_of_getElem? (i := 208) (by decide +kernel), List.mem_of_getElem? (i := 671) (by decide +kernel), List.mem_of_getElem? (i := 672) (by decide +kernel)⟩
theorem lw_p12 : lw_okq (⟨"BlackGlass$Years", "lower", "(III)V"⟩, 6) := ⟨⟨by decide +kernel, by decide +kernel⟩, List.mem_of_getElem? (i := 208) (by decide +kernel), List.mem_of_getElem? (i := 675) (by decide +kernel), List.mem_of_getElem? (i := 676) (by decide +kernel)⟩
theorem lw_p13 : lw_okq (⟨"BlackGlass$Years", "hasWay", "()Z"⟩, 6) := ⟨⟨by decide +kernel, by decide +kernel⟩, List.mem_of_getElem? (i := 208) (by decide +kernel), List.mem_of_getElem? (i := 680) (by decide +kernel), List.mem_of_getElem? (i := 681) (by decide +kernel)⟩
theorem lw_p14 : lw_okq (⟨"BlackGlass$Rows", "findMayFrom", "(I)I"⟩, 6) := ⟨⟨by decide +kernel, by decide +kernel⟩, List.mem_of_getElem? (i := 235) (by decide +kernel), List.mem_of_getElem? (i := 703) (by decide +kernel), List.mem_of_getElem? (i := 704) (by decide +kernel)⟩
theorem lw_p15 : lw_okq (⟨"BlackGlass$Rows", "isLikely", "(II)Z"⟩, 6) := ⟨⟨by decide +kernel, by decide +kernel⟩, List.mem_of_getElem? (i := 235) (by decide +kernel), List.mem_of_getElem? (i := 708) (by decide +kernel), List.mem_of_getElem? (i := 709) (by decide +kernel)⟩
def lw_privs_1 : List (MethodName × Nat) := [(⟨"BlackGlass$Text", "readLine", "(I)Z"⟩, 6), (⟨"BlackGlass$Text", "takeToken", "()V"⟩, 6), (⟨"BlackGlass$Text", "kindOfToken", "()I"⟩, 6), (⟨"BlackGlass$Text", "tokenIs", "(Ljava/lang/String;)Z"⟩, 6), (⟨"BlackGlass$Text", "numberOfToken", "()I"⟩, 6), (⟨"BlackGlass$Ground", "tellFlow", "(I[II)V"⟩, 14), (⟨"BlackGlass$Years", "setOwn", "(III)V"⟩, 6), (⟨"BlackGlass$Years", "raiseStruck", "(I)V"⟩, 6), (⟨"BlackGlass$Years", "above", "(II)I"⟩, 6), (⟨"BlackGlass$Years", "raise", "(III)V"⟩, 6), (⟨"BlackGlass$Years", "raiseLaid", "()V"⟩, 6), (⟨"BlackGlass$Years", "lowerStruck", "(I)V"⟩, 6), (⟨"BlackGlass$Years", "lower", "(III)V"⟩, 6), (⟨"BlackGlass$Years", "hasWay", "()Z"⟩, 6), (⟨"BlackGlass$Rows", "findMayFrom", "(I)I"⟩, 6), (⟨"BlackGlass$Rows", "isLikely", "(II)Z"⟩, 6)]
theorem lw_r1 : ∀ q ∈ lw_privs_1, lw_okq q := List.forall_mem_cons.mpr ⟨lw_p0, List.forall_mem_cons.mpr ⟨lw_p1, List.forall_mem_cons.mpr ⟨lw_p2, List.forall_mem_cons.mpr ⟨lw_p3, List.forall_mem_cons.mpr ⟨lw_p4, List.forall_mem_cons.mpr ⟨lw_p5, List.forall_mem_cons.mpr ⟨lw_p6, List.forall_mem_cons.mpr ⟨lw_p7, List.forall_mem_cons.mpr ⟨lw_p8, List.forall_mem_cons.mpr ⟨lw_p9, List.forall_mem_cons.mpr ⟨lw_p10, List.forall_mem_cons.mpr ⟨lw_p11, List.forall_mem_cons.mpr ⟨lw_p12, List.forall_mem_cons.mpr ⟨lw_p13, List.forall_mem_cons.mpr ⟨lw_p14, List.forall_mem_cons.mpr ⟨lw_p15, fun _ h => absurd h List.not_mem_nil⟩⟩⟩⟩⟩⟩⟩⟩⟩⟩⟩⟩⟩⟩⟩⟩
theorem lw_p16 : lw_okq (⟨"BlackGlass$Rows", "leavesWay", "(II)Z"⟩, 6) := ⟨⟨by decide +kernel, by decide +kernel⟩, List.mem_of_getElem? (i := 235) (by decide +kernel), List.mem_of_getElem? (i := 713) (by decide +kernel), List.mem_of_getElem? (i := 714) (by decide +kernel)⟩
theorem lw_p17 : lw_okq (⟨"BlackGlass$Rows", "measureRows", "()V"⟩, 6) := ⟨⟨by decide +kernel, by decide +kernel⟩, List.mem_of_getElem? (i := 235) (by decide +kernel), List.mem_of_getElem? (i := 726) (by decide +kernel), List.mem_of_getElem? (i := 727) (by decide +kernel)⟩
theorem lw_p18 : lw_okq (⟨"BlackGlass$Rows", "lengthFrom", "(I)I"⟩, 6) := ⟨⟨by decide +kernel, by decide +kernel⟩, List.mem_of_getElem? (i := 235) (by decide +kernel), List.mem_of_getElem? (i := 730) (by decide +kernel), List.mem_of_getElem? (i := 731) (by decide +kernel)⟩
theorem lw_p19 : lw_okq (⟨"BlackGlass$Rows", "layRow", "()V"⟩, 6) := ⟨⟨by decide +kernel, by decide +kernel⟩, List.mem_of_getElem? (i := 235) (by decide +kernel), List.mem_of_getElem? (i := 736) (by decide +kernel), List.mem_of_getElem? (i := 737) (by decide +kernel)⟩
theorem lw_p20 : lw_okq (⟨"BlackGlass$Rows", "firstBehind", "(II)I"⟩, 6) := ⟨⟨by decide +kernel, by decide +kernel⟩, List.mem_of_getElem? (i := 235) (by decide +kernel), List.mem_of_getElem? (i := 741) (by decide +kernel), List.mem_of_getElem? (i := 742) (by decide +kernel)⟩
theorem lw_p21 : lw_okq (⟨"BlackGlass$Roads", "nearestOf", "(I)I"⟩, 4) := ⟨⟨by decide +kernel, by decide +kernel⟩, List.mem_of_getElem? (i := 260) (by decide +kernel), List.mem_of_getElem? (i := 767) (by decide +kernel), List.mem_of_getElem? (i := 768) (by decide +kernel)⟩
theorem lw_p22 : lw_okq (⟨"BlackGlass$Roads", "goOnFrom", "(IIZ)V"⟩, 4) := ⟨⟨by decide +kernel, by decide +kernel⟩, List.mem_of_getElem? (i := 260) (by decide +kernel), List.mem_of_getElem? (i := 771) (by decide +kernel), List.mem_of_getElem? (i := 772) (by decide +kernel)⟩
theorem lw_p23 : lw_okq (⟨"BlackGlass$Roads", "yearOfChange", "(III)I"⟩, 4) := ⟨⟨by decide +kernel, by decide +kernel⟩, List.mem_of_getElem? (i := 260) (by decide +kernel), List.mem_of_getElem? (i := 789) (by decide +kernel), List.mem_of_getElem? (i := 790) (by decide +kernel)⟩
theorem lw_p24 : lw_okq (⟨"BlackGlass$Roads", "legsIn", "(IIIZ)I"⟩, 4) := ⟨⟨by decide +kernel, by decide +kernel⟩, List.mem_of_getElem? (i := 260) (by decide +kernel), List.mem_of_getElem? (i := 796) (by decide +kernel), List.mem_of_getElem? (i := 797) (by decide +kernel)⟩
theorem lw_p25 : lw_okq (⟨"BlackGlass$Roads", "mustHaveSailed", "(I)Z"⟩, 4) := ⟨⟨by decide +kernel, by decide +kernel⟩, List.mem_of_getElem? (i := 260) (by decide +kernel), List.mem_of_getElem? (i := 815) (by decide +kernel), List.mem_of_getElem? (i := 816) (by decide +kernel)⟩
theorem lw_p26 : lw_okq (⟨"BlackGlassModel", "isRead", "()Z"⟩, 30) := ⟨⟨by decide +kernel, by decide +kernel⟩, List.mem_of_getElem? (i := 904) (by decide +kernel), List.mem_of_getElem? (i := 1017) (by decide +kernel), List.mem_of_getElem? (i := 1018) (by decide +kernel)⟩
theorem lw_p27 : lw_okq (⟨"BlackGlassModel", "isLine", "(I)Z"⟩, 30) := ⟨⟨by decide +kernel, by decide +kernel⟩, List.mem_of_getElem? (i := 904) (by decide +kernel), List.mem_of_getElem? (i := 1021) (by decide +kernel), List.mem_of_getElem? (i := 1022) (by decide +kernel)⟩
theorem lw_p28 : lw_okq (⟨"BlackGlassModel", "nextToken", "()V"⟩, 30) := ⟨⟨by decide +kernel, by decide +kernel⟩, List.mem_of_getElem? (i := 904) (by decide +kernel), List.mem_of_getElem? (i := 1025) (by decide +kernel), List.mem_of_getElem? (i := 1026) (by decide +kernel)⟩
theorem lw_p29 : lw_okq (⟨"BlackGlassModel", "isNumber", "(III)Z"⟩, 30) := ⟨⟨by decide +kernel, by decide +kernel⟩, List.mem_of_getElem? (i := 904) (by decide +kernel), List.mem_of_getElem? (i := 1041) (by decide +kernel), List.mem_of_getElem? (i := 1042) (by decide +kernel)⟩
theorem lw_p30 : lw_okq (⟨"BlackGlassModel", "fails", "()Z"⟩, 30) := ⟨⟨by decide +kernel, by decide +kernel⟩, List.mem_of_getElem? (i := 904) (by decide +kernel), List.mem_of_getElem? (i := 1045) (by decide +kernel), List.mem_of_getElem? (i := 1046) (by decide +kernel)⟩
theorem lw_p31 : lw_okq (⟨"BlackGlassModel", "isWay", "(I)Z"⟩, 30) := ⟨⟨by decide +kernel, by decide +kernel⟩, List.mem_of_getElem? (i := 904) (by decide +kernel), List.mem_of_getElem? (i := 1049) (by decide +kernel), List.mem_of_getElem? (i := 1050) (by decide +kernel)⟩
def lw_privs_2 : List (MethodName × Nat) := [(⟨"BlackGlass$Rows", "leavesWay", "(II)Z"⟩, 6), (⟨"BlackGlass$Rows", "measureRows", "()V"⟩, 6), (⟨"BlackGlass$Rows", "lengthFrom", "(I)I"⟩, 6), (⟨"BlackGlass$Rows", "layRow", "()V"⟩, 6), (⟨"BlackGlass$Rows", "firstBehind", "(II)I"⟩, 6), (⟨"BlackGlass$Roads", "nearestOf", "(I)I"⟩, 4), (⟨"BlackGlass$Roads", "goOnFrom", "(IIZ)V"⟩, 4), (⟨"BlackGlass$Roads", "yearOfChange", "(III)I"⟩, 4), (⟨"BlackGlass$Roads", "legsIn", "(IIIZ)I"⟩, 4), (⟨"BlackGlass$Roads", "mustHaveSailed", "(I)Z"⟩, 4), (⟨"BlackGlassModel", "isRead", "()Z"⟩, 30), (⟨"BlackGlassModel", "isLine", "(I)Z"⟩, 30), (⟨"BlackGlassModel", "nextToken", "()V"⟩, 30), (⟨"BlackGlassModel", "isNumber", "(III)Z"⟩, 30), (⟨"BlackGlassModel", "fails", "()Z"⟩, 30), (⟨"BlackGlassModel", "isWay", "(I)Z"⟩, 30)]
theorem lw_r2 : ∀ q ∈ lw_privs_2, lw_okq q := List.forall_mem_cons.mpr ⟨lw_p16, List.forall_mem_cons.mpr ⟨lw_p17, List.forall_mem_cons.mpr ⟨lw_p18, List.forall_mem_cons.mpr ⟨lw_p19, List.forall_mem_cons.mpr ⟨lw_p20, List.forall_mem_cons.mpr ⟨lw_p21, List.forall_mem_cons.mpr ⟨lw_p22, List.forall_mem_cons.mpr ⟨lw_p23, List.forall_mem_cons.mpr ⟨lw_p24, List.forall_mem_cons.mpr ⟨lw_p25, List.forall_mem_cons.mpr ⟨lw_p26, List.forall_mem_cons.mpr ⟨lw_p27, List.forall_mem_cons.mpr ⟨lw_p28, List.forall_mem_cons.mpr ⟨lw_p29, List.forall_mem_cons.mpr ⟨lw_p30, List.forall_mem_cons.mpr ⟨lw_p31, fun _ h => absurd h List.not_mem_nil⟩⟩⟩⟩⟩⟩⟩⟩⟩⟩⟩⟩⟩⟩⟩⟩
theorem lw_p32 : lw_okq (⟨"BlackGlassModel", "doLine", "(I)V"⟩, 30) := ⟨⟨by decide +kernel, by decide +kernel⟩, List.mem_of_getElem? (i := 904) (by decide +kernel), List.mem_of_getElem? (i := 1057) (by decide +kernel), List.mem_of_getElem? (i := 1058) (by decide +kernel)⟩
theorem lw_p33 : lw_okq (⟨"BlackGlassModel", "isFlow", "(I)Z"⟩, 30) := ⟨⟨by decide +kernel, by decide +kernel⟩, List.mem_of_getElem? (i := 904) (by decide +kernel), List.mem_of_getElem? (i := 1072) (by decide +kernel), List.mem_of_getElem? (i := 1073) (by decide +kernel)⟩
theorem lw_p34 : lw_okq (⟨"BlackGlassModel", "layNumbers", "(III)V"⟩, 30) := ⟨⟨by decide +kernel, by decide +kernel⟩, List.mem_of_getElem? (i := 904) (by decide +kernel), List.mem_of_getElem? (i := 1087) (by decide +kernel), List.mem_of_getElem? (i := 1088) (by decide +kernel)⟩
theorem lw_p35 : lw_okq (⟨"BlackGlassModel", "isBlade", "(I)Z"⟩, 30) := ⟨⟨by decide +kernel, by decide +kernel⟩, List.mem_of_getElem? (i := 904) (by decide +kernel), List.mem_of_getElem? (i := 1095) (by decide +kernel), List.mem_of_getElem? (i := 1096) (by decide +kernel)⟩
theorem lw_p36 : lw_okq (⟨"BlackGlassModel", "at", "(II)I"⟩, 30) := ⟨⟨by decide +kernel, by decide +kernel⟩, List.mem_of_getElem? (i := 904) (by decide +kernel), List.mem_of_getElem? (i := 1103) (by decide +kernel), List.mem_of_getElem? (i := 1104) (by decide +kernel)⟩
theorem lw_p37 : lw_okq (⟨"BlackGlassModel", "offOf", "(II)I"⟩, 30) := ⟨⟨by decide +kernel, by decide +kernel⟩, List.mem_of_getElem? (i := 904) (by decide +kernel), List.mem_of_getElem? (i := 1115) (by decide +kernel), List.mem_of_getElem? (i := 1116) (by decide +kernel)⟩
theorem lw_p38 : lw_okq (⟨"BlackGlassModel", "canBe", "(I)I"⟩, 30) := ⟨⟨by decide +kernel, by decide +kernel⟩, List.mem_of_getElem? (i := 904) (by decide +kernel), List.mem_of_getElem? (i := 1123) (by decide +kernel), List.mem_of_getElem? (i := 1124) (by decide +kernel)⟩
theorem lw_p39 : lw_okq (⟨"BlackGlassModel", "isFrom", "(II)Z"⟩, 30) := ⟨⟨by decide +kernel, by decide +kernel⟩, List.mem_of_getElem? (i := 904) (by decide +kernel), List.mem_of_getElem? (i := 1138) (by decide +kernel), List.mem_of_getElem? (i := 1139) (by decide +kernel)⟩
theorem lw_p40 : lw_okq (⟨"BlackGlassModel", "areYears", "()Z"⟩, 30) := ⟨⟨by decide +kernel, by decide +kernel⟩, List.mem_of_getElem? (i := 904) (by decide +kernel), List.mem_of_getElem? (i := 1150) (by decide +kernel), List.mem_of_getElem? (i := 1151) (by decide +kernel)⟩
theorem lw_p41 : lw_okq (⟨"BlackGlassModel", "begin", "(I)V"⟩, 30) := ⟨⟨by decide +kernel, by decide +kernel⟩, List.mem_of_getElem? (i := 904) (by decide +kernel), List.mem_of_getElem? (i := 1154) (by decide +kernel), List.mem_of_getElem? (i := 1155) (by decide +kernel)⟩
theorem lw_p42 : lw_okq (⟨"BlackGlassModel", "warmthOf", "(I)I"⟩, 30) := ⟨⟨by decide +kernel, by decide +kernel⟩, List.mem_of_getElem? (i := 904) (by decide +kernel), List.mem_of_getElem? (i := 1158) (by decide +kernel), List.mem_of_getElem? (i := 1159) (by decide +kernel)⟩
theorem lw_p43 : lw_okq (⟨"BlackGlassModel", "isReused", "(I)Z"⟩, 30) := ⟨⟨by decide +kernel, by decide +kernel⟩, List.mem_of_getElem? (i := 904) (by decide +kernel), List.mem_of_getElem? (i := 1165) (by decide +kernel), List.mem_of_getElem? (i := 1166) (by decide +kernel)⟩
theorem lw_p44 : lw_okq (⟨"BlackGlassModel", "goRound", "()V"⟩, 30) := ⟨⟨by decide +kernel, by decide +kernel⟩, List.mem_of_getElem? (i := 904) (by decide +kernel), List.mem_of_getElem? (i := 1169) (by decide +kernel), List.mem_of_getElem? (i := 1170) (by decide +kernel)⟩
theorem lw_p45 : lw_okq (⟨"BlackGlassModel", "isBelow", "(II)Z"⟩, 30) := ⟨⟨by decide +kernel, by decide +kernel⟩, List.mem_of_getElem? (i := 904) (by decide +kernel), List.mem_of_getElem? (i := 1179) (by decide +kernel), List.mem_of_getElem? (i := 1180) (by decide +kernel)⟩
theorem lw_p46 : lw_okq (⟨"BlackGlassModel", "mayBeFrom", "(I)I"⟩, 30) := ⟨⟨by decide +kernel, by decide +kernel⟩, List.mem_of_getElem? (i := 904) (by decide +kernel), List.mem_of_getElem? (i := 1191) (by decide +kernel), List.mem_of_getElem? (i := 1192) (by decide +kernel)⟩
theorem lw_p47 : lw_okq (⟨"BlackGlassModel", "layOut", "(IIZ)V"⟩, 30) := ⟨⟨by decide +kernel, by decide +kernel⟩, List.mem_of_getElem? (i := 904) (by decide +kernel), List.mem_of_getElem? (i := 1203) (by decide +kernel), List.mem_of_getElem? (i := 1204) (by decide +kernel)⟩
def lw_privs_3 : List (MethodName × Nat) := [(⟨"BlackGlassModel", "doLine", "(I)V"⟩, 30), (⟨"BlackGlassModel", "isFlow", "(I)Z"⟩, 30), (⟨"BlackGlassModel", "layNumbers", "(III)V"⟩, 30), (⟨"BlackGlassModel", "isBlade", "(I)Z"⟩, 30), (⟨"BlackGlassModel", "at", "(II)I"⟩, 30), (⟨"BlackGlassModel", "offOf", "(II)I"⟩, 30), (⟨"BlackGlassModel", "canBe", "(I)I"⟩, 30), (⟨"BlackGlassModel", "isFrom", "(II)Z"⟩, 30), (⟨"BlackGlassModel", "areYears", "()Z"⟩, 30), (⟨"BlackGlassModel", "begin", "(I)V"⟩, 30), (⟨"BlackGlassModel", "warmthOf", "(I)I"⟩, 30), (⟨"BlackGlassModel", "isReused", "(I)Z"⟩, 30), (⟨"BlackGlassModel", "goRound", "()V"⟩, 30), (⟨"BlackGlassModel", "isBelow", "(II)Z"⟩, 30), (⟨"BlackGlassModel", "mayBeFrom", "(I)I"⟩, 30), (⟨"BlackGlassModel", "layOut", "(IIZ)V"⟩, 30)]
theorem lw_r3 : ∀ q ∈ lw_privs_3, lw_okq q := List.forall_mem_cons.mpr ⟨lw_p32, List.forall_mem_cons.mpr ⟨lw_p33, List.forall_mem_cons.mpr ⟨lw_p34, List.forall_mem_cons.mpr ⟨lw_p35, List.forall_mem_cons.mpr ⟨lw_p36, List.forall_mem_cons.mpr ⟨lw_p37, List.forall_mem_cons.mpr ⟨lw_p38, List.forall_mem_cons.mpr ⟨lw_p39, List.forall_mem_cons.mpr ⟨lw_p40, List.forall_mem_cons.mpr ⟨lw_p41, List.forall_mem_cons.mpr ⟨lw_p42, List.forall_mem_cons.mpr ⟨lw_p43, List.forall_mem_cons.mpr ⟨lw_p44, List.forall_mem_cons.mpr ⟨lw_p45, List.forall_mem_cons.mpr ⟨lw_p46, List.forall_mem_cons.mpr ⟨lw_p47, fun _ h => absurd h List.not_mem_nil⟩⟩⟩⟩⟩⟩⟩⟩⟩⟩⟩⟩⟩⟩⟩⟩
theorem lw_p48 : lw_okq (⟨"BlackGlassModel", "isLive", "(II)Z"⟩, 30) := ⟨⟨by decide +kernel, by decide +kernel⟩, List.mem_of_getElem? (i := 904) (by decide +kernel), List.mem_of_getElem? (i := 1207) (by decide +kernel), List.mem_of_getElem? (i := 1208) (by decide +kernel)⟩
theorem lw_p49 : lw_okq (⟨"BlackGlassModel", "comesBy", "(IIZI)I"⟩, 30) := ⟨⟨by decide +kernel, by decide +kernel⟩, List.mem_of_getElem? (i := 904) (by decide +kernel), List.mem_of_getElem? (i := 1215) (by decide +kernel), List.mem_of_getElem? (i := 1216) (by decide +kernel)⟩
theorem lw_p50 : lw_okq (⟨"BlackGlassModel", "byBoat", "()I"⟩, 30) := ⟨⟨by decide +kernel, by decide +kernel⟩, List.mem_of_getElem? (i := 904) (by decide +kernel), List.mem_of_getElem? (i := 1223) (by decide +kernel), List.mem_of_getElem? (i := 1224) (by decide +kernel)⟩
theorem lw_p51 : lw_okq (⟨"BlackGlassModel", "missBy", "(III)I"⟩, 30) := ⟨⟨by decide +kernel, by decide +kernel⟩, List.mem_of_getElem? (i := 904) (by decide +kernel), List.mem_of_getElem? (i := 1243) (by decide +kernel), List.mem_of_getElem? (i := 1244) (by decide +kernel)⟩
def lw_privs_4 : List (MethodName × Nat) := [(⟨"BlackGlassModel", "isLive", "(II)Z"⟩, 30), (⟨"BlackGlassModel", "comesBy", "(IIZI)I"⟩, 30), (⟨"BlackGlassModel", "byBoat", "()I"⟩, 30), (⟨"BlackGlassModel", "missBy", "(III)I"⟩, 30)]
theorem lw_r4 : ∀ q ∈ lw_privs_4, lw_okq q := List.forall_mem_cons.mpr ⟨lw_p48, List.forall_mem_cons.mpr ⟨lw_p49, List.forall_mem_cons.mpr ⟨lw_p50, List.forall_mem_cons.mpr ⟨lw_p51, fun _ h => absurd h List.not_mem_nil⟩⟩⟩⟩
def lw_privs : List (MethodName × Nat) := lw_privs_1 ++ (lw_privs_2 ++ (lw_privs_3 ++ (lw_privs_4)))
def lw_tbl : List Cond := k2_sels lw_privs ++ tables_1
theorem lw_privs_ok : ∀ q ∈ lw_privs, lw_okq q := by
  show ∀ q ∈ lw_privs_1 ++ (lw_privs_2 ++ (lw_privs_3 ++ (lw_privs_4))), lw_okq q
  exact List.forall_mem_append.mpr ⟨lw_r1, List.forall_mem_append.mpr ⟨lw_r2, List.forall_mem_append.mpr ⟨lw_r3, lw_r4⟩⟩⟩
/-- the words that go along from one state to the next by themselves -/
def zT : List Cond := lw_tbl.filter goodWord
theorem zT_in {w : Cond} {i : Nat} (h : lw_tbl[i]? = some w) (g : goodWord w = true) : w ∈ zT := List.mem_filter.mpr ⟨List.mem_of_getElem? h, g⟩
theorem zT_good : ∀ w ∈ zT, (w.onTables && w.keeps) = true ∨ ∃ ty, w = .arrayClass ty := fun w h => good_of_word (List.mem_filter.mp h).2
theorem zT_goodIn {w v : Cond} (h : v ∈ zT) : GoodIn (w :: zT) (v :: zT) := by
  intro u hu
  rcases List.mem_cons.mp hu with rfl | hu
  · exact ⟨List.mem_cons_of_mem _ h, zT_good _ h⟩
  · exact ⟨List.mem_cons_of_mem _ hu, zT_good _ hu⟩
theorem zT_goodTbl {v : Cond} (h : v ∈ zT) : GoodIn zT (v :: zT) := by
  intro u hu
  rcases List.mem_cons.mp hu with rfl | hu
  · exact ⟨h, zT_good _ h⟩
  · exact ⟨hu, zT_good _ hu⟩
end
section
def RX0 : String := "BlackGlass$Finds"
def TX0 : u_T := fun k => match k with
  | 0 => ("BlackGlass$Finds", "many", "I", false)
  | 1 => ("BlackGlass$Finds", "place", "[I", true)
  | 2 => ("BlackGlass$Finds", "numbers", "[I", true)
  | 3 => ("BlackGlass$Finds", "error", "[I", true)
  | 4 => ("BlackGlass$Finds", "size", "[I", true)
  | 5 => ("BlackGlass$Finds", "layer", "[I", true)
  | 6 => ("BlackGlass$Finds", "rim", "[I", true)
  | 7 => ("BlackGlass$Finds", "secondRim", "[I", true)
  | 8 => ("BlackGlass$Finds", "struckFrom", "[I", true)
  | _ => ("BlackGlass$Finds", "datedYear", "[I", true)
def tyX0 : Nat → FieldType := fun k => match k with
  | 0 => .int
  | 1 => .array .int
  | 2 => .array .int
  | 3 => .array .int
  | 4 => .array .int
  | 5 => .array .int
  | 6 => .array .int
  | 7 => .array .int
  | 8 => .array .int
  | _ => .array .int
theorem nmX0 : ∀ a, a < 10 → ∀ b, b < 10 → a ≠ b → (TX0 a).2.1 ≠ (TX0 b).2.1 := by decide +kernel
theorem tyX0_ok : ∀ k, k < 10 → parseFieldDescriptor (TX0 k).2.2.1 = some (tyX0 k) := by decide +kernel
abbrev cX0_init : ByteArray := prog_2_method_1_code
def yX0_init : MethodName := ⟨RX0, "<init>", "()V"⟩
abbrev cX0_has : ByteArray := prog_2_method_2_code
def yX0_has : MethodName := ⟨RX0, "has", "(I)Z"⟩
abbrev cX0_add : ByteArray := prog_2_method_3_code
def yX0_add : MethodName := ⟨RX0, "add", "(III)I"⟩
abbrev cX0_setMeasured : ByteArray := prog_2_method_4_code
def yX0_setMeasured : MethodName := ⟨RX0, "setMeasured", "(III)V"⟩
abbrev cX0_isReused : ByteArray := prog_2_method_5_code
def yX0_isReused : MethodName := ⟨RX0, "isReused", "(I)Z"⟩
abbrev cX0_comesFrom : ByteArray := prog_2_method_6_code
def yX0_comesFrom : MethodName := ⟨RX0, "comesFrom", "(II)Z"⟩
abbrev cX0_strikes : ByteArray := prog_2_method_7_code
def yX0_strikes : MethodName := ⟨RX0, "strikes", "()I"⟩
def RX1 : String := "BlackGlass$Floors"
def TX1 : u_T := fun k => match k with
  | _ => ("BlackGlass$Floors", "finds", "LBlackGlass$Finds;", true)
def tyX1 : Nat → FieldType := fun k => match k with
  | _ => .object "BlackGlass$Finds"
theorem nmX1 : ∀ a, a < 1 → ∀ b, b < 1 → a ≠ b → (TX1 a).2.1 ≠ (TX1 b).2.1 := by decide +kernel
theorem tyX1_ok : ∀ k, k < 1 → parseFieldDescriptor (TX1 k).2.2.1 = some (tyX1 k) := by decide +kernel
abbrev cX1_init : ByteArray := prog_3_method_1_code
def yX1_init : MethodName := ⟨RX1, "<init>", "(LBlackGlass$Finds;)V"⟩
abbrev cX1_warmthLearnt : ByteArray := prog_3_method_2_code
def yX1_warmthLearnt : MethodName := ⟨RX1, "warmthLearnt", "(II)I"⟩
abbrev cX1_leastFor : ByteArray := prog_3_method_3_code
def yX1_leastFor : MethodName := ⟨RX1, "leastFor", "(II)I"⟩
abbrev cX1_greatestFor : ByteArray := prog_3_method_4_code
def yX1_greatestFor : MethodName := ⟨RX1, "greatestFor", "(II)I"⟩
def RX2 : String := "BlackGlass$Glass"
def TX2 : u_T := fun k => match k with
  | 0 => ("BlackGlass$Glass", "ground", "LBlackGlass$Ground;", true)
  | _ => ("BlackGlass$Glass", "finds", "LBlackGlass$Finds;", true)
def tyX2 : Nat → FieldType := fun k => match k with
  | 0 => .object "BlackGlass$Ground"
  | _ => .object "BlackGlass$Finds"
theorem nmX2 : ∀ a, a < 2 → ∀ b, b < 2 → a ≠ b → (TX2 a).2.1 ≠ (TX2 b).2.1 := by decide +kernel
theorem tyX2_ok : ∀ k, k < 2 → parseFieldDescriptor (TX2 k).2.2.1 = some (tyX2 k) := by decide +kernel
abbrev cX2_init : ByteArray := prog_4_method_1_code
def yX2_init : MethodName := ⟨RX2, "<init>", "(LBlackGlass$Ground;LBlackGlass$Finds;)V"⟩
abbrev cX2_offBetween : ByteArray := prog_4_method_2_code
def yX2_offBetween : MethodName := ⟨RX2, "offBetween", "(II)I"⟩
abbrev cX2_canBeOf : ByteArray := prog_4_method_3_code
def yX2_canBeOf : MethodName := ⟨RX2, "canBeOf", "(I)I"⟩
abbrev cX2_nameOf : ByteArray := prog_4_method_4_code
def yX2_nameOf : MethodName := ⟨RX2, "nameOf", "(I)I"⟩
abbrev cX2_firstOpen : ByteArray := prog_4_method_5_code
def yX2_firstOpen : MethodName := ⟨RX2, "firstOpen", "(I)I"⟩
abbrev cX2_nextToMeasure : ByteArray := prog_4_method_6_code
def yX2_nextToMeasure : MethodName := ⟨RX2, "nextToMeasure", "()I"⟩
def RX3 : String := "BlackGlass$Ground"
def TX3 : u_T := fun k => match k with
  | 0 => ("BlackGlass$Ground", "liveFrom", "[I", true)
  | 1 => ("BlackGlass$Ground", "liveTo", "[I", true)
  | 2 => ("BlackGlass$Ground", "warmth", "[I", true)
  | 3 => ("BlackGlass$Ground", "told", "[Z", true)
  | 4 => ("BlackGlass$Ground", "flowPlace", "[I", true)
  | 5 => ("BlackGlass$Ground", "open", "[I", true)
  | 6 => ("BlackGlass$Ground", "stuffs", "[I", true)
  | 7 => ("BlackGlass$Ground", "spread", "[I", true)
  | 8 => ("BlackGlass$Ground", "landMiles", "[I", true)
  | 9 => ("BlackGlass$Ground", "boatMiles", "[I", true)
  | 10 => ("BlackGlass$Ground", "landTo", "[I", true)
  | 11 => ("BlackGlass$Ground", "boatTo", "[I", true)
  | 12 => ("BlackGlass$Ground", "near", "I", false)
  | _ => ("BlackGlass$Ground", "far", "I", false)
def tyX3 : Nat → FieldType := fun k => match k with
  | 0 => .array .int
  | 1 => .array .int
  | 2 => .array .int
  | 3 => .array .boolean
  | 4 => .array .int
  | 5 => .array .int
  | 6 => .array .int
  | 7 => .array .int
  | 8 => .array .int
  | 9 => .array .int
  | 10 => .array .int
  | 11 => .array .int
  | 12 => .int
  | _ => .int
theorem nmX3 : ∀ a, a < 14 → ∀ b, b < 14 → a ≠ b → (TX3 a).2.1 ≠ (TX3 b).2.1 := by decide +kernel
theorem tyX3_ok : ∀ k, k < 14 → parseFieldDescriptor (TX3 k).2.2.1 = some (tyX3 k) := by decide +kernel
abbrev cX3_init : ByteArray := prog_5_method_1_code
def yX3_init : MethodName := ⟨RX3, "<init>", "()V"⟩
abbrev cX3_isTold : ByteArray := prog_5_method_2_code
def yX3_isTold : MethodName := ⟨RX3, "isTold", "(I)Z"⟩
abbrev cX3_toldFlows : ByteArray := prog_5_method_3_code
def yX3_toldFlows : MethodName := ⟨RX3, "toldFlows", "()I"⟩
abbrev cX3_liveIn : ByteArray := prog_5_method_4_code
def yX3_liveIn : MethodName := ⟨RX3, "liveIn", "(I)I"⟩
abbrev cX3_tell : ByteArray := prog_5_method_5_code
def yX3_tell : MethodName := ⟨RX3, "tell", "([II)V"⟩
abbrev cX3_tellFlow : ByteArray := prog_5_method_6_code
def yX3_tellFlow : MethodName := ⟨RX3, "tellFlow", "(I[II)V"⟩
abbrev cX3_tellWay : ByteArray := prog_5_method_7_code
def yX3_tellWay : MethodName := ⟨RX3, "tellWay", "([I[IIII)V"⟩
abbrev cX3_milesOf : ByteArray := prog_5_method_8_code
def yX3_milesOf : MethodName := ⟨RX3, "milesOf", "(IIZ)I"⟩
abbrev cX3_waysFrom : ByteArray := prog_5_method_9_code
def yX3_waysFrom : MethodName := ⟨RX3, "waysFrom", "(IZ)I"⟩
def RX4 : String := "BlackGlass$Roads"
def TX4 : u_T := fun k => match k with
  | 0 => ("BlackGlass$Roads", "ground", "LBlackGlass$Ground;", true)
  | 1 => ("BlackGlass$Roads", "finds", "LBlackGlass$Finds;", true)
  | 2 => ("BlackGlass$Roads", "years", "LBlackGlass$Years;", true)
  | _ => ("BlackGlass$Roads", "miles", "[I", true)
def tyX4 : Nat → FieldType := fun k => match k with
  | 0 => .object "BlackGlass$Ground"
  | 1 => .object "BlackGlass$Finds"
  | 2 => .object "BlackGlass$Years"
  | _ => .array .int
theorem nmX4 : ∀ a, a < 4 → ∀ b, b < 4 → a ≠ b → (TX4 a).2.1 ≠ (TX4 b).2.1 := by decide +kernel
theorem tyX4_ok : ∀ k, k < 4 → parseFieldDescriptor (TX4 k).2.2.1 = some (tyX4 k) := by decide +kernel
abbrev cX4_init : ByteArray := prog_6_method_1_code
def yX4_init : MethodName := ⟨RX4, "<init>", "(LBlackGlass$Ground;LBlackGlass$Finds;LBlackGlass$Years;)V"⟩
abbrev cX4_fewestLegs : ByteArray := prog_6_method_2_code
def yX4_fewestLegs : MethodName := ⟨RX4, "fewestLegs", "(IIIZ)I"⟩
abbrev cX4_measureMiles : ByteArray := prog_6_method_3_code
def yX4_measureMiles : MethodName := ⟨RX4, "measureMiles", "(IIZ)V"⟩
abbrev cX4_nearestOf : ByteArray := prog_6_method_4_code
def yX4_nearestOf : MethodName := ⟨RX4, "nearestOf", "(I)I"⟩
abbrev cX4_goOnFrom : ByteArray := prog_6_method_5_code
def yX4_goOnFrom : MethodName := ⟨RX4, "goOnFrom", "(IIZ)V"⟩
abbrev cX4_firstYear : ByteArray := prog_6_method_6_code
def yX4_firstYear : MethodName := ⟨RX4, "firstYear", "(IIZ)I"⟩
abbrev cX4_legsInAnyYear : ByteArray := prog_6_method_7_code
def yX4_legsInAnyYear : MethodName := ⟨RX4, "legsInAnyYear", "(IIZ)I"⟩
abbrev cX4_yearOfChange : ByteArray := prog_6_method_8_code
def yX4_yearOfChange : MethodName := ⟨RX4, "yearOfChange", "(III)I"⟩
abbrev cX4_legsIn : ByteArray := prog_6_method_9_code
def yX4_legsIn : MethodName := ⟨RX4, "legsIn", "(IIIZ)I"⟩
abbrev cX4_comeByBoat : ByteArray := prog_6_method_10_code
def yX4_comeByBoat : MethodName := ⟨RX4, "comeByBoat", "()I"⟩
abbrev cX4_mustHaveSailed : ByteArray := prog_6_method_11_code
def yX4_mustHaveSailed : MethodName := ⟨RX4, "mustHaveSailed", "(I)Z"⟩
def RX5 : String := "BlackGlass$Rows"
def TX5 : u_T := fun k => match k with
  | 0 => ("BlackGlass$Rows", "finds", "LBlackGlass$Finds;", true)
  | 1 => ("BlackGlass$Rows", "years", "LBlackGlass$Years;", true)
  | 2 => ("BlackGlass$Rows", "mayFrom", "[I", true)
  | 3 => ("BlackGlass$Rows", "longest", "[I", true)
  | 4 => ("BlackGlass$Rows", "row", "[I", true)
  | _ => ("BlackGlass$Rows", "rowLength", "I", false)
def tyX5 : Nat → FieldType := fun k => match k with
  | 0 => .object "BlackGlass$Finds"
  | 1 => .object "BlackGlass$Years"
  | 2 => .array .int
  | 3 => .array .int
  | 4 => .array .int
  | _ => .int
theorem nmX5 : ∀ a, a < 6 → ∀ b, b < 6 → a ≠ b → (TX5 a).2.1 ≠ (TX5 b).2.1 := by decide +kernel
theorem tyX5_ok : ∀ k, k < 6 → parseFieldDescriptor (TX5 k).2.2.1 = some (tyX5 k) := by decide +kernel
abbrev cX5_init : ByteArray := prog_7_method_1_code
def yX5_init : MethodName := ⟨RX5, "<init>", "(LBlackGlass$Finds;LBlackGlass$Years;)V"⟩
abbrev cX5_mayBeFrom : ByteArray := prog_7_method_2_code
def yX5_mayBeFrom : MethodName := ⟨RX5, "mayBeFrom", "(I)I"⟩
abbrev cX5_longestRow : ByteArray := prog_7_method_3_code
def yX5_longestRow : MethodName := ⟨RX5, "longestRow", "(I)I"⟩
abbrev cX5_findMayFrom : ByteArray := prog_7_method_4_code
def yX5_findMayFrom : MethodName := ⟨RX5, "findMayFrom", "(I)I"⟩
abbrev cX5_isLikely : ByteArray := prog_7_method_5_code
def yX5_isLikely : MethodName := ⟨RX5, "isLikely", "(II)Z"⟩
abbrev cX5_leavesWay : ByteArray := prog_7_method_6_code
def yX5_leavesWay : MethodName := ⟨RX5, "leavesWay", "(II)Z"⟩
abbrev cX5_measureRows : ByteArray := prog_7_method_7_code
def yX5_measureRows : MethodName := ⟨RX5, "measureRows", "()V"⟩
abbrev cX5_lengthFrom : ByteArray := prog_7_method_8_code
def yX5_lengthFrom : MethodName := ⟨RX5, "lengthFrom", "(I)I"⟩
abbrev cX5_layRow : ByteArray := prog_7_method_9_code
def yX5_layRow : MethodName := ⟨RX5, "layRow", "()V"⟩
abbrev cX5_firstBehind : ByteArray := prog_7_method_10_code
def yX5_firstBehind : MethodName := ⟨RX5, "firstBehind", "(II)I"⟩
def RX6 : String := "BlackGlass$Shares"
def TX6 : u_T := fun k => match k with
  | 0 => ("BlackGlass$Shares", "ground", "LBlackGlass$Ground;", true)
  | 1 => ("BlackGlass$Shares", "roads", "LBlackGlass$Roads;", true)
  | 2 => ("BlackGlass$Shares", "many", "[I", true)
  | 3 => ("BlackGlass$Shares", "all", "[I", true)
  | 4 => ("BlackGlass$Shares", "share", "[I", true)
  | 5 => ("BlackGlass$Shares", "milesTo", "[I", true)
  | _ => ("BlackGlass$Shares", "gathered", "I", false)
def tyX6 : Nat → FieldType := fun k => match k with
  | 0 => .object "BlackGlass$Ground"
  | 1 => .object "BlackGlass$Roads"
  | 2 => .array .int
  | 3 => .array .int
  | 4 => .array .int
  | 5 => .array .int
  | _ => .int
theorem nmX6 : ∀ a, a < 7 → ∀ b, b < 7 → a ≠ b → (TX6 a).2.1 ≠ (TX6 b).2.1 := by decide +kernel
theorem tyX6_ok : ∀ k, k < 7 → parseFieldDescriptor (TX6 k).2.2.1 = some (tyX6 k) := by decide +kernel
abbrev cX6_init : ByteArray := prog_8_method_1_code
def yX6_init : MethodName := ⟨RX6, "<init>", "(LBlackGlass$Ground;LBlackGlass$Roads;)V"⟩
abbrev cX6_setCounts : ByteArray := prog_8_method_2_code
def yX6_setCounts : MethodName := ⟨RX6, "setCounts", "(IIII)V"⟩
abbrev cX6_gather : ByteArray := prog_8_method_3_code
def yX6_gather : MethodName := ⟨RX6, "gather", "(I)V"⟩
abbrev cX6_missOf : ByteArray := prog_8_method_4_code
def yX6_missOf : MethodName := ⟨RX6, "missOf", "(II)I"⟩
abbrev cX6_shareByLaw : ByteArray := prog_8_method_5_code
def yX6_shareByLaw : MethodName := ⟨RX6, "shareByLaw", "(III)I"⟩
abbrev cX6_best : ByteArray := prog_8_method_6_code
def yX6_best : MethodName := ⟨RX6, "best", "(I)I"⟩
def RX7 : String := "BlackGlass$Text"
def TX7 : u_T := fun k => match k with
  | 0 => ("BlackGlass$Text", "bytes", "[I", true)
  | 1 => ("BlackGlass$Text", "length", "I", false)
  | 2 => ("BlackGlass$Text", "lines", "[I", true)
  | 3 => ("BlackGlass$Text", "lineCount", "I", false)
  | 4 => ("BlackGlass$Text", "start", "I", false)
  | _ => ("BlackGlass$Text", "end", "I", false)
def tyX7 : Nat → FieldType := fun k => match k with
  | 0 => .array .int
  | 1 => .int
  | 2 => .array .int
  | 3 => .int
  | 4 => .int
  | _ => .int
theorem nmX7 : ∀ a, a < 6 → ∀ b, b < 6 → a ≠ b → (TX7 a).2.1 ≠ (TX7 b).2.1 := by decide +kernel
theorem tyX7_ok : ∀ k, k < 6 → parseFieldDescriptor (TX7 k).2.2.1 = some (tyX7 k) := by decide +kernel
abbrev cX7_init : ByteArray := prog_9_method_1_code
def yX7_init : MethodName := ⟨RX7, "<init>", "()V"⟩
abbrev cX7_hasRoomFor : ByteArray := prog_9_method_2_code
def yX7_hasRoomFor : MethodName := ⟨RX7, "hasRoomFor", "(I)Z"⟩
abbrev cX7_append : ByteArray := prog_9_method_3_code
def yX7_append : MethodName := ⟨RX7, "append", "(JI)I"⟩
abbrev cX7_empty : ByteArray := prog_9_method_4_code
def yX7_empty : MethodName := ⟨RX7, "empty", "()I"⟩
abbrev cX7_read : ByteArray := prog_9_method_5_code
def yX7_read : MethodName := ⟨RX7, "read", "()I"⟩
abbrev cX7_readLine : ByteArray := prog_9_method_6_code
def yX7_readLine : MethodName := ⟨RX7, "readLine", "(I)Z"⟩
abbrev cX7_takeToken : ByteArray := prog_9_method_7_code
def yX7_takeToken : MethodName := ⟨RX7, "takeToken", "()V"⟩
abbrev cX7_areOfOneToken : ByteArray := prog_9_method_8_code
def yX7_areOfOneToken : MethodName := ⟨RX7, "areOfOneToken", "(II)Z"⟩
abbrev cX7_isLetter : ByteArray := prog_9_method_9_code
def yX7_isLetter : MethodName := ⟨RX7, "isLetter", "(I)Z"⟩
abbrev cX7_isDigit : ByteArray := prog_9_method_10_code
def yX7_isDigit : MethodName := ⟨RX7, "isDigit", "(I)Z"⟩
abbrev cX7_numberOfToken : ByteArray := prog_9_method_11_code
def yX7_numberOfToken : MethodName := ⟨RX7, "numberOfToken", "()I"⟩
abbrev cX7_kindOfToken : ByteArray := prog_9_method_12_code
def yX7_kindOfToken : MethodName := ⟨RX7, "kindOfToken", "()I"⟩
abbrev cX7_tokenIs : ByteArray := prog_9_method_13_code
def yX7_tokenIs : MethodName := ⟨RX7, "tokenIs", "(Ljava/lang/String;)Z"⟩
abbrev cX7_wordOf : ByteArray := prog_9_method_14_code
def yX7_wordOf : MethodName := ⟨RX7, "wordOf", "(I)Ljava/lang/String;"⟩
abbrev cX7_formOf : ByteArray := prog_9_method_15_code
def yX7_formOf : MethodName := ⟨RX7, "formOf", "(I)Ljava/lang/String;"⟩
abbrev cX7_canStand : ByteArray := prog_9_method_16_code
def yX7_canStand : MethodName := ⟨RX7, "canStand", "(III)Z"⟩
def RX8 : String := "BlackGlass$Years"
def TX8 : u_T := fun k => match k with
  | 0 => ("BlackGlass$Years", "ground", "LBlackGlass$Ground;", true)
  | 1 => ("BlackGlass$Years", "finds", "LBlackGlass$Finds;", true)
  | 2 => ("BlackGlass$Years", "glass", "LBlackGlass$Glass;", true)
  | 3 => ("BlackGlass$Years", "own", "[I", true)
  | 4 => ("BlackGlass$Years", "bounds", "[I", true)
  | _ => ("BlackGlass$Years", "flows", "[I", true)
def tyX8 : Nat → FieldType := fun k => match k with
  | 0 => .object "BlackGlass$Ground"
  | 1 => .object "BlackGlass$Finds"
  | 2 => .object "BlackGlass$Glass"
  | 3 => .array .int
  | 4 => .array .int
  | _ => .array .int
theorem nmX8 : ∀ a, a < 6 → ∀ b, b < 6 → a ≠ b → (TX8 a).2.1 ≠ (TX8 b).2.1 := by decide +kernel
theorem tyX8_ok : ∀ k, k < 6 → parseFieldDescriptor (TX8 k).2.2.1 = some (tyX8 k) := by decide +kernel
abbrev cX8_init : ByteArray := prog_10_method_1_code
def yX8_init : MethodName := ⟨RX8, "<init>", "(LBlackGlass$Ground;LBlackGlass$Finds;LBlackGlass$Glass;)V"⟩
abbrev cX8_bound : ByteArray := prog_10_method_2_code
def yX8_bound : MethodName := ⟨RX8, "bound", "(II)I"⟩
abbrev cX8_settle : ByteArray := prog_10_method_3_code
def yX8_settle : MethodName := ⟨RX8, "settle", "()Z"⟩
abbrev cX8_boundByNumbers : ByteArray := prog_10_method_4_code
def yX8_boundByNumbers : MethodName := ⟨RX8, "boundByNumbers", "()V"⟩
abbrev cX8_settleWithout : ByteArray := prog_10_method_5_code
def yX8_settleWithout : MethodName := ⟨RX8, "settleWithout", "(I)Z"⟩
abbrev cX8_heirloomOf : ByteArray := prog_10_method_6_code
def yX8_heirloomOf : MethodName := ⟨RX8, "heirloomOf", "(I)I"⟩
abbrev cX8_setOwn : ByteArray := prog_10_method_7_code
def yX8_setOwn : MethodName := ⟨RX8, "setOwn", "(III)V"⟩
abbrev cX8_raise : ByteArray := prog_10_method_8_code
def yX8_raise : MethodName := ⟨RX8, "raise", "(III)V"⟩
abbrev cX8_lower : ByteArray := prog_10_method_9_code
def yX8_lower : MethodName := ⟨RX8, "lower", "(III)V"⟩
abbrev cX8_rimFirst : ByteArray := prog_10_method_10_code
def yX8_rimFirst : MethodName := ⟨RX8, "rimFirst", "(II)I"⟩
abbrev cX8_rimLast : ByteArray := prog_10_method_11_code
def yX8_rimLast : MethodName := ⟨RX8, "rimLast", "(II)I"⟩
abbrev cX8_above : ByteArray := prog_10_method_12_code
def yX8_above : MethodName := ⟨RX8, "above", "(II)I"⟩
abbrev cX8_raiseStruck : ByteArray := prog_10_method_13_code
def yX8_raiseStruck : MethodName := ⟨RX8, "raiseStruck", "(I)V"⟩
abbrev cX8_raiseLaid : ByteArray := prog_10_method_14_code
def yX8_raiseLaid : MethodName := ⟨RX8, "raiseLaid", "()V"⟩
abbrev cX8_lowerStruck : ByteArray := prog_10_method_15_code
def yX8_lowerStruck : MethodName := ⟨RX8, "lowerStruck", "(I)V"⟩
abbrev cX8_hasWay : ByteArray := prog_10_method_16_code
def yX8_hasWay : MethodName := ⟨RX8, "hasWay", "()Z"⟩
def RX9 : String := "BlackGlass"
def TX9 : u_T := fun k => match k with
  | 0 => ("BlackGlass", "text", "LBlackGlass$Text;", true)
  | 1 => ("BlackGlass", "ground", "LBlackGlass$Ground;", true)
  | 2 => ("BlackGlass", "finds", "LBlackGlass$Finds;", true)
  | 3 => ("BlackGlass", "glass", "LBlackGlass$Glass;", true)
  | 4 => ("BlackGlass", "years", "LBlackGlass$Years;", true)
  | 5 => ("BlackGlass", "rows", "LBlackGlass$Rows;", true)
  | 6 => ("BlackGlass", "roads", "LBlackGlass$Roads;", true)
  | 7 => ("BlackGlass", "shares", "LBlackGlass$Shares;", true)
  | _ => ("BlackGlass", "floors", "LBlackGlass$Floors;", true)
def tyX9 : Nat → FieldType := fun k => match k with
  | 0 => .object "BlackGlass$Text"
  | 1 => .object "BlackGlass$Ground"
  | 2 => .object "BlackGlass$Finds"
  | 3 => .object "BlackGlass$Glass"
  | 4 => .object "BlackGlass$Years"
  | 5 => .object "BlackGlass$Rows"
  | 6 => .object "BlackGlass$Roads"
  | 7 => .object "BlackGlass$Shares"
  | _ => .object "BlackGlass$Floors"
theorem nmX9 : ∀ a, a < 9 → ∀ b, b < 9 → a ≠ b → (TX9 a).2.1 ≠ (TX9 b).2.1 := by decide +kernel
theorem tyX9_ok : ∀ k, k < 9 → parseFieldDescriptor (TX9 k).2.2.1 = some (tyX9 k) := by decide +kernel
abbrev cX9_init : ByteArray := prog_1_method_1_code
def yX9_init : MethodName := ⟨RX9, "<init>", "()V"⟩
abbrev cX9_write : ByteArray := prog_1_method_2_code
def yX9_write : MethodName := ⟨RX9, "write", "(JI)I"⟩
abbrev cX9_erase : ByteArray := prog_1_method_3_code
def yX9_erase : MethodName := ⟨RX9, "erase", "()I"⟩
abbrev cX9_fault : ByteArray := prog_1_method_4_code
def yX9_fault : MethodName := ⟨RX9, "fault", "()I"⟩
abbrev cX9_land : ByteArray := prog_1_method_5_code
def yX9_land : MethodName := ⟨RX9, "land", "()I"⟩
abbrev cX9_place : ByteArray := prog_1_method_6_code
def yX9_place : MethodName := ⟨RX9, "place", "(II)I"⟩
abbrev cX9_flow : ByteArray := prog_1_method_7_code
def yX9_flow : MethodName := ⟨RX9, "flow", "(II)I"⟩
abbrev cX9_way : ByteArray := prog_1_method_8_code
def yX9_way : MethodName := ⟨RX9, "way", "(III)I"⟩
abbrev cX9_blade : ByteArray := prog_1_method_9_code
def yX9_blade : MethodName := ⟨RX9, "blade", "(IIIII)I"⟩
abbrev cX9_rim : ByteArray := prog_1_method_10_code
def yX9_rim : MethodName := ⟨RX9, "rim", "(III)I"⟩
abbrev cX9_measure : ByteArray := prog_1_method_11_code
def yX9_measure : MethodName := ⟨RX9, "measure", "(III)I"⟩
abbrev cX9_of : ByteArray := prog_1_method_12_code
def yX9_of : MethodName := ⟨RX9, "of", "(II)I"⟩
abbrev cX9_off : ByteArray := prog_1_method_13_code
def yX9_off : MethodName := ⟨RX9, "off", "(II)I"⟩
abbrev cX9_can : ByteArray := prog_1_method_14_code
def yX9_can : MethodName := ⟨RX9, "can", "(I)I"⟩
abbrev cX9_named : ByteArray := prog_1_method_15_code
def yX9_named : MethodName := ⟨RX9, "named", "(I)I"⟩
abbrev cX9_strike : ByteArray := prog_1_method_16_code
def yX9_strike : MethodName := ⟨RX9, "strike", "(II)I"⟩
abbrev cX9_undo : ByteArray := prog_1_method_17_code
def yX9_undo : MethodName := ⟨RX9, "undo", "(I)I"⟩
abbrev cX9_span : ByteArray := prog_1_method_18_code
def yX9_span : MethodName := ⟨RX9, "span", "(II)I"⟩
abbrev cX9_heirloom : ByteArray := prog_1_method_19_code
def yX9_heirloom : MethodName := ⟨RX9, "heirloom", "(I)I"⟩
abbrev cX9_from : ByteArray := prog_1_method_20_code
def yX9_from : MethodName := ⟨RX9, "from", "(I)I"⟩
abbrev cX9_chain : ByteArray := prog_1_method_21_code
def yX9_chain : MethodName := ⟨RX9, "chain", "(I)I"⟩
abbrev cX9_legs : ByteArray := prog_1_method_22_code
def yX9_legs : MethodName := ⟨RX9, "legs", "(IIIZI)I"⟩
abbrev cX9_reach : ByteArray := prog_1_method_23_code
def yX9_reach : MethodName := ⟨RX9, "reach", "(IIZI)I"⟩
abbrev cX9_boats : ByteArray := prog_1_method_24_code
def yX9_boats : MethodName := ⟨RX9, "boats", "()I"⟩
abbrev cX9_sea : ByteArray := prog_1_method_25_code
def yX9_sea : MethodName := ⟨RX9, "sea", "()I"⟩
abbrev cX9_next : ByteArray := prog_1_method_26_code
def yX9_next : MethodName := ⟨RX9, "next", "()I"⟩
abbrev cX9_counts : ByteArray := prog_1_method_27_code
def yX9_counts : MethodName := ⟨RX9, "counts", "(IIII)I"⟩
abbrev cX9_miss : ByteArray := prog_1_method_28_code
def yX9_miss : MethodName := ⟨RX9, "miss", "(III)I"⟩
abbrev cX9_law : ByteArray := prog_1_method_29_code
def yX9_law : MethodName := ⟨RX9, "law", "(II)I"⟩
abbrev cX9_dated : ByteArray := prog_1_method_30_code
def yX9_dated : MethodName := ⟨RX9, "dated", "(II)I"⟩
abbrev cX9_learnt : ByteArray := prog_1_method_31_code
def yX9_learnt : MethodName := ⟨RX9, "learnt", "(II)I"⟩
abbrev cX9_count : ByteArray := prog_1_method_32_code
def yX9_count : MethodName := ⟨RX9, "count", "(I)I"⟩
abbrev cX9_isPlace : ByteArray := prog_1_method_33_code
def yX9_isPlace : MethodName := ⟨RX9, "isPlace", "(I)Z"⟩
abbrev cX9_areMeasured : ByteArray := prog_1_method_34_code
def yX9_areMeasured : MethodName := ⟨RX9, "areMeasured", "(II)Z"⟩
abbrev cX9_numberAt : ByteArray := prog_1_method_35_code
def yX9_numberAt : MethodName := ⟨RX9, "numberAt", "(II)I"⟩
abbrev cX9_isWithin : ByteArray := prog_1_method_36_code
def yX9_isWithin : MethodName := ⟨RX9, "isWithin", "(III)Z"⟩
abbrev cX9_hasBit : ByteArray := prog_1_method_37_code
def yX9_hasBit : MethodName := ⟨RX9, "hasBit", "(II)Z"⟩
abbrev cX9_cut : ByteArray := prog_1_method_38_code
def yX9_cut : MethodName := ⟨RX9, "cut", "(II)I"⟩
abbrev cX9_lesser : ByteArray := prog_1_method_39_code
def yX9_lesser : MethodName := ⟨RX9, "lesser", "(II)I"⟩
def RX10 : String := "BlackGlassModel"
def TX10 : u_T := fun k => match k with
  | 0 => ("BlackGlassModel", "places", "[I", true)
  | 1 => ("BlackGlassModel", "ways", "[I", true)
  | 2 => ("BlackGlassModel", "flows", "[I", true)
  | 3 => ("BlackGlassModel", "told", "I", false)
  | 4 => ("BlackGlassModel", "near", "I", false)
  | 5 => ("BlackGlassModel", "far", "I", false)
  | 6 => ("BlackGlassModel", "bytes", "I", false)
  | 7 => ("BlackGlassModel", "text", "[I", true)
  | 8 => ("BlackGlassModel", "position", "I", false)
  | 9 => ("BlackGlassModel", "tokenAt", "I", false)
  | 10 => ("BlackGlassModel", "token", "J", false)
  | 11 => ("BlackGlassModel", "digits", "I", false)
  | 12 => ("BlackGlassModel", "number", "I", false)
  | 13 => ("BlackGlassModel", "faultAt", "I", false)
  | 14 => ("BlackGlassModel", "readMany", "I", false)
  | 15 => ("BlackGlassModel", "read", "[I", true)
  | 16 => ("BlackGlassModel", "blades", "I", false)
  | 17 => ("BlackGlassModel", "blade", "[I", true)
  | 18 => ("BlackGlassModel", "lowStruck", "[I", true)
  | 19 => ("BlackGlassModel", "highStruck", "[I", true)
  | 20 => ("BlackGlassModel", "lowAgain", "[I", true)
  | 21 => ("BlackGlassModel", "highAgain", "[I", true)
  | 22 => ("BlackGlassModel", "lowLaid", "[I", true)
  | 23 => ("BlackGlassModel", "highLaid", "[I", true)
  | 24 => ("BlackGlassModel", "fromBits", "[I", true)
  | 25 => ("BlackGlassModel", "longest", "[I", true)
  | 26 => ("BlackGlassModel", "legs", "[I", true)
  | 27 => ("BlackGlassModel", "miles", "[I", true)
  | 28 => ("BlackGlassModel", "many", "[I", true)
  | _ => ("BlackGlassModel", "all", "[I", true)
def tyX10 : Nat → FieldType := fun k => match k with
  | 0 => .array .int
  | 1 => .array .int
  | 2 => .array .int
  | 3 => .int
  | 4 => .int
  | 5 => .int
  | 6 => .int
  | 7 => .array .int
  | 8 => .int
  | 9 => .int
  | 10 => .long
  | 11 => .int
  | 12 => .int
  | 13 => .int
  | 14 => .int
  | 15 => .array .int
  | 16 => .int
  | 17 => .array .int
  | 18 => .array .int
  | 19 => .array .int
  | 20 => .array .int
  | 21 => .array .int
  | 22 => .array .int
  | 23 => .array .int
  | 24 => .array .int
  | 25 => .array .int
  | 26 => .array .int
  | 27 => .array .int
  | 28 => .array .int
  | _ => .array .int
theorem nmX10 : ∀ a, a < 30 → ∀ b, b < 30 → a ≠ b → (TX10 a).2.1 ≠ (TX10 b).2.1 := by decide +kernel
theorem tyX10_ok : ∀ k, k < 30 → parseFieldDescriptor (TX10 k).2.2.1 = some (tyX10 k) := by decide +kernel
abbrev cX10_init : ByteArray := prog_12_method_1_code
def yX10_init : MethodName := ⟨RX10, "<init>", "()V"⟩
abbrev cX10_in : ByteArray := prog_12_method_2_code
def yX10_in : MethodName := ⟨RX10, "in", "(III)Z"⟩
abbrev cX10_isPlace : ByteArray := prog_12_method_3_code
def yX10_isPlace : MethodName := ⟨RX10, "isPlace", "(I)Z"⟩
abbrev cX10_isFlow : ByteArray := prog_12_method_4_code
def yX10_isFlow : MethodName := ⟨RX10, "isFlow", "(I)Z"⟩
abbrev cX10_isBlade : ByteArray := prog_12_method_5_code
def yX10_isBlade : MethodName := ⟨RX10, "isBlade", "(I)Z"⟩
abbrev cX10_at : ByteArray := prog_12_method_6_code
def yX10_at : MethodName := ⟨RX10, "at", "(II)I"⟩
abbrev cX10_write : ByteArray := prog_12_method_7_code
def yX10_write : MethodName := ⟨RX10, "write", "(JI)I"⟩
abbrev cX10_erase : ByteArray := prog_12_method_8_code
def yX10_erase : MethodName := ⟨RX10, "erase", "()I"⟩
abbrev cX10_nextToken : ByteArray := prog_12_method_9_code
def yX10_nextToken : MethodName := ⟨RX10, "nextToken", "()V"⟩
abbrev cX10_fails : ByteArray := prog_12_method_10_code
def yX10_fails : MethodName := ⟨RX10, "fails", "()Z"⟩
abbrev cX10_isNumber : ByteArray := prog_12_method_11_code
def yX10_isNumber : MethodName := ⟨RX10, "isNumber", "(III)Z"⟩
abbrev cX10_isWay : ByteArray := prog_12_method_12_code
def yX10_isWay : MethodName := ⟨RX10, "isWay", "(I)Z"⟩
abbrev cX10_isLine : ByteArray := prog_12_method_13_code
def yX10_isLine : MethodName := ⟨RX10, "isLine", "(I)Z"⟩
abbrev cX10_isRead : ByteArray := prog_12_method_14_code
def yX10_isRead : MethodName := ⟨RX10, "isRead", "()Z"⟩
abbrev cX10_fault : ByteArray := prog_12_method_15_code
def yX10_fault : MethodName := ⟨RX10, "fault", "()I"⟩
abbrev cX10_doLine : ByteArray := prog_12_method_16_code
def yX10_doLine : MethodName := ⟨RX10, "doLine", "(I)V"⟩
abbrev cX10_land : ByteArray := prog_12_method_17_code
def yX10_land : MethodName := ⟨RX10, "land", "()I"⟩
abbrev cX10_place : ByteArray := prog_12_method_18_code
def yX10_place : MethodName := ⟨RX10, "place", "(II)I"⟩
abbrev cX10_flow : ByteArray := prog_12_method_19_code
def yX10_flow : MethodName := ⟨RX10, "flow", "(II)I"⟩
abbrev cX10_way : ByteArray := prog_12_method_20_code
def yX10_way : MethodName := ⟨RX10, "way", "(III)I"⟩
abbrev cX10_areNumbers : ByteArray := prog_12_method_21_code
def yX10_areNumbers : MethodName := ⟨RX10, "areNumbers", "(I)Z"⟩
abbrev cX10_layNumbers : ByteArray := prog_12_method_22_code
def yX10_layNumbers : MethodName := ⟨RX10, "layNumbers", "(III)V"⟩
abbrev cX10_blade : ByteArray := prog_12_method_23_code
def yX10_blade : MethodName := ⟨RX10, "blade", "(IIIII)I"⟩
abbrev cX10_rim : ByteArray := prog_12_method_24_code
def yX10_rim : MethodName := ⟨RX10, "rim", "(III)I"⟩
abbrev cX10_measure : ByteArray := prog_12_method_25_code
def yX10_measure : MethodName := ⟨RX10, "measure", "(III)I"⟩
abbrev cX10_of : ByteArray := prog_12_method_26_code
def yX10_of : MethodName := ⟨RX10, "of", "(II)I"⟩
abbrev cX10_offOf : ByteArray := prog_12_method_27_code
def yX10_offOf : MethodName := ⟨RX10, "offOf", "(II)I"⟩
abbrev cX10_off : ByteArray := prog_12_method_28_code
def yX10_off : MethodName := ⟨RX10, "off", "(II)I"⟩
abbrev cX10_canBe : ByteArray := prog_12_method_29_code
def yX10_canBe : MethodName := ⟨RX10, "canBe", "(I)I"⟩
abbrev cX10_can : ByteArray := prog_12_method_30_code
def yX10_can : MethodName := ⟨RX10, "can", "(I)I"⟩
abbrev cX10_bits : ByteArray := prog_12_method_31_code
def yX10_bits : MethodName := ⟨RX10, "bits", "(I)I"⟩
abbrev cX10_named : ByteArray := prog_12_method_32_code
def yX10_named : MethodName := ⟨RX10, "named", "(I)I"⟩
abbrev cX10_isFrom : ByteArray := prog_12_method_33_code
def yX10_isFrom : MethodName := ⟨RX10, "isFrom", "(II)Z"⟩
abbrev cX10_strike : ByteArray := prog_12_method_34_code
def yX10_strike : MethodName := ⟨RX10, "strike", "(II)I"⟩
abbrev cX10_undo : ByteArray := prog_12_method_35_code
def yX10_undo : MethodName := ⟨RX10, "undo", "(I)I"⟩
abbrev cX10_ago : ByteArray := prog_12_method_36_code
def yX10_ago : MethodName := ⟨RX10, "ago", "(II)I"⟩
abbrev cX10_warmthOf : ByteArray := prog_12_method_37_code
def yX10_warmthOf : MethodName := ⟨RX10, "warmthOf", "(I)I"⟩
abbrev cX10_isReused : ByteArray := prog_12_method_38_code
def yX10_isReused : MethodName := ⟨RX10, "isReused", "(I)Z"⟩
abbrev cX10_begin : ByteArray := prog_12_method_39_code
def yX10_begin : MethodName := ⟨RX10, "begin", "(I)V"⟩
abbrev cX10_greater : ByteArray := prog_12_method_40_code
def yX10_greater : MethodName := ⟨RX10, "greater", "(II)I"⟩
abbrev cX10_lesser : ByteArray := prog_12_method_41_code
def yX10_lesser : MethodName := ⟨RX10, "lesser", "(II)I"⟩
abbrev cX10_isBelow : ByteArray := prog_12_method_42_code
def yX10_isBelow : MethodName := ⟨RX10, "isBelow", "(II)Z"⟩
abbrev cX10_goRound : ByteArray := prog_12_method_43_code
def yX10_goRound : MethodName := ⟨RX10, "goRound", "()V"⟩
abbrev cX10_areYears : ByteArray := prog_12_method_44_code
def yX10_areYears : MethodName := ⟨RX10, "areYears", "()Z"⟩
abbrev cX10_span : ByteArray := prog_12_method_45_code
def yX10_span : MethodName := ⟨RX10, "span", "(II)I"⟩
abbrev cX10_heirloom : ByteArray := prog_12_method_46_code
def yX10_heirloom : MethodName := ⟨RX10, "heirloom", "(I)I"⟩
abbrev cX10_mayBeFrom : ByteArray := prog_12_method_47_code
def yX10_mayBeFrom : MethodName := ⟨RX10, "mayBeFrom", "(I)I"⟩
abbrev cX10_from : ByteArray := prog_12_method_48_code
def yX10_from : MethodName := ⟨RX10, "from", "(I)I"⟩
abbrev cX10_chain : ByteArray := prog_12_method_49_code
def yX10_chain : MethodName := ⟨RX10, "chain", "(I)I"⟩
abbrev cX10_isLive : ByteArray := prog_12_method_50_code
def yX10_isLive : MethodName := ⟨RX10, "isLive", "(II)Z"⟩
abbrev cX10_layOut : ByteArray := prog_12_method_51_code
def yX10_layOut : MethodName := ⟨RX10, "layOut", "(IIZ)V"⟩
abbrev cX10_legs : ByteArray := prog_12_method_52_code
def yX10_legs : MethodName := ⟨RX10, "legs", "(IIIZI)I"⟩
abbrev cX10_comesBy : ByteArray := prog_12_method_53_code
def yX10_comesBy : MethodName := ⟨RX10, "comesBy", "(IIZI)I"⟩
abbrev cX10_reach : ByteArray := prog_12_method_54_code
def yX10_reach : MethodName := ⟨RX10, "reach", "(IIZI)I"⟩
abbrev cX10_byBoat : ByteArray := prog_12_method_55_code
def yX10_byBoat : MethodName := ⟨RX10, "byBoat", "()I"⟩
abbrev cX10_boats : ByteArray := prog_12_method_56_code
def yX10_boats : MethodName := ⟨RX10, "boats", "()I"⟩
abbrev cX10_sea : ByteArray := prog_12_method_57_code
def yX10_sea : MethodName := ⟨RX10, "sea", "()I"⟩
abbrev cX10_next : ByteArray := prog_12_method_58_code
def yX10_next : MethodName := ⟨RX10, "next", "()I"⟩
abbrev cX10_counts : ByteArray := prog_12_method_59_code
def yX10_counts : MethodName := ⟨RX10, "counts", "(IIII)I"⟩
abbrev cX10_shareBy : ByteArray := prog_12_method_60_code
def yX10_shareBy : MethodName := ⟨RX10, "shareBy", "(III)I"⟩
abbrev cX10_missBy : ByteArray := prog_12_method_61_code
def yX10_missBy : MethodName := ⟨RX10, "missBy", "(III)I"⟩
abbrev cX10_miss : ByteArray := prog_12_method_62_code
def yX10_miss : MethodName := ⟨RX10, "miss", "(III)I"⟩
abbrev cX10_law : ByteArray := prog_12_method_63_code
def yX10_law : MethodName := ⟨RX10, "law", "(II)I"⟩
abbrev cX10_dated : ByteArray := prog_12_method_64_code
def yX10_dated : MethodName := ⟨RX10, "dated", "(II)I"⟩
abbrev cX10_learnt : ByteArray := prog_12_method_65_code
def yX10_learnt : MethodName := ⟨RX10, "learnt", "(II)I"⟩
abbrev cX10_count : ByteArray := prog_12_method_66_code
def yX10_count : MethodName := ⟨RX10, "count", "(I)I"⟩
def RJ6 : String := "java/lang/Integer"
def TJ6 : u_T := fun k => match k with
  | _ => ("", "", "", false)
def tyJ6 : Nat → FieldType := fun k => match k with
  | _ => .int
abbrev cJ6_bitCount_0f7a4 : ByteArray := prog_13_method_49_code
def yJ6_bitCount_0f7a4 : MethodName := ⟨RJ6, "bitCount", "(I)I"⟩
def RJ9 : String := "java/lang/Math"
def TJ9 : u_T := fun k => match k with
  | _ => ("", "", "", false)
def tyJ9 : Nat → FieldType := fun k => match k with
  | _ => .int
abbrev cJ9_abs_0f7a4 : ByteArray := prog_14_method_59_code
def yJ9_abs_0f7a4 : MethodName := ⟨RJ9, "abs", "(I)I"⟩
abbrev cJ9_max_7cf53 : ByteArray := prog_14_method_65_code
def yJ9_max_7cf53 : MethodName := ⟨RJ9, "max", "(II)I"⟩
abbrev cJ9_min_7cf53 : ByteArray := prog_14_method_69_code
def yJ9_min_7cf53 : MethodName := ⟨RJ9, "min", "(II)I"⟩
def RJ0 : String := "java/lang/String"
def TJ0 : u_T := fun k => match k with
  | _ => ("", "", "", false)
def tyJ0 : Nat → FieldType := fun k => match k with
  | _ => .int
abbrev cJ0_length_8abf5 : ByteArray := prog_15_method_54_code
def yJ0_length_8abf5 : MethodName := ⟨RJ0, "length", "()I"⟩
abbrev cJ0_charAt_5068e : ByteArray := prog_15_method_56_code
def yJ0_charAt_5068e : MethodName := ⟨RJ0, "charAt", "(I)C"⟩
abbrev cJ0_coder_7d493 : ByteArray := prog_15_method_152_code
def yJ0_coder_7d493 : MethodName := ⟨RJ0, "coder", "()B"⟩
abbrev cJ0_isLatin1_aae02 : ByteArray := prog_15_method_154_code
def yJ0_isLatin1_aae02 : MethodName := ⟨RJ0, "isLatin1", "()Z"⟩
abbrev cJ0_checkIndex_df160 : ByteArray := prog_15_method_155_code
def yJ0_checkIndex_df160 : MethodName := ⟨RJ0, "checkIndex", "(II)V"⟩
def RJ1 : String := "java/lang/StringLatin1"
def TJ1 : u_T := fun k => match k with
  | _ => ("", "", "", false)
def tyJ1 : Nat → FieldType := fun k => match k with
  | _ => .int
abbrev cJ1_charAt_3b067 : ByteArray := prog_16_method_2_code
def yJ1_charAt_3b067 : MethodName := ⟨RJ1, "charAt", "([BI)C"⟩
def RJ2 : String := "java/lang/StringUTF16"
def TJ2 : u_T := fun k => match k with
  | _ => ("", "", "", false)
def tyJ2 : Nat → FieldType := fun k => match k with
  | _ => .int
abbrev cJ2_getChar_3b067 : ByteArray := prog_17_method_5_code
def yJ2_getChar_3b067 : MethodName := ⟨RJ2, "getChar", "([BI)C"⟩
abbrev cJ2_length_9d52b : ByteArray := prog_17_method_6_code
def yJ2_length_9d52b : MethodName := ⟨RJ2, "length", "([B)I"⟩
abbrev cJ2_charAt_3b067 : ByteArray := prog_17_method_83_code
def yJ2_charAt_3b067 : MethodName := ⟨RJ2, "charAt", "([BI)C"⟩
abbrev cJ2_checkIndex_2214a : ByteArray := prog_17_method_91_code
def yJ2_checkIndex_2214a : MethodName := ⟨RJ2, "checkIndex", "(I[B)V"⟩
def RJ10 : String := "java/lang/System"
def TJ10 : u_T := fun k => match k with
  | _ => ("", "", "", false)
def tyJ10 : Nat → FieldType := fun k => match k with
  | _ => .int
def RJ3 : String := "jdk/internal/util/Preconditions"
def TJ3 : u_T := fun k => match k with
  | _ => ("", "", "", false)
def tyJ3 : Nat → FieldType := fun k => match k with
  | _ => .int
abbrev cJ3_checkIndex_8e157 : ByteArray := prog_19_method_11_code
def yJ3_checkIndex_8e157 : MethodName := ⟨RJ3, "checkIndex", "(IILjava/util/function/BiFunction;)I"⟩
def RL : String := "BlackGlassLaw"
abbrev cL_law : ByteArray := code
def yL_law : MethodName := ⟨RL, "law", "([I)Z"⟩
abbrev zcl : List vw_C := [(RX0, TX0, 10), (RX1, TX1, 1), (RX2, TX2, 2), (RX3, TX3, 14), (RX4, TX4, 4), (RX5, TX5, 6), (RX6, TX6, 7), (RX7, TX7, 6), (RX8, TX8, 6), (RX9, TX9, 9), (RX10, TX10, 30)]
theorem zT_ins (ws : List Cond) (ps : List Nat) (hp : ws = ps.filterMap (fun i => lw_tbl[i]?)) (h : ws.all goodWord = true) : ∀ w ∈ ws, w ∈ zT := by
  intro w hw
  have h1 := List.all_eq_true.mp h w hw
  rw [hp] at hw
  obtain ⟨i, -, hi⟩ := List.mem_filterMap.mp hw
  exact zT_in hi h1
set_option maxRecDepth 20000 in
theorem inX0 : ∀ w ∈ u_ws RX0 TX0 10, w ∈ zT := zT_ins _ [225, 227, 229, 231, 233, 235, 237, 239, 241, 243] (by decide +kernel) (by decide +kernel)
set_option maxRecDepth 20000 in
theorem inX1 : ∀ w ∈ u_ws RX1 TX1 1, w ∈ zT := zT_ins _ [367] (by decide +kernel) (by decide +kernel)
set_option maxRecDepth 20000 in
theorem inX2 : ∀ w ∈ u_ws RX2 TX2 2, w ∈ zT := zT_ins _ [254, 256] (by decide +kernel) (by decide +kernel)
set_option maxRecDepth 20000 in
theorem inX3 : ∀ w ∈ u_ws RX3 TX3 14, w ∈ zT := zT_ins _ [152, 154, 156, 158, 160, 162, 164, 166, 168, 170, 172, 174, 176, 178] (by decide +kernel) (by decide +kernel)
set_option maxRecDepth 20000 in
theorem inX4 : ∀ w ∈ u_ws RX4 TX4 4, w ∈ zT := zT_ins _ [323, 325, 327, 329] (by decide +kernel) (by decide +kernel)
set_option maxRecDepth 20000 in
theorem inX5 : ∀ w ∈ u_ws RX5 TX5 6, w ∈ zT := zT_ins _ [298, 300, 302, 304, 306, 308] (by decide +kernel) (by decide +kernel)
set_option maxRecDepth 20000 in
theorem inX6 : ∀ w ∈ u_ws RX6 TX6 7, w ∈ zT := zT_ins _ [345, 347, 349, 351, 353, 355, 357] (by decide +kernel) (by decide +kernel)
set_option maxRecDepth 20000 in
theorem inX7 : ∀ w ∈ u_ws RX7 TX7 6, w ∈ zT := zT_ins _ [94, 96, 98, 100, 102, 104] (by decide +kernel) (by decide +kernel)
set_option maxRecDepth 20000 in
theorem inX8 : ∀ w ∈ u_ws RX8 TX8 6, w ∈ zT := zT_ins _ [273, 275, 277, 279, 281, 283] (by decide +kernel) (by decide +kernel)
set_option maxRecDepth 20000 in
theorem inX9 : ∀ w ∈ u_ws RX9 TX9 9, w ∈ zT := zT_ins _ [379, 381, 383, 385, 387, 389, 391, 393, 395] (by decide +kernel) (by decide +kernel)
set_option maxRecDepth 20000 in
theorem inX10 : ∀ w ∈ u_ws RX10 TX10 30, w ∈ zT := zT_ins _ [991, 993, 995, 997, 999, 1001, 1003, 1005, 1007, 1009, 1011, 1013, 1015, 1017, 1019, 1021, 1023, 1025, 1027, 1029, 1031, 1033, 1035, 1037, 1039, 1041, 1043, 1045, 1047, 1049] (by decide +kernel) (by decide +kernel)
theorem zcl_in : ∀ (ci : Nat) (q : vw_C), zcl[ci]? = some q → ∀ w ∈ u_ws q.1 q.2.1 q.2.2, w ∈ zT := by
  intro ci q h
  match ci, h with
  | 0, h => cases h; exact inX0
  | 1, h => cases h; exact inX1
  | 2, h => cases h; exact inX2
  | 3, h => cases h; exact inX3
  | 4, h => cases h; exact inX4
  | 5, h => cases h; exact inX5
  | 6, h => cases h; exact inX6
  | 7, h => cases h; exact inX7
  | 8, h => cases h; exact inX8
  | 9, h => cases h; exact inX9
  | 10, h => cases h; exact inX10
  | k + 11, h => simp [zcl] at h
theorem zcl_nm : ∀ (ci : Nat) (q : vw_C), zcl[ci]? = some q → ∀ a, a < q.2.2 → ∀ b, b < q.2.2 → a ≠ b → (q.2.1 a).2.1 ≠ (q.2.1 b).2.1 := by
  intro ci q h
  match ci, h with
  | 0, h => cases h; exact nmX0
  | 1, h => cases h; exact nmX1
  | 2, h => cases h; exact nmX2
  | 3, h => cases h; exact nmX3
  | 4, h => cases h; exact nmX4
  | 5, h => cases h; exact nmX5
  | 6, h => cases h; exact nmX6
  | 7, h => cases h; exact nmX7
  | 8, h => cases h; exact nmX8
  | 9, h => cases h; exact nmX9
  | 10, h => cases h; exact nmX10
  | k + 11, h => simp [zcl] at h
theorem zcl_ty : ∀ (ci : Nat) (q : vw_C), zcl[ci]? = some q → ∃ ty : Nat → FieldType, ∀ k, k < q.2.2 → parseFieldDescriptor (q.2.1 k).2.2.1 = some (ty k) := by
  intro ci q h
  match ci, h with
  | 0, h => cases h; exact ⟨_, tyX0_ok⟩
  | 1, h => cases h; exact ⟨_, tyX1_ok⟩
  | 2, h => cases h; exact ⟨_, tyX2_ok⟩
  | 3, h => cases h; exact ⟨_, tyX3_ok⟩
  | 4, h => cases h; exact ⟨_, tyX4_ok⟩
  | 5, h => cases h; exact ⟨_, tyX5_ok⟩
  | 6, h => cases h; exact ⟨_, tyX6_ok⟩
  | 7, h => cases h; exact ⟨_, tyX7_ok⟩
  | 8, h => cases h; exact ⟨_, tyX8_ok⟩
  | 9, h => cases h; exact ⟨_, tyX9_ok⟩
  | 10, h => cases h; exact ⟨_, tyX10_ok⟩
  | k + 11, h => simp [zcl] at h
end
section
theorem dX0_init_0 : decode cX0_init 0 = .ok (.aload_n 0, 1) := by decide +kernel
theorem dX0_init_1 : decode cX0_init 1 = .ok (.invokespecial 3, 3) := by decide +kernel
theorem dX0_init_4 : decode cX0_init 4 = .ok (.aload_n 0, 1) := by decide +kernel
theorem dX0_init_5 : decode cX0_init 5 = .ok (.bipush 12, 2) := by decide +kernel
theorem dX0_init_7 : decode cX0_init 7 = .ok (.newarray .int, 2) := by decide +kernel
theorem dX0_init_9 : decode cX0_init 9 = .ok (.putfield 9, 3) := by decide +kernel
theorem dX0_init_12 : decode cX0_init 12 = .ok (.aload_n 0, 1) := by decide +kernel
theorem dX0_init_13 : decode cX0_init 13 = .ok (.bipush 36, 2) := by decide +kernel
theorem dX0_init_15 : decode cX0_init 15 = .ok (.newarray .int, 2) := by decide +kernel
theorem dX0_init_17 : decode cX0_init 17 = .ok (.putfield 15, 3) := by decide +kernel
theorem dX0_init_20 : decode cX0_init 20 = .ok (.aload_n 0, 1) := by decide +kernel
theorem dX0_init_21 : decode cX0_init 21 = .ok (.bipush 12, 2) := by decide +kernel
theorem dX0_init_23 : decode cX0_init 23 = .ok (.newarray .int, 2) := by decide +kernel
theorem dX0_init_25 : decode cX0_init 25 = .ok (.putfield 18, 3) := by decide +kernel
theorem dX0_init_28 : decode cX0_init 28 = .ok (.aload_n 0, 1) := by decide +kernel
theorem dX0_init_29 : decode cX0_init 29 = .ok (.bipush 12, 2) := by decide +kernel
theorem dX0_init_31 : decode cX0_init 31 = .ok (.newarray .int, 2) := by decide +kernel
theorem dX0_init_33 : decode cX0_init 33 = .ok (.putfield 21, 3) := by decide +kernel
theorem dX0_init_36 : decode cX0_init 36 = .ok (.aload_n 0, 1) := by decide +kernel
theorem dX0_init_37 : decode cX0_init 37 = .ok (.bipush 12, 2) := by decide +kernel
theorem dX0_init_39 : decode cX0_init 39 = .ok (.newarray .int, 2) := by decide +kernel
theorem dX0_init_41 : decode cX0_init 41 = .ok (.putfield 24, 3) := by decide +kernel
theorem dX0_init_44 : decode cX0_init 44 = .ok (.aload_n 0, 1) := by decide +kernel
theorem dX0_init_45 : decode cX0_init 45 = .ok (.bipush 12, 2) := by decide +kernel
theorem dX0_init_47 : decode cX0_init 47 = .ok (.newarray .int, 2) := by decide +kernel
theorem dX0_init_49 : decode cX0_init 49 = .ok (.putfield 27, 3) := by decide +kernel
theorem dX0_init_52 : decode cX0_init 52 = .ok (.aload_n 0, 1) := by decide +kernel
theorem dX0_init_53 : decode cX0_init 53 = .ok (.bipush 12, 2) := by decide +kernel
theorem dX0_init_55 : decode cX0_init 55 = .ok (.newarray .int, 2) := by decide +kernel
theorem dX0_init_57 : decode cX0_init 57 = .ok (.putfield 30, 3) := by decide +kernel
theorem dX0_init_60 : decode cX0_init 60 = .ok (.aload_n 0, 1) := by decide +kernel
theorem dX0_init_61 : decode cX0_init 61 = .ok (.bipush 12, 2) := by decide +kernel
theorem dX0_init_63 : decode cX0_init 63 = .ok (.newarray .int, 2) := by decide +kernel
theorem dX0_init_65 : decode cX0_init 65 = .ok (.putfield 33, 3) := by decide +kernel
theorem dX0_init_68 : decode cX0_init 68 = .ok (.aload_n 0, 1) := by decide +kernel
theorem dX0_init_69 : decode cX0_init 69 = .ok (.bipush 12, 2) := by decide +kernel
theorem dX0_init_71 : decode cX0_init 71 = .ok (.newarray .int, 2) := by decide +kernel
theorem dX0_init_73 : decode cX0_init 73 = .ok (.putfield 36, 3) := by decide +kernel
theorem dX0_init_76 : decode cX0_init 76 = .ok (.return_, 1) := by decide +kernel
theorem dX0_has_0 : decode cX0_has 0 = .ok (.iload_n 1, 1) := by decide +kernel
theorem dX0_has_1 : decode cX0_has 1 = .ok (.iconst 0, 1) := by decide +kernel
theorem dX0_has_2 : decode cX0_has 2 = .ok (.aload_n 0, 1) := by decide +kernel
theorem dX0_has_3 : decode cX0_has 3 = .ok (.getfield 39, 3) := by decide +kernel
theorem dX0_has_6 : decode cX0_has 6 = .ok (.iconst 1, 1) := by decide +kernel
theorem dX0_has_7 : decode cX0_has 7 = .ok (.isub, 1) := by decide +kernel
theorem dX0_has_8 : decode cX0_has 8 = .ok (.invokestatic 43, 3) := by decide +kernel
theorem dX0_has_11 : decode cX0_has 11 = .ok (.ireturn, 1) := by decide +kernel
theorem dX0_add_0 : decode cX0_add 0 = .ok (.aload_n 0, 1) := by decide +kernel
theorem dX0_add_1 : decode cX0_add 1 = .ok (.getfield 39, 3) := by decide +kernel
theorem dX0_add_4 : decode cX0_add 4 = .ok (.istore 4, 2) := by decide +kernel
theorem dX0_add_6 : decode cX0_add 6 = .ok (.aload_n 0, 1) := by decide +kernel
theorem dX0_add_7 : decode cX0_add 7 = .ok (.getfield 9, 3) := by decide +kernel
theorem dX0_add_10 : decode cX0_add 10 = .ok (.iload 4, 2) := by decide +kernel
theorem dX0_add_12 : decode cX0_add 12 = .ok (.iload_n 1, 1) := by decide +kernel
theorem dX0_add_13 : decode cX0_add 13 = .ok (.iastore, 1) := by decide +kernel
theorem dX0_add_14 : decode cX0_add 14 = .ok (.aload_n 0, 1) := by decide +kernel
theorem dX0_add_15 : decode cX0_add 15 = .ok (.getfield 21, 3) := by decide +kernel
theorem dX0_add_18 : decode cX0_add 18 = .ok (.iload 4, 2) := by decide +kernel
theorem dX0_add_20 : decode cX0_add 20 = .ok (.iload_n 2, 1) := by decide +kernel
theorem dX0_add_21 : decode cX0_add 21 = .ok (.iastore, 1) := by decide +kernel
theorem dX0_add_22 : decode cX0_add 22 = .ok (.aload_n 0, 1) := by decide +kernel
theorem dX0_add_23 : decode cX0_add 23 = .ok (.getfield 24, 3) := by decide +kernel
theorem dX0_add_26 : decode cX0_add 26 = .ok (.iload 4, 2) := by decide +kernel
theorem dX0_add_28 : decode cX0_add 28 = .ok (.iload_n 3, 1) := by decide +kernel
theorem dX0_add_29 : decode cX0_add 29 = .ok (.iastore, 1) := by decide +kernel
theorem dX0_add_30 : decode cX0_add 30 = .ok (.aload_n 0, 1) := by decide +kernel
theorem dX0_add_31 : decode cX0_add 31 = .ok (.getfield 33, 3) := by decide +kernel
theorem dX0_add_34 : decode cX0_add 34 = .ok (.iload 4, 2) := by decide +kernel
theorem dX0_add_36 : decode cX0_add 36 = .ok (.iconst (-1), 1) := by decide +kernel
theorem dX0_add_37 : decode cX0_add 37 = .ok (.iastore, 1) := by decide +kernel
theorem dX0_add_38 : decode cX0_add 38 = .ok (.aload_n 0, 1) := by decide +kernel
theorem dX0_add_39 : decode cX0_add 39 = .ok (.getfield 36, 3) := by decide +kernel
theorem dX0_add_42 : decode cX0_add 42 = .ok (.iload 4, 2) := by decide +kernel
theorem dX0_add_44 : decode cX0_add 44 = .ok (.iconst (-1), 1) := by decide +kernel
theorem dX0_add_45 : decode cX0_add 45 = .ok (.iastore, 1) := by decide +kernel
theorem dX0_add_46 : decode cX0_add 46 = .ok (.aload_n 0, 1) := by decide +kernel
theorem dX0_add_47 : decode cX0_add 47 = .ok (.dup, 1) := by decide +kernel
theorem dX0_add_48 : decode cX0_add 48 = .ok (.getfield 39, 3) := by decide +kernel
theorem dX0_add_51 : decode cX0_add 51 = .ok (.iconst 1, 1) := by decide +kernel
theorem dX0_add_52 : decode cX0_add 52 = .ok (.iadd, 1) := by decide +kernel
theorem dX0_add_53 : decode cX0_add 53 = .ok (.putfield 39, 3) := by decide +kernel
theorem dX0_add_56 : decode cX0_add 56 = .ok (.iload 4, 2) := by decide +kernel
theorem dX0_add_58 : decode cX0_add 58 = .ok (.ireturn, 1) := by decide +kernel
theorem dX0_setMeasured_0 : decode cX0_setMeasured 0 = .ok (.iconst 0, 1) := by decide +kernel
theorem dX0_setMeasured_1 : decode cX0_setMeasured 1 = .ok (.istore 4, 2) := by decide +kernel
theorem dX0_setMeasured_3 : decode cX0_setMeasured 3 = .ok (.iload 4, 2) := by decide +kernel
theorem dX0_setMeasured_5 : decode cX0_setMeasured 5 = .ok (.iconst 3, 1) := by decide +kernel
theorem dX0_setMeasured_6 : decode cX0_setMeasured 6 = .ok (.if_icmp .ge 26, 3) := by decide +kernel
theorem dX0_setMeasured_9 : decode cX0_setMeasured 9 = .ok (.aload_n 0, 1) := by decide +kernel
theorem dX0_setMeasured_10 : decode cX0_setMeasured 10 = .ok (.getfield 15, 3) := by decide +kernel
theorem dX0_setMeasured_13 : decode cX0_setMeasured 13 = .ok (.iload_n 1, 1) := by decide +kernel
theorem dX0_setMeasured_14 : decode cX0_setMeasured 14 = .ok (.iconst 3, 1) := by decide +kernel
theorem dX0_setMeasured_15 : decode cX0_setMeasured 15 = .ok (.imul, 1) := by decide +kernel
theorem dX0_setMeasured_16 : decode cX0_setMeasured 16 = .ok (.iload 4, 2) := by decide +kernel
theorem dX0_setMeasured_18 : decode cX0_setMeasured 18 = .ok (.iadd, 1) := by decide +kernel
theorem dX0_setMeasured_19 : decode cX0_setMeasured 19 = .ok (.iload_n 2, 1) := by decide +kernel
theorem dX0_setMeasured_20 : decode cX0_setMeasured 20 = .ok (.iload 4, 2) := by decide +kernel
theorem dX0_setMeasured_22 : decode cX0_setMeasured 22 = .ok (.invokestatic 47, 3) := by decide +kernel
theorem dX0_setMeasured_25 : decode cX0_setMeasured 25 = .ok (.iastore, 1) := by decide +kernel
theorem dX0_setMeasured_26 : decode cX0_setMeasured 26 = .ok (.iinc 4 1, 3) := by decide +kernel
theorem dX0_setMeasured_29 : decode cX0_setMeasured 29 = .ok (.goto (-26), 3) := by decide +kernel
theorem dX0_setMeasured_32 : decode cX0_setMeasured 32 = .ok (.aload_n 0, 1) := by decide +kernel
theorem dX0_setMeasured_33 : decode cX0_setMeasured 33 = .ok (.getfield 18, 3) := by decide +kernel
theorem dX0_setMeasured_36 : decode cX0_setMeasured 36 = .ok (.iload_n 1, 1) := by decide +kernel
theorem dX0_setMeasured_37 : decode cX0_setMeasured 37 = .ok (.iload_n 3, 1) := by decide +kernel
theorem dX0_setMeasured_38 : decode cX0_setMeasured 38 = .ok (.iastore, 1) := by decide +kernel
theorem dX0_setMeasured_39 : decode cX0_setMeasured 39 = .ok (.return_, 1) := by decide +kernel
theorem dX0_isReused_0 : decode cX0_isReused 0 = .ok (.aload_n 0, 1) := by decide +kernel
theorem dX0_isReused_1 : decode cX0_isReused 1 = .ok (.getfield 30, 3) := by decide +kernel
theorem dX0_isReused_4 : decode cX0_isReused 4 = .ok (.iload_n 1, 1) := by decide +kernel
theorem dX0_isReused_5 : decode cX0_isReused 5 = .ok (.iaload, 1) := by decide +kernel
theorem dX0_isReused_6 : decode cX0_isReused 6 = .ok (.ifCond .le 7, 3) := by decide +kernel
theorem dX0_isReused_9 : decode cX0_isReused 9 = .ok (.iconst 1, 1) := by decide +kernel
theorem dX0_isReused_10 : decode cX0_isReused 10 = .ok (.goto 4, 3) := by decide +kernel
theorem dX0_isReused_13 : decode cX0_isReused 13 = .ok (.iconst 0, 1) := by decide +kernel
theorem dX0_isReused_14 : decode cX0_isReused 14 = .ok (.ireturn, 1) := by decide +kernel
theorem dX0_comesFrom_0 : decode cX0_comesFrom 0 = .ok (.aload_n 0, 1) := by decide +kernel
theorem dX0_comesFrom_1 : decode cX0_comesFrom 1 = .ok (.getfield 33, 3) := by decide +kernel
theorem dX0_comesFrom_4 : decode cX0_comesFrom 4 = .ok (.iload_n 1, 1) := by decide +kernel
theorem dX0_comesFrom_5 : decode cX0_comesFrom 5 = .ok (.iaload, 1) := by decide +kernel
theorem dX0_comesFrom_6 : decode cX0_comesFrom 6 = .ok (.istore_n 3, 1) := by decide +kernel
theorem dX0_comesFrom_7 : decode cX0_comesFrom 7 = .ok (.iconst 0, 1) := by decide +kernel
theorem dX0_comesFrom_8 : decode cX0_comesFrom 8 = .ok (.istore 4, 2) := by decide +kernel
theorem dX0_comesFrom_10 : decode cX0_comesFrom 10 = .ok (.iload_n 3, 1) := by decide +kernel
theorem dX0_comesFrom_11 : decode cX0_comesFrom 11 = .ok (.iconst (-1), 1) := by decide +kernel
theorem dX0_comesFrom_12 : decode cX0_comesFrom 12 = .ok (.if_icmp .eq 28, 3) := by decide +kernel
theorem dX0_comesFrom_15 : decode cX0_comesFrom 15 = .ok (.iload_n 3, 1) := by decide +kernel
theorem dX0_comesFrom_16 : decode cX0_comesFrom 16 = .ok (.iload_n 2, 1) := by decide +kernel
theorem dX0_comesFrom_17 : decode cX0_comesFrom 17 = .ok (.if_icmp .eq 23, 3) := by decide +kernel
theorem dX0_comesFrom_20 : decode cX0_comesFrom 20 = .ok (.iload 4, 2) := by decide +kernel
theorem dX0_comesFrom_22 : decode cX0_comesFrom 22 = .ok (.bipush 12, 2) := by decide +kernel
theorem dX0_comesFrom_24 : decode cX0_comesFrom 24 = .ok (.if_icmp .ge 16, 3) := by decide +kernel
theorem dX0_comesFrom_27 : decode cX0_comesFrom 27 = .ok (.aload_n 0, 1) := by decide +kernel
theorem dX0_comesFrom_28 : decode cX0_comesFrom 28 = .ok (.getfield 33, 3) := by decide +kernel
theorem dX0_comesFrom_31 : decode cX0_comesFrom 31 = .ok (.iload_n 3, 1) := by decide +kernel
theorem dX0_comesFrom_32 : decode cX0_comesFrom 32 = .ok (.iaload, 1) := by decide +kernel
theorem dX0_comesFrom_33 : decode cX0_comesFrom 33 = .ok (.istore_n 3, 1) := by decide +kernel
theorem dX0_comesFrom_34 : decode cX0_comesFrom 34 = .ok (.iinc 4 1, 3) := by decide +kernel
theorem dX0_comesFrom_37 : decode cX0_comesFrom 37 = .ok (.goto (-27), 3) := by decide +kernel
theorem dX0_comesFrom_40 : decode cX0_comesFrom 40 = .ok (.iload_n 3, 1) := by decide +kernel
theorem dX0_comesFrom_41 : decode cX0_comesFrom 41 = .ok (.iload_n 2, 1) := by decide +kernel
theorem dX0_comesFrom_42 : decode cX0_comesFrom 42 = .ok (.if_icmp .ne 7, 3) := by decide +kernel
theorem dX0_comesFrom_45 : decode cX0_comesFrom 45 = .ok (.iconst 1, 1) := by decide +kernel
theorem dX0_comesFrom_46 : decode cX0_comesFrom 46 = .ok (.goto 4, 3) := by decide +kernel
theorem dX0_comesFrom_49 : decode cX0_comesFrom 49 = .ok (.iconst 0, 1) := by decide +kernel
theorem dX0_comesFrom_50 : decode cX0_comesFrom 50 = .ok (.ireturn, 1) := by decide +kernel
theorem dX0_strikes_0 : decode cX0_strikes 0 = .ok (.iconst 0, 1) := by decide +kernel
theorem dX0_strikes_1 : decode cX0_strikes 1 = .ok (.istore_n 1, 1) := by decide +kernel
theorem dX0_strikes_2 : decode cX0_strikes 2 = .ok (.iconst 0, 1) := by decide +kernel
theorem dX0_strikes_3 : decode cX0_strikes 3 = .ok (.istore_n 2, 1) := by decide +kernel
theorem dX0_strikes_4 : decode cX0_strikes 4 = .ok (.iload_n 2, 1) := by decide +kernel
theorem dX0_strikes_5 : decode cX0_strikes 5 = .ok (.aload_n 0, 1) := by decide +kernel
theorem dX0_strikes_6 : decode cX0_strikes 6 = .ok (.getfield 39, 3) := by decide +kernel
theorem dX0_strikes_9 : decode cX0_strikes 9 = .ok (.if_icmp .ge 27, 3) := by decide +kernel
theorem dX0_strikes_12 : decode cX0_strikes 12 = .ok (.iload_n 1, 1) := by decide +kernel
theorem dX0_strikes_13 : decode cX0_strikes 13 = .ok (.aload_n 0, 1) := by decide +kernel
theorem dX0_strikes_14 : decode cX0_strikes 14 = .ok (.getfield 33, 3) := by decide +kernel
theorem dX0_strikes_17 : decode cX0_strikes 17 = .ok (.iload_n 2, 1) := by decide +kernel
theorem dX0_strikes_18 : decode cX0_strikes 18 = .ok (.iaload, 1) := by decide +kernel
theorem dX0_strikes_19 : decode cX0_strikes 19 = .ok (.iconst (-1), 1) := by decide +kernel
theorem dX0_strikes_20 : decode cX0_strikes 20 = .ok (.if_icmp .eq 7, 3) := by decide +kernel
theorem dX0_strikes_23 : decode cX0_strikes 23 = .ok (.iconst 1, 1) := by decide +kernel
theorem dX0_strikes_24 : decode cX0_strikes 24 = .ok (.goto 4, 3) := by decide +kernel
theorem dX0_strikes_27 : decode cX0_strikes 27 = .ok (.iconst 0, 1) := by decide +kernel
theorem dX0_strikes_28 : decode cX0_strikes 28 = .ok (.iadd, 1) := by decide +kernel
theorem dX0_strikes_29 : decode cX0_strikes 29 = .ok (.istore_n 1, 1) := by decide +kernel
theorem dX0_strikes_30 : decode cX0_strikes 30 = .ok (.iinc 2 1, 3) := by decide +kernel
theorem dX0_strikes_33 : decode cX0_strikes 33 = .ok (.goto (-29), 3) := by decide +kernel
theorem dX0_strikes_36 : decode cX0_strikes 36 = .ok (.iload_n 1, 1) := by decide +kernel
theorem dX0_strikes_37 : decode cX0_strikes 37 = .ok (.ireturn, 1) := by decide +kernel
theorem dX1_init_0 : decode cX1_init 0 = .ok (.aload_n 0, 1) := by decide +kernel
theorem dX1_init_1 : decode cX1_init 1 = .ok (.invokespecial 3, 3) := by decide +kernel
theorem dX1_init_4 : decode cX1_init 4 = .ok (.aload_n 0, 1) := by decide +kernel
theorem dX1_init_5 : decode cX1_init 5 = .ok (.aload_n 1, 1) := by decide +kernel
theorem dX1_init_6 : decode cX1_init 6 = .ok (.putfield 9, 3) := by decide +kernel
theorem dX1_init_9 : decode cX1_init 9 = .ok (.return_, 1) := by decide +kernel
theorem dX1_warmthLearnt_0 : decode cX1_warmthLearnt 0 = .ok (.iconst 1, 1) := by decide +kernel
theorem dX1_warmthLearnt_1 : decode cX1_warmthLearnt 1 = .ok (.istore_n 3, 1) := by decide +kernel
theorem dX1_warmthLearnt_2 : decode cX1_warmthLearnt 2 = .ok (.sipush 999, 3) := by decide +kernel
theorem dX1_warmthLearnt_5 : decode cX1_warmthLearnt 5 = .ok (.istore 4, 2) := by decide +kernel
theorem dX1_warmthLearnt_7 : decode cX1_warmthLearnt 7 = .ok (.iconst 0, 1) := by decide +kernel
theorem dX1_warmthLearnt_8 : decode cX1_warmthLearnt 8 = .ok (.istore 5, 2) := by decide +kernel
theorem dX1_warmthLearnt_10 : decode cX1_warmthLearnt 10 = .ok (.iconst 0, 1) := by decide +kernel
theorem dX1_warmthLearnt_11 : decode cX1_warmthLearnt 11 = .ok (.istore 6, 2) := by decide +kernel
theorem dX1_warmthLearnt_13 : decode cX1_warmthLearnt 13 = .ok (.iload 6, 2) := by decide +kernel
theorem dX1_warmthLearnt_15 : decode cX1_warmthLearnt 15 = .ok (.aload_n 0, 1) := by decide +kernel
theorem dX1_warmthLearnt_16 : decode cX1_warmthLearnt 16 = .ok (.getfield 9, 3) := by decide +kernel
theorem dX1_warmthLearnt_19 : decode cX1_warmthLearnt 19 = .ok (.getfield 15, 3) := by decide +kernel
theorem dX1_warmthLearnt_22 : decode cX1_warmthLearnt 22 = .ok (.if_icmp .ge 111, 3) := by decide +kernel
theorem dX1_warmthLearnt_25 : decode cX1_warmthLearnt 25 = .ok (.aload_n 0, 1) := by decide +kernel
theorem dX1_warmthLearnt_26 : decode cX1_warmthLearnt 26 = .ok (.getfield 9, 3) := by decide +kernel
theorem dX1_warmthLearnt_29 : decode cX1_warmthLearnt 29 = .ok (.getfield 21, 3) := by decide +kernel
theorem dX1_warmthLearnt_32 : decode cX1_warmthLearnt 32 = .ok (.iload 6, 2) := by decide +kernel
theorem dX1_warmthLearnt_34 : decode cX1_warmthLearnt 34 = .ok (.iaload, 1) := by decide +kernel
theorem dX1_warmthLearnt_35 : decode cX1_warmthLearnt 35 = .ok (.iload_n 1, 1) := by decide +kernel
theorem dX1_warmthLearnt_36 : decode cX1_warmthLearnt 36 = .ok (.if_icmp .ne 91, 3) := by decide +kernel
theorem dX1_warmthLearnt_39 : decode cX1_warmthLearnt 39 = .ok (.aload_n 0, 1) := by decide +kernel
theorem dX1_warmthLearnt_40 : decode cX1_warmthLearnt 40 = .ok (.getfield 9, 3) := by decide +kernel
theorem dX1_warmthLearnt_43 : decode cX1_warmthLearnt 43 = .ok (.getfield 25, 3) := by decide +kernel
theorem dX1_warmthLearnt_46 : decode cX1_warmthLearnt 46 = .ok (.iload 6, 2) := by decide +kernel
theorem dX1_warmthLearnt_48 : decode cX1_warmthLearnt 48 = .ok (.iaload, 1) := by decide +kernel
theorem dX1_warmthLearnt_49 : decode cX1_warmthLearnt 49 = .ok (.ifCond .le 78, 3) := by decide +kernel
theorem dX1_warmthLearnt_52 : decode cX1_warmthLearnt 52 = .ok (.aload_n 0, 1) := by decide +kernel
theorem dX1_warmthLearnt_53 : decode cX1_warmthLearnt 53 = .ok (.getfield 9, 3) := by decide +kernel
theorem dX1_warmthLearnt_56 : decode cX1_warmthLearnt 56 = .ok (.getfield 28, 3) := by decide +kernel
theorem dX1_warmthLearnt_59 : decode cX1_warmthLearnt 59 = .ok (.iload 6, 2) := by decide +kernel
theorem dX1_warmthLearnt_61 : decode cX1_warmthLearnt 61 = .ok (.iaload, 1) := by decide +kernel
theorem dX1_warmthLearnt_62 : decode cX1_warmthLearnt 62 = .ok (.iconst (-1), 1) := by decide +kernel
theorem dX1_warmthLearnt_63 : decode cX1_warmthLearnt 63 = .ok (.if_icmp .eq 64, 3) := by decide +kernel
theorem dX1_warmthLearnt_66 : decode cX1_warmthLearnt 66 = .ok (.iconst 1, 1) := by decide +kernel
theorem dX1_warmthLearnt_67 : decode cX1_warmthLearnt 67 = .ok (.istore 5, 2) := by decide +kernel
theorem dX1_warmthLearnt_69 : decode cX1_warmthLearnt 69 = .ok (.iload_n 3, 1) := by decide +kernel
theorem dX1_warmthLearnt_70 : decode cX1_warmthLearnt 70 = .ok (.aload_n 0, 1) := by decide +kernel
theorem dX1_warmthLearnt_71 : decode cX1_warmthLearnt 71 = .ok (.getfield 9, 3) := by decide +kernel
theorem dX1_warmthLearnt_74 : decode cX1_warmthLearnt 74 = .ok (.getfield 25, 3) := by decide +kernel
theorem dX1_warmthLearnt_77 : decode cX1_warmthLearnt 77 = .ok (.iload 6, 2) := by decide +kernel
theorem dX1_warmthLearnt_79 : decode cX1_warmthLearnt 79 = .ok (.iaload, 1) := by decide +kernel
theorem dX1_warmthLearnt_80 : decode cX1_warmthLearnt 80 = .ok (.aload_n 0, 1) := by decide +kernel
theorem dX1_warmthLearnt_81 : decode cX1_warmthLearnt 81 = .ok (.getfield 9, 3) := by decide +kernel
theorem dX1_warmthLearnt_84 : decode cX1_warmthLearnt 84 = .ok (.getfield 28, 3) := by decide +kernel
theorem dX1_warmthLearnt_87 : decode cX1_warmthLearnt 87 = .ok (.iload 6, 2) := by decide +kernel
theorem dX1_warmthLearnt_89 : decode cX1_warmthLearnt 89 = .ok (.iaload, 1) := by decide +kernel
theorem dX1_warmthLearnt_90 : decode cX1_warmthLearnt 90 = .ok (.invokestatic 31, 3) := by decide +kernel
theorem dX1_warmthLearnt_93 : decode cX1_warmthLearnt 93 = .ok (.invokestatic 35, 3) := by decide +kernel
theorem dX1_warmthLearnt_96 : decode cX1_warmthLearnt 96 = .ok (.istore_n 3, 1) := by decide +kernel
theorem dX1_warmthLearnt_97 : decode cX1_warmthLearnt 97 = .ok (.iload 4, 2) := by decide +kernel
theorem dX1_warmthLearnt_99 : decode cX1_warmthLearnt 99 = .ok (.aload_n 0, 1) := by decide +kernel
theorem dX1_warmthLearnt_100 : decode cX1_warmthLearnt 100 = .ok (.getfield 9, 3) := by decide +kernel
theorem dX1_warmthLearnt_103 : decode cX1_warmthLearnt 103 = .ok (.getfield 25, 3) := by decide +kernel
theorem dX1_warmthLearnt_106 : decode cX1_warmthLearnt 106 = .ok (.iload 6, 2) := by decide +kernel
theorem dX1_warmthLearnt_108 : decode cX1_warmthLearnt 108 = .ok (.iaload, 1) := by decide +kernel
theorem dX1_warmthLearnt_109 : decode cX1_warmthLearnt 109 = .ok (.aload_n 0, 1) := by decide +kernel
theorem dX1_warmthLearnt_110 : decode cX1_warmthLearnt 110 = .ok (.getfield 9, 3) := by decide +kernel
theorem dX1_warmthLearnt_113 : decode cX1_warmthLearnt 113 = .ok (.getfield 28, 3) := by decide +kernel
theorem dX1_warmthLearnt_116 : decode cX1_warmthLearnt 116 = .ok (.iload 6, 2) := by decide +kernel
theorem dX1_warmthLearnt_118 : decode cX1_warmthLearnt 118 = .ok (.iaload, 1) := by decide +kernel
theorem dX1_warmthLearnt_119 : decode cX1_warmthLearnt 119 = .ok (.invokestatic 40, 3) := by decide +kernel
theorem dX1_warmthLearnt_122 : decode cX1_warmthLearnt 122 = .ok (.invokestatic 43, 3) := by decide +kernel
theorem dX1_warmthLearnt_125 : decode cX1_warmthLearnt 125 = .ok (.istore 4, 2) := by decide +kernel
theorem dX1_warmthLearnt_127 : decode cX1_warmthLearnt 127 = .ok (.iinc 6 1, 3) := by decide +kernel
theorem dX1_warmthLearnt_130 : decode cX1_warmthLearnt 130 = .ok (.goto (-117), 3) := by decide +kernel
theorem dX1_warmthLearnt_133 : decode cX1_warmthLearnt 133 = .ok (.iload 5, 2) := by decide +kernel
theorem dX1_warmthLearnt_135 : decode cX1_warmthLearnt 135 = .ok (.ifCond .eq 9, 3) := by decide +kernel
theorem dX1_warmthLearnt_138 : decode cX1_warmthLearnt 138 = .ok (.iload_n 3, 1) := by decide +kernel
theorem dX1_warmthLearnt_139 : decode cX1_warmthLearnt 139 = .ok (.iload 4, 2) := by decide +kernel
theorem dX1_warmthLearnt_141 : decode cX1_warmthLearnt 141 = .ok (.if_icmp .le 5, 3) := by decide +kernel
theorem dX1_warmthLearnt_144 : decode cX1_warmthLearnt 144 = .ok (.iconst (-1), 1) := by decide +kernel
theorem dX1_warmthLearnt_145 : decode cX1_warmthLearnt 145 = .ok (.ireturn, 1) := by decide +kernel
theorem dX1_warmthLearnt_146 : decode cX1_warmthLearnt 146 = .ok (.iload_n 2, 1) := by decide +kernel
theorem dX1_warmthLearnt_147 : decode cX1_warmthLearnt 147 = .ok (.ifCond .ne 7, 3) := by decide +kernel
theorem dX1_warmthLearnt_150 : decode cX1_warmthLearnt 150 = .ok (.iload_n 3, 1) := by decide +kernel
theorem dX1_warmthLearnt_151 : decode cX1_warmthLearnt 151 = .ok (.goto 5, 3) := by decide +kernel
theorem dX1_warmthLearnt_154 : decode cX1_warmthLearnt 154 = .ok (.iload 4, 2) := by decide +kernel
theorem dX1_warmthLearnt_156 : decode cX1_warmthLearnt 156 = .ok (.ireturn, 1) := by decide +kernel
theorem dX1_leastFor_0 : decode cX1_leastFor 0 = .ok (.iload_n 1, 1) := by decide +kernel
theorem dX1_leastFor_1 : decode cX1_leastFor 1 = .ok (.ifCond .ne 7, 3) := by decide +kernel
theorem dX1_leastFor_4 : decode cX1_leastFor 4 = .ok (.iconst 1, 1) := by decide +kernel
theorem dX1_leastFor_5 : decode cX1_leastFor 5 = .ok (.goto 22, 3) := by decide +kernel
theorem dX1_leastFor_8 : decode cX1_leastFor 8 = .ok (.iload_n 0, 1) := by decide +kernel
theorem dX1_leastFor_9 : decode cX1_leastFor 9 = .ok (.iconst 1, 1) := by decide +kernel
theorem dX1_leastFor_10 : decode cX1_leastFor 10 = .ok (.isub, 1) := by decide +kernel
theorem dX1_leastFor_11 : decode cX1_leastFor 11 = .ok (.iload_n 0, 1) := by decide +kernel
theorem dX1_leastFor_12 : decode cX1_leastFor 12 = .ok (.iconst 1, 1) := by decide +kernel
theorem dX1_leastFor_13 : decode cX1_leastFor 13 = .ok (.isub, 1) := by decide +kernel
theorem dX1_leastFor_14 : decode cX1_leastFor 14 = .ok (.imul, 1) := by decide +kernel
theorem dX1_leastFor_15 : decode cX1_leastFor 15 = .ok (.sipush 9999, 3) := by decide +kernel
theorem dX1_leastFor_18 : decode cX1_leastFor 18 = .ok (.iload_n 1, 1) := by decide +kernel
theorem dX1_leastFor_19 : decode cX1_leastFor 19 = .ok (.isub, 1) := by decide +kernel
theorem dX1_leastFor_20 : decode cX1_leastFor 20 = .ok (.iconst 1, 1) := by decide +kernel
theorem dX1_leastFor_21 : decode cX1_leastFor 21 = .ok (.iadd, 1) := by decide +kernel
theorem dX1_leastFor_22 : decode cX1_leastFor 22 = .ok (.invokestatic 46, 3) := by decide +kernel
theorem dX1_leastFor_25 : decode cX1_leastFor 25 = .ok (.iconst 1, 1) := by decide +kernel
theorem dX1_leastFor_26 : decode cX1_leastFor 26 = .ok (.iadd, 1) := by decide +kernel
theorem dX1_leastFor_27 : decode cX1_leastFor 27 = .ok (.ireturn, 1) := by decide +kernel
theorem dX1_greatestFor_0 : decode cX1_greatestFor 0 = .ok (.iload_n 1, 1) := by decide +kernel
theorem dX1_greatestFor_1 : decode cX1_greatestFor 1 = .ok (.sipush 9999, 3) := by decide +kernel
theorem dX1_greatestFor_4 : decode cX1_greatestFor 4 = .ok (.if_icmp .ne 9, 3) := by decide +kernel
theorem dX1_greatestFor_7 : decode cX1_greatestFor 7 = .ok (.sipush 999, 3) := by decide +kernel
theorem dX1_greatestFor_10 : decode cX1_greatestFor 10 = .ok (.goto 18, 3) := by decide +kernel
theorem dX1_greatestFor_13 : decode cX1_greatestFor 13 = .ok (.iload_n 0, 1) := by decide +kernel
theorem dX1_greatestFor_14 : decode cX1_greatestFor 14 = .ok (.iconst 1, 1) := by decide +kernel
theorem dX1_greatestFor_15 : decode cX1_greatestFor 15 = .ok (.iadd, 1) := by decide +kernel
theorem dX1_greatestFor_16 : decode cX1_greatestFor 16 = .ok (.iload_n 0, 1) := by decide +kernel
theorem dX1_greatestFor_17 : decode cX1_greatestFor 17 = .ok (.iconst 1, 1) := by decide +kernel
theorem dX1_greatestFor_18 : decode cX1_greatestFor 18 = .ok (.iadd, 1) := by decide +kernel
theorem dX1_greatestFor_19 : decode cX1_greatestFor 19 = .ok (.imul, 1) := by decide +kernel
theorem dX1_greatestFor_20 : decode cX1_greatestFor 20 = .ok (.sipush 9999, 3) := by decide +kernel
theorem dX1_greatestFor_23 : decode cX1_greatestFor 23 = .ok (.iload_n 1, 1) := by decide +kernel
theorem dX1_greatestFor_24 : decode cX1_greatestFor 24 = .ok (.isub, 1) := by decide +kernel
theorem dX1_greatestFor_25 : decode cX1_greatestFor 25 = .ok (.invokestatic 46, 3) := by decide +kernel
theorem dX1_greatestFor_28 : decode cX1_greatestFor 28 = .ok (.ireturn, 1) := by decide +kernel
theorem dX2_init_0 : decode cX2_init 0 = .ok (.aload_n 0, 1) := by decide +kernel
theorem dX2_init_1 : decode cX2_init 1 = .ok (.invokespecial 3, 3) := by decide +kernel
theorem dX2_init_4 : decode cX2_init 4 = .ok (.aload_n 0, 1) := by decide +kernel
theorem dX2_init_5 : decode cX2_init 5 = .ok (.aload_n 1, 1) := by decide +kernel
theorem dX2_init_6 : decode cX2_init 6 = .ok (.putfield 9, 3) := by decide +kernel
theorem dX2_init_9 : decode cX2_init 9 = .ok (.aload_n 0, 1) := by decide +kernel
theorem dX2_init_10 : decode cX2_init 10 = .ok (.aload_n 2, 1) := by decide +kernel
theorem dX2_init_11 : decode cX2_init 11 = .ok (.putfield 15, 3) := by decide +kernel
theorem dX2_init_14 : decode cX2_init 14 = .ok (.return_, 1) := by decide +kernel
theorem dX2_offBetween_0 : decode cX2_offBetween 0 = .ok (.iconst 0, 1) := by decide +kernel
theorem dX2_offBetween_1 : decode cX2_offBetween 1 = .ok (.istore_n 3, 1) := by decide +kernel
theorem dX2_offBetween_2 : decode cX2_offBetween 2 = .ok (.iconst 0, 1) := by decide +kernel
theorem dX2_offBetween_3 : decode cX2_offBetween 3 = .ok (.istore 4, 2) := by decide +kernel
theorem dX2_offBetween_5 : decode cX2_offBetween 5 = .ok (.iload 4, 2) := by decide +kernel
theorem dX2_offBetween_7 : decode cX2_offBetween 7 = .ok (.iconst 3, 1) := by decide +kernel
theorem dX2_offBetween_8 : decode cX2_offBetween 8 = .ok (.if_icmp .ge 54, 3) := by decide +kernel
theorem dX2_offBetween_11 : decode cX2_offBetween 11 = .ok (.aload_n 0, 1) := by decide +kernel
theorem dX2_offBetween_12 : decode cX2_offBetween 12 = .ok (.getfield 15, 3) := by decide +kernel
theorem dX2_offBetween_15 : decode cX2_offBetween 15 = .ok (.getfield 19, 3) := by decide +kernel
theorem dX2_offBetween_18 : decode cX2_offBetween 18 = .ok (.iload_n 1, 1) := by decide +kernel
theorem dX2_offBetween_19 : decode cX2_offBetween 19 = .ok (.iconst 3, 1) := by decide +kernel
theorem dX2_offBetween_20 : decode cX2_offBetween 20 = .ok (.imul, 1) := by decide +kernel
theorem dX2_offBetween_21 : decode cX2_offBetween 21 = .ok (.iload 4, 2) := by decide +kernel
theorem dX2_offBetween_23 : decode cX2_offBetween 23 = .ok (.iadd, 1) := by decide +kernel
theorem dX2_offBetween_24 : decode cX2_offBetween 24 = .ok (.iaload, 1) := by decide +kernel
theorem dX2_offBetween_25 : decode cX2_offBetween 25 = .ok (.istore 5, 2) := by decide +kernel
theorem dX2_offBetween_27 : decode cX2_offBetween 27 = .ok (.aload_n 0, 1) := by decide +kernel
theorem dX2_offBetween_28 : decode cX2_offBetween 28 = .ok (.getfield 9, 3) := by decide +kernel
theorem dX2_offBetween_31 : decode cX2_offBetween 31 = .ok (.getfield 25, 3) := by decide +kernel
theorem dX2_offBetween_34 : decode cX2_offBetween 34 = .ok (.iload_n 2, 1) := by decide +kernel
theorem dX2_offBetween_35 : decode cX2_offBetween 35 = .ok (.iconst 3, 1) := by decide +kernel
theorem dX2_offBetween_36 : decode cX2_offBetween 36 = .ok (.imul, 1) := by decide +kernel
theorem dX2_offBetween_37 : decode cX2_offBetween 37 = .ok (.iload 4, 2) := by decide +kernel
theorem dX2_offBetween_39 : decode cX2_offBetween 39 = .ok (.iadd, 1) := by decide +kernel
theorem dX2_offBetween_40 : decode cX2_offBetween 40 = .ok (.iaload, 1) := by decide +kernel
theorem dX2_offBetween_41 : decode cX2_offBetween 41 = .ok (.istore 6, 2) := by decide +kernel
theorem dX2_offBetween_43 : decode cX2_offBetween 43 = .ok (.iload_n 3, 1) := by decide +kernel
theorem dX2_offBetween_44 : decode cX2_offBetween 44 = .ok (.iload 5, 2) := by decide +kernel
theorem dX2_offBetween_46 : decode cX2_offBetween 46 = .ok (.iload 6, 2) := by decide +kernel
theorem dX2_offBetween_48 : decode cX2_offBetween 48 = .ok (.isub, 1) := by decide +kernel
theorem dX2_offBetween_49 : decode cX2_offBetween 49 = .ok (.invokestatic 30, 3) := by decide +kernel
theorem dX2_offBetween_52 : decode cX2_offBetween 52 = .ok (.invokestatic 36, 3) := by decide +kernel
theorem dX2_offBetween_55 : decode cX2_offBetween 55 = .ok (.istore_n 3, 1) := by decide +kernel
theorem dX2_offBetween_56 : decode cX2_offBetween 56 = .ok (.iinc 4 1, 3) := by decide +kernel
theorem dX2_offBetween_59 : decode cX2_offBetween 59 = .ok (.goto (-54), 3) := by decide +kernel
theorem dX2_offBetween_62 : decode cX2_offBetween 62 = .ok (.bipush 10, 2) := by decide +kernel
theorem dX2_offBetween_64 : decode cX2_offBetween 64 = .ok (.iload_n 3, 1) := by decide +kernel
theorem dX2_offBetween_65 : decode cX2_offBetween 65 = .ok (.imul, 1) := by decide +kernel
theorem dX2_offBetween_66 : decode cX2_offBetween 66 = .ok (.aload_n 0, 1) := by decide +kernel
theorem dX2_offBetween_67 : decode cX2_offBetween 67 = .ok (.getfield 15, 3) := by decide +kernel
theorem dX2_offBetween_70 : decode cX2_offBetween 70 = .ok (.getfield 40, 3) := by decide +kernel
theorem dX2_offBetween_73 : decode cX2_offBetween 73 = .ok (.iload_n 1, 1) := by decide +kernel
theorem dX2_offBetween_74 : decode cX2_offBetween 74 = .ok (.iaload, 1) := by decide +kernel
theorem dX2_offBetween_75 : decode cX2_offBetween 75 = .ok (.aload_n 0, 1) := by decide +kernel
theorem dX2_offBetween_76 : decode cX2_offBetween 76 = .ok (.getfield 9, 3) := by decide +kernel
theorem dX2_offBetween_79 : decode cX2_offBetween 79 = .ok (.getfield 43, 3) := by decide +kernel
theorem dX2_offBetween_82 : decode cX2_offBetween 82 = .ok (.iload_n 2, 1) := by decide +kernel
theorem dX2_offBetween_83 : decode cX2_offBetween 83 = .ok (.iaload, 1) := by decide +kernel
theorem dX2_offBetween_84 : decode cX2_offBetween 84 = .ok (.iadd, 1) := by decide +kernel
theorem dX2_offBetween_85 : decode cX2_offBetween 85 = .ok (.invokestatic 46, 3) := by decide +kernel
theorem dX2_offBetween_88 : decode cX2_offBetween 88 = .ok (.ireturn, 1) := by decide +kernel
theorem dX2_canBeOf_0 : decode cX2_canBeOf 0 = .ok (.iconst 0, 1) := by decide +kernel
theorem dX2_canBeOf_1 : decode cX2_canBeOf 1 = .ok (.istore_n 2, 1) := by decide +kernel
theorem dX2_canBeOf_2 : decode cX2_canBeOf 2 = .ok (.iconst 0, 1) := by decide +kernel
theorem dX2_canBeOf_3 : decode cX2_canBeOf 3 = .ok (.istore_n 3, 1) := by decide +kernel
theorem dX2_canBeOf_4 : decode cX2_canBeOf 4 = .ok (.iload_n 3, 1) := by decide +kernel
theorem dX2_canBeOf_5 : decode cX2_canBeOf 5 = .ok (.bipush 9, 2) := by decide +kernel
theorem dX2_canBeOf_7 : decode cX2_canBeOf 7 = .ok (.if_icmp .ge 43, 3) := by decide +kernel
theorem dX2_canBeOf_10 : decode cX2_canBeOf 10 = .ok (.aload_n 0, 1) := by decide +kernel
theorem dX2_canBeOf_11 : decode cX2_canBeOf 11 = .ok (.getfield 9, 3) := by decide +kernel
theorem dX2_canBeOf_14 : decode cX2_canBeOf 14 = .ok (.getfield 49, 3) := by decide +kernel
theorem dX2_canBeOf_17 : decode cX2_canBeOf 17 = .ok (.iload_n 3, 1) := by decide +kernel
theorem dX2_canBeOf_18 : decode cX2_canBeOf 18 = .ok (.baload, 1) := by decide +kernel
theorem dX2_canBeOf_19 : decode cX2_canBeOf 19 = .ok (.ifCond .eq 25, 3) := by decide +kernel
theorem dX2_canBeOf_22 : decode cX2_canBeOf 22 = .ok (.aload_n 0, 1) := by decide +kernel
theorem dX2_canBeOf_23 : decode cX2_canBeOf 23 = .ok (.iload_n 1, 1) := by decide +kernel
theorem dX2_canBeOf_24 : decode cX2_canBeOf 24 = .ok (.iload_n 3, 1) := by decide +kernel
theorem dX2_canBeOf_25 : decode cX2_canBeOf 25 = .ok (.invokevirtual 53, 3) := by decide +kernel
theorem dX2_canBeOf_28 : decode cX2_canBeOf 28 = .ok (.aload_n 0, 1) := by decide +kernel
theorem dX2_canBeOf_29 : decode cX2_canBeOf 29 = .ok (.getfield 9, 3) := by decide +kernel
theorem dX2_canBeOf_32 : decode cX2_canBeOf 32 = .ok (.getfield 56, 3) := by decide +kernel
theorem dX2_canBeOf_35 : decode cX2_canBeOf 35 = .ok (.if_icmp .gt 9, 3) := by decide +kernel
theorem dX2_canBeOf_38 : decode cX2_canBeOf 38 = .ok (.iload_n 2, 1) := by decide +kernel
theorem dX2_canBeOf_39 : decode cX2_canBeOf 39 = .ok (.iconst 1, 1) := by decide +kernel
theorem dX2_canBeOf_40 : decode cX2_canBeOf 40 = .ok (.iload_n 3, 1) := by decide +kernel
theorem dX2_canBeOf_41 : decode cX2_canBeOf 41 = .ok (.ishl, 1) := by decide +kernel
theorem dX2_canBeOf_42 : decode cX2_canBeOf 42 = .ok (.ior, 1) := by decide +kernel
theorem dX2_canBeOf_43 : decode cX2_canBeOf 43 = .ok (.istore_n 2, 1) := by decide +kernel
theorem dX2_canBeOf_44 : decode cX2_canBeOf 44 = .ok (.iinc 3 1, 3) := by decide +kernel
theorem dX2_canBeOf_47 : decode cX2_canBeOf 47 = .ok (.goto (-43), 3) := by decide +kernel
theorem dX2_canBeOf_50 : decode cX2_canBeOf 50 = .ok (.iload_n 2, 1) := by decide +kernel
theorem dX2_canBeOf_51 : decode cX2_canBeOf 51 = .ok (.ireturn, 1) := by decide +kernel
theorem dX2_nameOf_0 : decode cX2_nameOf 0 = .ok (.aload_n 0, 1) := by decide +kernel
theorem dX2_nameOf_1 : decode cX2_nameOf 1 = .ok (.iload_n 1, 1) := by decide +kernel
theorem dX2_nameOf_2 : decode cX2_nameOf 2 = .ok (.invokevirtual 60, 3) := by decide +kernel
theorem dX2_nameOf_5 : decode cX2_nameOf 5 = .ok (.istore_n 2, 1) := by decide +kernel
theorem dX2_nameOf_6 : decode cX2_nameOf 6 = .ok (.iload_n 2, 1) := by decide +kernel
theorem dX2_nameOf_7 : decode cX2_nameOf 7 = .ok (.invokestatic 63, 3) := by decide +kernel
theorem dX2_nameOf_10 : decode cX2_nameOf 10 = .ok (.iconst 1, 1) := by decide +kernel
theorem dX2_nameOf_11 : decode cX2_nameOf 11 = .ok (.if_icmp .eq 5, 3) := by decide +kernel
theorem dX2_nameOf_14 : decode cX2_nameOf 14 = .ok (.iconst (-1), 1) := by decide +kernel
theorem dX2_nameOf_15 : decode cX2_nameOf 15 = .ok (.ireturn, 1) := by decide +kernel
theorem dX2_nameOf_16 : decode cX2_nameOf 16 = .ok (.iconst (-1), 1) := by decide +kernel
theorem dX2_nameOf_17 : decode cX2_nameOf 17 = .ok (.istore_n 3, 1) := by decide +kernel
theorem dX2_nameOf_18 : decode cX2_nameOf 18 = .ok (.iconst 0, 1) := by decide +kernel
theorem dX2_nameOf_19 : decode cX2_nameOf 19 = .ok (.istore 4, 2) := by decide +kernel
theorem dX2_nameOf_21 : decode cX2_nameOf 21 = .ok (.iload 4, 2) := by decide +kernel
theorem dX2_nameOf_23 : decode cX2_nameOf 23 = .ok (.bipush 9, 2) := by decide +kernel
theorem dX2_nameOf_25 : decode cX2_nameOf 25 = .ok (.if_icmp .ge 56, 3) := by decide +kernel
theorem dX2_nameOf_28 : decode cX2_nameOf 28 = .ok (.iload_n 2, 1) := by decide +kernel
theorem dX2_nameOf_29 : decode cX2_nameOf 29 = .ok (.iload 4, 2) := by decide +kernel
theorem dX2_nameOf_31 : decode cX2_nameOf 31 = .ok (.invokestatic 68, 3) := by decide +kernel
theorem dX2_nameOf_34 : decode cX2_nameOf 34 = .ok (.ifCond .eq 9, 3) := by decide +kernel
theorem dX2_nameOf_37 : decode cX2_nameOf 37 = .ok (.iload 4, 2) := by decide +kernel
theorem dX2_nameOf_39 : decode cX2_nameOf 39 = .ok (.istore_n 3, 1) := by decide +kernel
theorem dX2_nameOf_40 : decode cX2_nameOf 40 = .ok (.goto 35, 3) := by decide +kernel
theorem dX2_nameOf_43 : decode cX2_nameOf 43 = .ok (.aload_n 0, 1) := by decide +kernel
theorem dX2_nameOf_44 : decode cX2_nameOf 44 = .ok (.getfield 9, 3) := by decide +kernel
theorem dX2_nameOf_47 : decode cX2_nameOf 47 = .ok (.getfield 49, 3) := by decide +kernel
theorem dX2_nameOf_50 : decode cX2_nameOf 50 = .ok (.iload 4, 2) := by decide +kernel
theorem dX2_nameOf_52 : decode cX2_nameOf 52 = .ok (.baload, 1) := by decide +kernel
theorem dX2_nameOf_53 : decode cX2_nameOf 53 = .ok (.ifCond .eq 22, 3) := by decide +kernel
theorem dX2_nameOf_56 : decode cX2_nameOf 56 = .ok (.aload_n 0, 1) := by decide +kernel
theorem dX2_nameOf_57 : decode cX2_nameOf 57 = .ok (.iload_n 1, 1) := by decide +kernel
theorem dX2_nameOf_58 : decode cX2_nameOf 58 = .ok (.iload 4, 2) := by decide +kernel
theorem dX2_nameOf_60 : decode cX2_nameOf 60 = .ok (.invokevirtual 53, 3) := by decide +kernel
theorem dX2_nameOf_63 : decode cX2_nameOf 63 = .ok (.aload_n 0, 1) := by decide +kernel
theorem dX2_nameOf_64 : decode cX2_nameOf 64 = .ok (.getfield 9, 3) := by decide +kernel
theorem dX2_nameOf_67 : decode cX2_nameOf 67 = .ok (.getfield 72, 3) := by decide +kernel
theorem dX2_nameOf_70 : decode cX2_nameOf 70 = .ok (.if_icmp .ge 5, 3) := by decide +kernel
theorem dX2_nameOf_73 : decode cX2_nameOf 73 = .ok (.iconst (-1), 1) := by decide +kernel
theorem dX2_nameOf_74 : decode cX2_nameOf 74 = .ok (.ireturn, 1) := by decide +kernel
theorem dX2_nameOf_75 : decode cX2_nameOf 75 = .ok (.iinc 4 1, 3) := by decide +kernel
theorem dX2_nameOf_78 : decode cX2_nameOf 78 = .ok (.goto (-57), 3) := by decide +kernel
theorem dX2_nameOf_81 : decode cX2_nameOf 81 = .ok (.iload_n 3, 1) := by decide +kernel
theorem dX2_nameOf_82 : decode cX2_nameOf 82 = .ok (.ireturn, 1) := by decide +kernel
theorem dX2_firstOpen_0 : decode cX2_firstOpen 0 = .ok (.iconst (-1), 1) := by decide +kernel
theorem dX2_firstOpen_1 : decode cX2_firstOpen 1 = .ok (.istore_n 2, 1) := by decide +kernel
theorem dX2_firstOpen_2 : decode cX2_firstOpen 2 = .ok (.iconst 0, 1) := by decide +kernel
theorem dX2_firstOpen_3 : decode cX2_firstOpen 3 = .ok (.istore_n 3, 1) := by decide +kernel
theorem dX2_firstOpen_4 : decode cX2_firstOpen 4 = .ok (.iload_n 3, 1) := by decide +kernel
theorem dX2_firstOpen_5 : decode cX2_firstOpen 5 = .ok (.bipush 9, 2) := by decide +kernel
theorem dX2_firstOpen_7 : decode cX2_firstOpen 7 = .ok (.if_icmp .ge 31, 3) := by decide +kernel
theorem dX2_firstOpen_10 : decode cX2_firstOpen 10 = .ok (.iload_n 1, 1) := by decide +kernel
theorem dX2_firstOpen_11 : decode cX2_firstOpen 11 = .ok (.iload_n 3, 1) := by decide +kernel
theorem dX2_firstOpen_12 : decode cX2_firstOpen 12 = .ok (.invokestatic 68, 3) := by decide +kernel
theorem dX2_firstOpen_15 : decode cX2_firstOpen 15 = .ok (.ifCond .eq 17, 3) := by decide +kernel
theorem dX2_firstOpen_18 : decode cX2_firstOpen 18 = .ok (.iload_n 2, 1) := by decide +kernel
theorem dX2_firstOpen_19 : decode cX2_firstOpen 19 = .ok (.aload_n 0, 1) := by decide +kernel
theorem dX2_firstOpen_20 : decode cX2_firstOpen 20 = .ok (.getfield 9, 3) := by decide +kernel
theorem dX2_firstOpen_23 : decode cX2_firstOpen 23 = .ok (.getfield 75, 3) := by decide +kernel
theorem dX2_firstOpen_26 : decode cX2_firstOpen 26 = .ok (.iload_n 3, 1) := by decide +kernel
theorem dX2_firstOpen_27 : decode cX2_firstOpen 27 = .ok (.iaload, 1) := by decide +kernel
theorem dX2_firstOpen_28 : decode cX2_firstOpen 28 = .ok (.invokestatic 78, 3) := by decide +kernel
theorem dX2_firstOpen_31 : decode cX2_firstOpen 31 = .ok (.istore_n 2, 1) := by decide +kernel
theorem dX2_firstOpen_32 : decode cX2_firstOpen 32 = .ok (.iinc 3 1, 3) := by decide +kernel
theorem dX2_firstOpen_35 : decode cX2_firstOpen 35 = .ok (.goto (-31), 3) := by decide +kernel
theorem dX2_firstOpen_38 : decode cX2_firstOpen 38 = .ok (.iload_n 2, 1) := by decide +kernel
theorem dX2_firstOpen_39 : decode cX2_firstOpen 39 = .ok (.iconst (-1), 1) := by decide +kernel
theorem dX2_firstOpen_40 : decode cX2_firstOpen 40 = .ok (.if_icmp .ne 7, 3) := by decide +kernel
theorem dX2_firstOpen_43 : decode cX2_firstOpen 43 = .ok (.iconst 0, 1) := by decide +kernel
theorem dX2_firstOpen_44 : decode cX2_firstOpen 44 = .ok (.goto 4, 3) := by decide +kernel
theorem dX2_firstOpen_47 : decode cX2_firstOpen 47 = .ok (.iload_n 2, 1) := by decide +kernel
theorem dX2_firstOpen_48 : decode cX2_firstOpen 48 = .ok (.ireturn, 1) := by decide +kernel
theorem dX2_nextToMeasure_0 : decode cX2_nextToMeasure 0 = .ok (.iconst (-1), 1) := by decide +kernel
theorem dX2_nextToMeasure_1 : decode cX2_nextToMeasure 1 = .ok (.istore_n 1, 1) := by decide +kernel
theorem dX2_nextToMeasure_2 : decode cX2_nextToMeasure 2 = .ok (.iconst 2, 1) := by decide +kernel
theorem dX2_nextToMeasure_3 : decode cX2_nextToMeasure 3 = .ok (.istore_n 2, 1) := by decide +kernel
theorem dX2_nextToMeasure_4 : decode cX2_nextToMeasure 4 = .ok (.iconst 0, 1) := by decide +kernel
theorem dX2_nextToMeasure_5 : decode cX2_nextToMeasure 5 = .ok (.istore_n 3, 1) := by decide +kernel
theorem dX2_nextToMeasure_6 : decode cX2_nextToMeasure 6 = .ok (.iconst 0, 1) := by decide +kernel
theorem dX2_nextToMeasure_7 : decode cX2_nextToMeasure 7 = .ok (.istore 4, 2) := by decide +kernel
theorem dX2_nextToMeasure_9 : decode cX2_nextToMeasure 9 = .ok (.iload 4, 2) := by decide +kernel
theorem dX2_nextToMeasure_11 : decode cX2_nextToMeasure 11 = .ok (.aload_n 0, 1) := by decide +kernel
theorem dX2_nextToMeasure_12 : decode cX2_nextToMeasure 12 = .ok (.getfield 15, 3) := by decide +kernel
theorem dX2_nextToMeasure_15 : decode cX2_nextToMeasure 15 = .ok (.getfield 81, 3) := by decide +kernel
theorem dX2_nextToMeasure_18 : decode cX2_nextToMeasure 18 = .ok (.if_icmp .ge 59, 3) := by decide +kernel
theorem dX2_nextToMeasure_21 : decode cX2_nextToMeasure 21 = .ok (.aload_n 0, 1) := by decide +kernel
theorem dX2_nextToMeasure_22 : decode cX2_nextToMeasure 22 = .ok (.iload 4, 2) := by decide +kernel
theorem dX2_nextToMeasure_24 : decode cX2_nextToMeasure 24 = .ok (.invokevirtual 60, 3) := by decide +kernel
theorem dX2_nextToMeasure_27 : decode cX2_nextToMeasure 27 = .ok (.invokestatic 63, 3) := by decide +kernel
theorem dX2_nextToMeasure_30 : decode cX2_nextToMeasure 30 = .ok (.istore 5, 2) := by decide +kernel
theorem dX2_nextToMeasure_32 : decode cX2_nextToMeasure 32 = .ok (.aload_n 0, 1) := by decide +kernel
theorem dX2_nextToMeasure_33 : decode cX2_nextToMeasure 33 = .ok (.getfield 15, 3) := by decide +kernel
theorem dX2_nextToMeasure_36 : decode cX2_nextToMeasure 36 = .ok (.getfield 40, 3) := by decide +kernel
theorem dX2_nextToMeasure_39 : decode cX2_nextToMeasure 39 = .ok (.iload 4, 2) := by decide +kernel
theorem dX2_nextToMeasure_41 : decode cX2_nextToMeasure 41 = .ok (.iaload, 1) := by decide +kernel
theorem dX2_nextToMeasure_42 : decode cX2_nextToMeasure 42 = .ok (.istore 6, 2) := by decide +kernel
theorem dX2_nextToMeasure_44 : decode cX2_nextToMeasure 44 = .ok (.iload 5, 2) := by decide +kernel
theorem dX2_nextToMeasure_46 : decode cX2_nextToMeasure 46 = .ok (.iload_n 2, 1) := by decide +kernel
theorem dX2_nextToMeasure_47 : decode cX2_nextToMeasure 47 = .ok (.if_icmp .gt 15, 3) := by decide +kernel
theorem dX2_nextToMeasure_50 : decode cX2_nextToMeasure 50 = .ok (.iload 5, 2) := by decide +kernel
theorem dX2_nextToMeasure_52 : decode cX2_nextToMeasure 52 = .ok (.iload_n 2, 1) := by decide +kernel
theorem dX2_nextToMeasure_53 : decode cX2_nextToMeasure 53 = .ok (.if_icmp .ne 18, 3) := by decide +kernel
theorem dX2_nextToMeasure_56 : decode cX2_nextToMeasure 56 = .ok (.iload 6, 2) := by decide +kernel
theorem dX2_nextToMeasure_58 : decode cX2_nextToMeasure 58 = .ok (.iload_n 3, 1) := by decide +kernel
theorem dX2_nextToMeasure_59 : decode cX2_nextToMeasure 59 = .ok (.if_icmp .le 12, 3) := by decide +kernel
theorem dX2_nextToMeasure_62 : decode cX2_nextToMeasure 62 = .ok (.iload 4, 2) := by decide +kernel
theorem dX2_nextToMeasure_64 : decode cX2_nextToMeasure 64 = .ok (.istore_n 1, 1) := by decide +kernel
theorem dX2_nextToMeasure_65 : decode cX2_nextToMeasure 65 = .ok (.iload 5, 2) := by decide +kernel
theorem dX2_nextToMeasure_67 : decode cX2_nextToMeasure 67 = .ok (.istore_n 2, 1) := by decide +kernel
theorem dX2_nextToMeasure_68 : decode cX2_nextToMeasure 68 = .ok (.iload 6, 2) := by decide +kernel
theorem dX2_nextToMeasure_70 : decode cX2_nextToMeasure 70 = .ok (.istore_n 3, 1) := by decide +kernel
theorem dX2_nextToMeasure_71 : decode cX2_nextToMeasure 71 = .ok (.iinc 4 1, 3) := by decide +kernel
theorem dX2_nextToMeasure_74 : decode cX2_nextToMeasure 74 = .ok (.goto (-65), 3) := by decide +kernel
theorem dX2_nextToMeasure_77 : decode cX2_nextToMeasure 77 = .ok (.iload_n 1, 1) := by decide +kernel
theorem dX2_nextToMeasure_78 : decode cX2_nextToMeasure 78 = .ok (.ireturn, 1) := by decide +kernel
theorem dX3_init_0 : decode cX3_init 0 = .ok (.aload_n 0, 1) := by decide +kernel
theorem dX3_init_1 : decode cX3_init 1 = .ok (.invokespecial 3, 3) := by decide +kernel
theorem dX3_init_4 : decode cX3_init 4 = .ok (.aload_n 0, 1) := by decide +kernel
theorem dX3_init_5 : decode cX3_init 5 = .ok (.bipush 10, 2) := by decide +kernel
theorem dX3_init_7 : decode cX3_init 7 = .ok (.newarray .int, 2) := by decide +kernel
theorem dX3_init_9 : decode cX3_init 9 = .ok (.putfield 9, 3) := by decide +kernel
theorem dX3_init_12 : decode cX3_init 12 = .ok (.aload_n 0, 1) := by decide +kernel
theorem dX3_init_13 : decode cX3_init 13 = .ok (.bipush 10, 2) := by decide +kernel
theorem dX3_init_15 : decode cX3_init 15 = .ok (.newarray .int, 2) := by decide +kernel
theorem dX3_init_17 : decode cX3_init 17 = .ok (.putfield 15, 3) := by decide +kernel
theorem dX3_init_20 : decode cX3_init 20 = .ok (.aload_n 0, 1) := by decide +kernel
theorem dX3_init_21 : decode cX3_init 21 = .ok (.bipush 10, 2) := by decide +kernel
theorem dX3_init_23 : decode cX3_init 23 = .ok (.newarray .int, 2) := by decide +kernel
theorem dX3_init_25 : decode cX3_init 25 = .ok (.putfield 18, 3) := by decide +kernel
theorem dX3_init_28 : decode cX3_init 28 = .ok (.iconst 0, 1) := by decide +kernel
theorem dX3_init_29 : decode cX3_init 29 = .ok (.istore_n 1, 1) := by decide +kernel
theorem dX3_init_30 : decode cX3_init 30 = .ok (.iload_n 1, 1) := by decide +kernel
theorem dX3_init_31 : decode cX3_init 31 = .ok (.bipush 10, 2) := by decide +kernel
theorem dX3_init_33 : decode cX3_init 33 = .ok (.if_icmp .ge 26, 3) := by decide +kernel
theorem dX3_init_36 : decode cX3_init 36 = .ok (.aload_n 0, 1) := by decide +kernel
theorem dX3_init_37 : decode cX3_init 37 = .ok (.getfield 15, 3) := by decide +kernel
theorem dX3_init_40 : decode cX3_init 40 = .ok (.iload_n 1, 1) := by decide +kernel
theorem dX3_init_41 : decode cX3_init 41 = .ok (.sipush 9999, 3) := by decide +kernel
theorem dX3_init_44 : decode cX3_init 44 = .ok (.iastore, 1) := by decide +kernel
theorem dX3_init_45 : decode cX3_init 45 = .ok (.aload_n 0, 1) := by decide +kernel
theorem dX3_init_46 : decode cX3_init 46 = .ok (.getfield 18, 3) := by decide +kernel
theorem dX3_init_49 : decode cX3_init 49 = .ok (.iload_n 1, 1) := by decide +kernel
theorem dX3_init_50 : decode cX3_init 50 = .ok (.bipush 100, 2) := by decide +kernel
theorem dX3_init_52 : decode cX3_init 52 = .ok (.iastore, 1) := by decide +kernel
theorem dX3_init_53 : decode cX3_init 53 = .ok (.iinc 1 1, 3) := by decide +kernel
theorem dX3_init_56 : decode cX3_init 56 = .ok (.goto (-26), 3) := by decide +kernel
theorem dX3_init_59 : decode cX3_init 59 = .ok (.aload_n 0, 1) := by decide +kernel
theorem dX3_init_60 : decode cX3_init 60 = .ok (.bipush 9, 2) := by decide +kernel
theorem dX3_init_62 : decode cX3_init 62 = .ok (.newarray .boolean, 2) := by decide +kernel
theorem dX3_init_64 : decode cX3_init 64 = .ok (.putfield 21, 3) := by decide +kernel
theorem dX3_init_67 : decode cX3_init 67 = .ok (.aload_n 0, 1) := by decide +kernel
theorem dX3_init_68 : decode cX3_init 68 = .ok (.bipush 9, 2) := by decide +kernel
theorem dX3_init_70 : decode cX3_init 70 = .ok (.newarray .int, 2) := by decide +kernel
theorem dX3_init_72 : decode cX3_init 72 = .ok (.putfield 25, 3) := by decide +kernel
theorem dX3_init_75 : decode cX3_init 75 = .ok (.aload_n 0, 1) := by decide +kernel
theorem dX3_init_76 : decode cX3_init 76 = .ok (.bipush 9, 2) := by decide +kernel
theorem dX3_init_78 : decode cX3_init 78 = .ok (.newarray .int, 2) := by decide +kernel
theorem dX3_init_80 : decode cX3_init 80 = .ok (.putfield 28, 3) := by decide +kernel
theorem dX3_init_83 : decode cX3_init 83 = .ok (.aload_n 0, 1) := by decide +kernel
theorem dX3_init_84 : decode cX3_init 84 = .ok (.bipush 27, 2) := by decide +kernel
theorem dX3_init_86 : decode cX3_init 86 = .ok (.newarray .int, 2) := by decide +kernel
theorem dX3_init_88 : decode cX3_init 88 = .ok (.putfield 31, 3) := by decide +kernel
theorem dX3_init_91 : decode cX3_init 91 = .ok (.aload_n 0, 1) := by decide +kernel
theorem dX3_init_92 : decode cX3_init 92 = .ok (.bipush 9, 2) := by decide +kernel
theorem dX3_init_94 : decode cX3_init 94 = .ok (.newarray .int, 2) := by decide +kernel
theorem dX3_init_96 : decode cX3_init 96 = .ok (.putfield 34, 3) := by decide +kernel
theorem dX3_init_99 : decode cX3_init 99 = .ok (.aload_n 0, 1) := by decide +kernel
theorem dX3_init_100 : decode cX3_init 100 = .ok (.bipush 100, 2) := by decide +kernel
theorem dX3_init_102 : decode cX3_init 102 = .ok (.newarray .int, 2) := by decide +kernel
theorem dX3_init_104 : decode cX3_init 104 = .ok (.putfield 37, 3) := by decide +kernel
theorem dX3_init_107 : decode cX3_init 107 = .ok (.aload_n 0, 1) := by decide +kernel
theorem dX3_init_108 : decode cX3_init 108 = .ok (.bipush 100, 2) := by decide +kernel
theorem dX3_init_110 : decode cX3_init 110 = .ok (.newarray .int, 2) := by decide +kernel
theorem dX3_init_112 : decode cX3_init 112 = .ok (.putfield 40, 3) := by decide +kernel
theorem dX3_init_115 : decode cX3_init 115 = .ok (.aload_n 0, 1) := by decide +kernel
theorem dX3_init_116 : decode cX3_init 116 = .ok (.bipush 10, 2) := by decide +kernel
theorem dX3_init_118 : decode cX3_init 118 = .ok (.newarray .int, 2) := by decide +kernel
theorem dX3_init_120 : decode cX3_init 120 = .ok (.putfield 43, 3) := by decide +kernel
theorem dX3_init_123 : decode cX3_init 123 = .ok (.aload_n 0, 1) := by decide +kernel
theorem dX3_init_124 : decode cX3_init 124 = .ok (.bipush 10, 2) := by decide +kernel
theorem dX3_init_126 : decode cX3_init 126 = .ok (.newarray .int, 2) := by decide +kernel
theorem dX3_init_128 : decode cX3_init 128 = .ok (.putfield 46, 3) := by decide +kernel
theorem dX3_init_131 : decode cX3_init 131 = .ok (.aload_n 0, 1) := by decide +kernel
theorem dX3_init_132 : decode cX3_init 132 = .ok (.bipush 20, 2) := by decide +kernel
theorem dX3_init_134 : decode cX3_init 134 = .ok (.putfield 49, 3) := by decide +kernel
theorem dX3_init_137 : decode cX3_init 137 = .ok (.aload_n 0, 1) := by decide +kernel
theorem dX3_init_138 : decode cX3_init 138 = .ok (.bipush 30, 2) := by decide +kernel
theorem dX3_init_140 : decode cX3_init 140 = .ok (.putfield 53, 3) := by decide +kernel
theorem dX3_init_143 : decode cX3_init 143 = .ok (.return_, 1) := by decide +kernel
theorem dX3_isTold_0 : decode cX3_isTold 0 = .ok (.iload_n 1, 1) := by decide +kernel
theorem dX3_isTold_1 : decode cX3_isTold 1 = .ok (.iconst 0, 1) := by decide +kernel
theorem dX3_isTold_2 : decode cX3_isTold 2 = .ok (.bipush 8, 2) := by decide +kernel
theorem dX3_isTold_4 : decode cX3_isTold 4 = .ok (.invokestatic 56, 3) := by decide +kernel
theorem dX3_isTold_7 : decode cX3_isTold 7 = .ok (.ifCond .eq 16, 3) := by decide +kernel
theorem dX3_isTold_10 : decode cX3_isTold 10 = .ok (.aload_n 0, 1) := by decide +kernel
theorem dX3_isTold_11 : decode cX3_isTold 11 = .ok (.getfield 21, 3) := by decide +kernel
theorem dX3_isTold_14 : decode cX3_isTold 14 = .ok (.iload_n 1, 1) := by decide +kernel
theorem dX3_isTold_15 : decode cX3_isTold 15 = .ok (.baload, 1) := by decide +kernel
theorem dX3_isTold_16 : decode cX3_isTold 16 = .ok (.ifCond .eq 7, 3) := by decide +kernel
theorem dX3_isTold_19 : decode cX3_isTold 19 = .ok (.iconst 1, 1) := by decide +kernel
theorem dX3_isTold_20 : decode cX3_isTold 20 = .ok (.goto 4, 3) := by decide +kernel
theorem dX3_isTold_23 : decode cX3_isTold 23 = .ok (.iconst 0, 1) := by decide +kernel
theorem dX3_isTold_24 : decode cX3_isTold 24 = .ok (.ireturn, 1) := by decide +kernel
theorem dX3_toldFlows_0 : decode cX3_toldFlows 0 = .ok (.iconst 0, 1) := by decide +kernel
theorem dX3_toldFlows_1 : decode cX3_toldFlows 1 = .ok (.istore_n 1, 1) := by decide +kernel
theorem dX3_toldFlows_2 : decode cX3_toldFlows 2 = .ok (.iconst 0, 1) := by decide +kernel
theorem dX3_toldFlows_3 : decode cX3_toldFlows 3 = .ok (.istore_n 2, 1) := by decide +kernel
theorem dX3_toldFlows_4 : decode cX3_toldFlows 4 = .ok (.iload_n 2, 1) := by decide +kernel
theorem dX3_toldFlows_5 : decode cX3_toldFlows 5 = .ok (.bipush 9, 2) := by decide +kernel
theorem dX3_toldFlows_7 : decode cX3_toldFlows 7 = .ok (.if_icmp .ge 26, 3) := by decide +kernel
theorem dX3_toldFlows_10 : decode cX3_toldFlows 10 = .ok (.iload_n 1, 1) := by decide +kernel
theorem dX3_toldFlows_11 : decode cX3_toldFlows 11 = .ok (.aload_n 0, 1) := by decide +kernel
theorem dX3_toldFlows_12 : decode cX3_toldFlows 12 = .ok (.getfield 21, 3) := by decide +kernel
theorem dX3_toldFlows_15 : decode cX3_toldFlows 15 = .ok (.iload_n 2, 1) := by decide +kernel
theorem dX3_toldFlows_16 : decode cX3_toldFlows 16 = .ok (.baload, 1) := by decide +kernel
theorem dX3_toldFlows_17 : decode cX3_toldFlows 17 = .ok (.ifCond .eq 7, 3) := by decide +kernel
theorem dX3_toldFlows_20 : decode cX3_toldFlows 20 = .ok (.iconst 1, 1) := by decide +kernel
theorem dX3_toldFlows_21 : decode cX3_toldFlows 21 = .ok (.goto 4, 3) := by decide +kernel
theorem dX3_toldFlows_24 : decode cX3_toldFlows 24 = .ok (.iconst 0, 1) := by decide +kernel
theorem dX3_toldFlows_25 : decode cX3_toldFlows 25 = .ok (.iadd, 1) := by decide +kernel
theorem dX3_toldFlows_26 : decode cX3_toldFlows 26 = .ok (.istore_n 1, 1) := by decide +kernel
theorem dX3_toldFlows_27 : decode cX3_toldFlows 27 = .ok (.iinc 2 1, 3) := by decide +kernel
theorem dX3_toldFlows_30 : decode cX3_toldFlows 30 = .ok (.goto (-26), 3) := by decide +kernel
theorem dX3_toldFlows_33 : decode cX3_toldFlows 33 = .ok (.iload_n 1, 1) := by decide +kernel
theorem dX3_toldFlows_34 : decode cX3_toldFlows 34 = .ok (.ireturn, 1) := by decide +kernel
theorem dX3_liveIn_0 : decode cX3_liveIn 0 = .ok (.iconst 0, 1) := by decide +kernel
theorem dX3_liveIn_1 : decode cX3_liveIn 1 = .ok (.istore_n 2, 1) := by decide +kernel
theorem dX3_liveIn_2 : decode cX3_liveIn 2 = .ok (.iconst 0, 1) := by decide +kernel
theorem dX3_liveIn_3 : decode cX3_liveIn 3 = .ok (.istore_n 3, 1) := by decide +kernel
theorem dX3_liveIn_4 : decode cX3_liveIn 4 = .ok (.iload_n 3, 1) := by decide +kernel
theorem dX3_liveIn_5 : decode cX3_liveIn 5 = .ok (.bipush 10, 2) := by decide +kernel
theorem dX3_liveIn_7 : decode cX3_liveIn 7 = .ok (.if_icmp .ge 34, 3) := by decide +kernel
theorem dX3_liveIn_10 : decode cX3_liveIn 10 = .ok (.iload_n 1, 1) := by decide +kernel
theorem dX3_liveIn_11 : decode cX3_liveIn 11 = .ok (.aload_n 0, 1) := by decide +kernel
theorem dX3_liveIn_12 : decode cX3_liveIn 12 = .ok (.getfield 9, 3) := by decide +kernel
theorem dX3_liveIn_15 : decode cX3_liveIn 15 = .ok (.iload_n 3, 1) := by decide +kernel
theorem dX3_liveIn_16 : decode cX3_liveIn 16 = .ok (.iaload, 1) := by decide +kernel
theorem dX3_liveIn_17 : decode cX3_liveIn 17 = .ok (.aload_n 0, 1) := by decide +kernel
theorem dX3_liveIn_18 : decode cX3_liveIn 18 = .ok (.getfield 15, 3) := by decide +kernel
theorem dX3_liveIn_21 : decode cX3_liveIn 21 = .ok (.iload_n 3, 1) := by decide +kernel
theorem dX3_liveIn_22 : decode cX3_liveIn 22 = .ok (.iaload, 1) := by decide +kernel
theorem dX3_liveIn_23 : decode cX3_liveIn 23 = .ok (.invokestatic 56, 3) := by decide +kernel
theorem dX3_liveIn_26 : decode cX3_liveIn 26 = .ok (.ifCond .eq 9, 3) := by decide +kernel
theorem dX3_liveIn_29 : decode cX3_liveIn 29 = .ok (.iload_n 2, 1) := by decide +kernel
theorem dX3_liveIn_30 : decode cX3_liveIn 30 = .ok (.iconst 1, 1) := by decide +kernel
theorem dX3_liveIn_31 : decode cX3_liveIn 31 = .ok (.iload_n 3, 1) := by decide +kernel
theorem dX3_liveIn_32 : decode cX3_liveIn 32 = .ok (.ishl, 1) := by decide +kernel
theorem dX3_liveIn_33 : decode cX3_liveIn 33 = .ok (.ior, 1) := by decide +kernel
theorem dX3_liveIn_34 : decode cX3_liveIn 34 = .ok (.istore_n 2, 1) := by decide +kernel
theorem dX3_liveIn_35 : decode cX3_liveIn 35 = .ok (.iinc 3 1, 3) := by decide +kernel
theorem dX3_liveIn_38 : decode cX3_liveIn 38 = .ok (.goto (-34), 3) := by decide +kernel
theorem dX3_liveIn_41 : decode cX3_liveIn 41 = .ok (.iload_n 2, 1) := by decide +kernel
theorem dX3_liveIn_42 : decode cX3_liveIn 42 = .ok (.ireturn, 1) := by decide +kernel
theorem dX3_tell_0 : decode cX3_tell 0 = .ok (.aload_n 1, 1) := by decide +kernel
theorem dX3_tell_1 : decode cX3_tell 1 = .ok (.iload_n 2, 1) := by decide +kernel
theorem dX3_tell_2 : decode cX3_tell 2 = .ok (.iconst 1, 1) := by decide +kernel
theorem dX3_tell_3 : decode cX3_tell 3 = .ok (.iadd, 1) := by decide +kernel
theorem dX3_tell_4 : decode cX3_tell 4 = .ok (.iaload, 1) := by decide +kernel
theorem dX3_tell_5 : decode cX3_tell 5 = .ok (.istore_n 3, 1) := by decide +kernel
theorem dX3_tell_6 : decode cX3_tell 6 = .ok (.aload_n 1, 1) := by decide +kernel
theorem dX3_tell_7 : decode cX3_tell 7 = .ok (.iload_n 2, 1) := by decide +kernel
theorem dX3_tell_8 : decode cX3_tell 8 = .ok (.iaload, 1) := by decide +kernel
theorem dX3_tell_9 : decode cX3_tell 9 = .ok (.tableswitch 141 0 4 #[35, 71, 83, 108, 133], 35) := by decide +kernel
theorem dX3_tell_44 : decode cX3_tell 44 = .ok (.aload_n 0, 1) := by decide +kernel
theorem dX3_tell_45 : decode cX3_tell 45 = .ok (.getfield 9, 3) := by decide +kernel
theorem dX3_tell_48 : decode cX3_tell 48 = .ok (.iload_n 3, 1) := by decide +kernel
theorem dX3_tell_49 : decode cX3_tell 49 = .ok (.aload_n 1, 1) := by decide +kernel
theorem dX3_tell_50 : decode cX3_tell 50 = .ok (.iload_n 2, 1) := by decide +kernel
theorem dX3_tell_51 : decode cX3_tell 51 = .ok (.iconst 2, 1) := by decide +kernel
theorem dX3_tell_52 : decode cX3_tell 52 = .ok (.iadd, 1) := by decide +kernel
theorem dX3_tell_53 : decode cX3_tell 53 = .ok (.iaload, 1) := by decide +kernel
theorem dX3_tell_54 : decode cX3_tell 54 = .ok (.iastore, 1) := by decide +kernel
theorem dX3_tell_55 : decode cX3_tell 55 = .ok (.aload_n 0, 1) := by decide +kernel
theorem dX3_tell_56 : decode cX3_tell 56 = .ok (.getfield 15, 3) := by decide +kernel
theorem dX3_tell_59 : decode cX3_tell 59 = .ok (.iload_n 3, 1) := by decide +kernel
theorem dX3_tell_60 : decode cX3_tell 60 = .ok (.aload_n 1, 1) := by decide +kernel
theorem dX3_tell_61 : decode cX3_tell 61 = .ok (.iload_n 2, 1) := by decide +kernel
theorem dX3_tell_62 : decode cX3_tell 62 = .ok (.iconst 3, 1) := by decide +kernel
theorem dX3_tell_63 : decode cX3_tell 63 = .ok (.iadd, 1) := by decide +kernel
theorem dX3_tell_64 : decode cX3_tell 64 = .ok (.iaload, 1) := by decide +kernel
theorem dX3_tell_65 : decode cX3_tell 65 = .ok (.iastore, 1) := by decide +kernel
theorem dX3_tell_66 : decode cX3_tell 66 = .ok (.aload_n 0, 1) := by decide +kernel
theorem dX3_tell_67 : decode cX3_tell 67 = .ok (.getfield 18, 3) := by decide +kernel
theorem dX3_tell_70 : decode cX3_tell 70 = .ok (.iload_n 3, 1) := by decide +kernel
theorem dX3_tell_71 : decode cX3_tell 71 = .ok (.aload_n 1, 1) := by decide +kernel
theorem dX3_tell_72 : decode cX3_tell 72 = .ok (.iload_n 2, 1) := by decide +kernel
theorem dX3_tell_73 : decode cX3_tell 73 = .ok (.iconst 4, 1) := by decide +kernel
theorem dX3_tell_74 : decode cX3_tell 74 = .ok (.iadd, 1) := by decide +kernel
theorem dX3_tell_75 : decode cX3_tell 75 = .ok (.iaload, 1) := by decide +kernel
theorem dX3_tell_76 : decode cX3_tell 76 = .ok (.iastore, 1) := by decide +kernel
theorem dX3_tell_77 : decode cX3_tell 77 = .ok (.goto 78, 3) := by decide +kernel
theorem dX3_tell_80 : decode cX3_tell 80 = .ok (.aload_n 0, 1) := by decide +kernel
theorem dX3_tell_81 : decode cX3_tell 81 = .ok (.iload_n 3, 1) := by decide +kernel
theorem dX3_tell_82 : decode cX3_tell 82 = .ok (.aload_n 1, 1) := by decide +kernel
theorem dX3_tell_83 : decode cX3_tell 83 = .ok (.iload_n 2, 1) := by decide +kernel
theorem dX3_tell_84 : decode cX3_tell 84 = .ok (.iconst 2, 1) := by decide +kernel
theorem dX3_tell_85 : decode cX3_tell 85 = .ok (.iadd, 1) := by decide +kernel
theorem dX3_tell_86 : decode cX3_tell 86 = .ok (.invokevirtual 60, 3) := by decide +kernel
theorem dX3_tell_89 : decode cX3_tell 89 = .ok (.goto 66, 3) := by decide +kernel
theorem dX3_tell_92 : decode cX3_tell 92 = .ok (.aload_n 0, 1) := by decide +kernel
theorem dX3_tell_93 : decode cX3_tell 93 = .ok (.getfield 37, 3) := by decide +kernel
theorem dX3_tell_96 : decode cX3_tell 96 = .ok (.aload_n 0, 1) := by decide +kernel
theorem dX3_tell_97 : decode cX3_tell 97 = .ok (.getfield 43, 3) := by decide +kernel
theorem dX3_tell_100 : decode cX3_tell 100 = .ok (.iload_n 3, 1) := by decide +kernel
theorem dX3_tell_101 : decode cX3_tell 101 = .ok (.aload_n 1, 1) := by decide +kernel
theorem dX3_tell_102 : decode cX3_tell 102 = .ok (.iload_n 2, 1) := by decide +kernel
theorem dX3_tell_103 : decode cX3_tell 103 = .ok (.iconst 2, 1) := by decide +kernel
theorem dX3_tell_104 : decode cX3_tell 104 = .ok (.iadd, 1) := by decide +kernel
theorem dX3_tell_105 : decode cX3_tell 105 = .ok (.iaload, 1) := by decide +kernel
theorem dX3_tell_106 : decode cX3_tell 106 = .ok (.aload_n 1, 1) := by decide +kernel
theorem dX3_tell_107 : decode cX3_tell 107 = .ok (.iload_n 2, 1) := by decide +kernel
theorem dX3_tell_108 : decode cX3_tell 108 = .ok (.iconst 3, 1) := by decide +kernel
theorem dX3_tell_109 : decode cX3_tell 109 = .ok (.iadd, 1) := by decide +kernel
theorem dX3_tell_110 : decode cX3_tell 110 = .ok (.iaload, 1) := by decide +kernel
theorem dX3_tell_111 : decode cX3_tell 111 = .ok (.invokestatic 64, 3) := by decide +kernel
theorem dX3_tell_114 : decode cX3_tell 114 = .ok (.goto 41, 3) := by decide +kernel
theorem dX3_tell_117 : decode cX3_tell 117 = .ok (.aload_n 0, 1) := by decide +kernel
theorem dX3_tell_118 : decode cX3_tell 118 = .ok (.getfield 40, 3) := by decide +kernel
theorem dX3_tell_121 : decode cX3_tell 121 = .ok (.aload_n 0, 1) := by decide +kernel
theorem dX3_tell_122 : decode cX3_tell 122 = .ok (.getfield 46, 3) := by decide +kernel
theorem dX3_tell_125 : decode cX3_tell 125 = .ok (.iload_n 3, 1) := by decide +kernel
theorem dX3_tell_126 : decode cX3_tell 126 = .ok (.aload_n 1, 1) := by decide +kernel
theorem dX3_tell_127 : decode cX3_tell 127 = .ok (.iload_n 2, 1) := by decide +kernel
theorem dX3_tell_128 : decode cX3_tell 128 = .ok (.iconst 2, 1) := by decide +kernel
theorem dX3_tell_129 : decode cX3_tell 129 = .ok (.iadd, 1) := by decide +kernel
theorem dX3_tell_130 : decode cX3_tell 130 = .ok (.iaload, 1) := by decide +kernel
theorem dX3_tell_131 : decode cX3_tell 131 = .ok (.aload_n 1, 1) := by decide +kernel
theorem dX3_tell_132 : decode cX3_tell 132 = .ok (.iload_n 2, 1) := by decide +kernel
theorem dX3_tell_133 : decode cX3_tell 133 = .ok (.iconst 3, 1) := by decide +kernel
theorem dX3_tell_134 : decode cX3_tell 134 = .ok (.iadd, 1) := by decide +kernel
theorem dX3_tell_135 : decode cX3_tell 135 = .ok (.iaload, 1) := by decide +kernel
theorem dX3_tell_136 : decode cX3_tell 136 = .ok (.invokestatic 64, 3) := by decide +kernel
theorem dX3_tell_139 : decode cX3_tell 139 = .ok (.goto 16, 3) := by decide +kernel
theorem dX3_tell_142 : decode cX3_tell 142 = .ok (.aload_n 0, 1) := by decide +kernel
theorem dX3_tell_143 : decode cX3_tell 143 = .ok (.iload_n 3, 1) := by decide +kernel
theorem dX3_tell_144 : decode cX3_tell 144 = .ok (.putfield 49, 3) := by decide +kernel
theorem dX3_tell_147 : decode cX3_tell 147 = .ok (.goto 8, 3) := by decide +kernel
theorem dX3_tell_150 : decode cX3_tell 150 = .ok (.aload_n 0, 1) := by decide +kernel
theorem dX3_tell_151 : decode cX3_tell 151 = .ok (.iload_n 3, 1) := by decide +kernel
theorem dX3_tell_152 : decode cX3_tell 152 = .ok (.putfield 53, 3) := by decide +kernel
theorem dX3_tell_155 : decode cX3_tell 155 = .ok (.return_, 1) := by decide +kernel
theorem dX3_tellFlow_0 : decode cX3_tellFlow 0 = .ok (.aload_n 0, 1) := by decide +kernel
theorem dX3_tellFlow_1 : decode cX3_tellFlow 1 = .ok (.getfield 21, 3) := by decide +kernel
theorem dX3_tellFlow_4 : decode cX3_tellFlow 4 = .ok (.iload_n 1, 1) := by decide +kernel
theorem dX3_tellFlow_5 : decode cX3_tellFlow 5 = .ok (.iconst 1, 1) := by decide +kernel
theorem dX3_tellFlow_6 : decode cX3_tellFlow 6 = .ok (.bastore, 1) := by decide +kernel
theorem dX3_tellFlow_7 : decode cX3_tellFlow 7 = .ok (.aload_n 0, 1) := by decide +kernel
theorem dX3_tellFlow_8 : decode cX3_tellFlow 8 = .ok (.getfield 25, 3) := by decide +kernel
theorem dX3_tellFlow_11 : decode cX3_tellFlow 11 = .ok (.iload_n 1, 1) := by decide +kernel
theorem dX3_tellFlow_12 : decode cX3_tellFlow 12 = .ok (.aload_n 2, 1) := by decide +kernel
theorem dX3_tellFlow_13 : decode cX3_tellFlow 13 = .ok (.iload_n 3, 1) := by decide +kernel
theorem dX3_tellFlow_14 : decode cX3_tellFlow 14 = .ok (.iaload, 1) := by decide +kernel
theorem dX3_tellFlow_15 : decode cX3_tellFlow 15 = .ok (.iastore, 1) := by decide +kernel
theorem dX3_tellFlow_16 : decode cX3_tellFlow 16 = .ok (.aload_n 0, 1) := by decide +kernel
theorem dX3_tellFlow_17 : decode cX3_tellFlow 17 = .ok (.getfield 28, 3) := by decide +kernel
theorem dX3_tellFlow_20 : decode cX3_tellFlow 20 = .ok (.iload_n 1, 1) := by decide +kernel
theorem dX3_tellFlow_21 : decode cX3_tellFlow 21 = .ok (.aload_n 2, 1) := by decide +kernel
theorem dX3_tellFlow_22 : decode cX3_tellFlow 22 = .ok (.iload_n 3, 1) := by decide +kernel
theorem dX3_tellFlow_23 : decode cX3_tellFlow 23 = .ok (.iconst 1, 1) := by decide +kernel
theorem dX3_tellFlow_24 : decode cX3_tellFlow 24 = .ok (.iadd, 1) := by decide +kernel
theorem dX3_tellFlow_25 : decode cX3_tellFlow 25 = .ok (.iaload, 1) := by decide +kernel
theorem dX3_tellFlow_26 : decode cX3_tellFlow 26 = .ok (.iastore, 1) := by decide +kernel
theorem dX3_tellFlow_27 : decode cX3_tellFlow 27 = .ok (.iconst 0, 1) := by decide +kernel
theorem dX3_tellFlow_28 : decode cX3_tellFlow 28 = .ok (.istore 4, 2) := by decide +kernel
theorem dX3_tellFlow_30 : decode cX3_tellFlow 30 = .ok (.iload 4, 2) := by decide +kernel
theorem dX3_tellFlow_32 : decode cX3_tellFlow 32 = .ok (.iconst 3, 1) := by decide +kernel
theorem dX3_tellFlow_33 : decode cX3_tellFlow 33 = .ok (.if_icmp .ge 28, 3) := by decide +kernel
theorem dX3_tellFlow_36 : decode cX3_tellFlow 36 = .ok (.aload_n 0, 1) := by decide +kernel
theorem dX3_tellFlow_37 : decode cX3_tellFlow 37 = .ok (.getfield 31, 3) := by decide +kernel
theorem dX3_tellFlow_40 : decode cX3_tellFlow 40 = .ok (.iload_n 1, 1) := by decide +kernel
theorem dX3_tellFlow_41 : decode cX3_tellFlow 41 = .ok (.iconst 3, 1) := by decide +kernel
theorem dX3_tellFlow_42 : decode cX3_tellFlow 42 = .ok (.imul, 1) := by decide +kernel
theorem dX3_tellFlow_43 : decode cX3_tellFlow 43 = .ok (.iload 4, 2) := by decide +kernel
theorem dX3_tellFlow_45 : decode cX3_tellFlow 45 = .ok (.iadd, 1) := by decide +kernel
theorem dX3_tellFlow_46 : decode cX3_tellFlow 46 = .ok (.aload_n 2, 1) := by decide +kernel
theorem dX3_tellFlow_47 : decode cX3_tellFlow 47 = .ok (.iload_n 3, 1) := by decide +kernel
theorem dX3_tellFlow_48 : decode cX3_tellFlow 48 = .ok (.iconst 2, 1) := by decide +kernel
theorem dX3_tellFlow_49 : decode cX3_tellFlow 49 = .ok (.iadd, 1) := by decide +kernel
theorem dX3_tellFlow_50 : decode cX3_tellFlow 50 = .ok (.iload 4, 2) := by decide +kernel
theorem dX3_tellFlow_52 : decode cX3_tellFlow 52 = .ok (.iadd, 1) := by decide +kernel
theorem dX3_tellFlow_53 : decode cX3_tellFlow 53 = .ok (.iaload, 1) := by decide +kernel
theorem dX3_tellFlow_54 : decode cX3_tellFlow 54 = .ok (.iastore, 1) := by decide +kernel
theorem dX3_tellFlow_55 : decode cX3_tellFlow 55 = .ok (.iinc 4 1, 3) := by decide +kernel
theorem dX3_tellFlow_58 : decode cX3_tellFlow 58 = .ok (.goto (-28), 3) := by decide +kernel
theorem dX3_tellFlow_61 : decode cX3_tellFlow 61 = .ok (.aload_n 0, 1) := by decide +kernel
theorem dX3_tellFlow_62 : decode cX3_tellFlow 62 = .ok (.getfield 34, 3) := by decide +kernel
theorem dX3_tellFlow_65 : decode cX3_tellFlow 65 = .ok (.iload_n 1, 1) := by decide +kernel
theorem dX3_tellFlow_66 : decode cX3_tellFlow 66 = .ok (.aload_n 2, 1) := by decide +kernel
theorem dX3_tellFlow_67 : decode cX3_tellFlow 67 = .ok (.iload_n 3, 1) := by decide +kernel
theorem dX3_tellFlow_68 : decode cX3_tellFlow 68 = .ok (.iconst 2, 1) := by decide +kernel
theorem dX3_tellFlow_69 : decode cX3_tellFlow 69 = .ok (.iadd, 1) := by decide +kernel
theorem dX3_tellFlow_70 : decode cX3_tellFlow 70 = .ok (.iconst 3, 1) := by decide +kernel
theorem dX3_tellFlow_71 : decode cX3_tellFlow 71 = .ok (.iadd, 1) := by decide +kernel
theorem dX3_tellFlow_72 : decode cX3_tellFlow 72 = .ok (.iaload, 1) := by decide +kernel
theorem dX3_tellFlow_73 : decode cX3_tellFlow 73 = .ok (.iastore, 1) := by decide +kernel
theorem dX3_tellFlow_74 : decode cX3_tellFlow 74 = .ok (.return_, 1) := by decide +kernel
theorem dX3_tellWay_0 : decode cX3_tellWay 0 = .ok (.aload_n 0, 1) := by decide +kernel
theorem dX3_tellWay_1 : decode cX3_tellWay 1 = .ok (.iload_n 2, 1) := by decide +kernel
theorem dX3_tellWay_2 : decode cX3_tellWay 2 = .ok (.bipush 10, 2) := by decide +kernel
theorem dX3_tellWay_4 : decode cX3_tellWay 4 = .ok (.imul, 1) := by decide +kernel
theorem dX3_tellWay_5 : decode cX3_tellWay 5 = .ok (.iload_n 3, 1) := by decide +kernel
theorem dX3_tellWay_6 : decode cX3_tellWay 6 = .ok (.iadd, 1) := by decide +kernel
theorem dX3_tellWay_7 : decode cX3_tellWay 7 = .ok (.iload 4, 2) := by decide +kernel
theorem dX3_tellWay_9 : decode cX3_tellWay 9 = .ok (.iastore, 1) := by decide +kernel
theorem dX3_tellWay_10 : decode cX3_tellWay 10 = .ok (.aload_n 0, 1) := by decide +kernel
theorem dX3_tellWay_11 : decode cX3_tellWay 11 = .ok (.iload_n 3, 1) := by decide +kernel
theorem dX3_tellWay_12 : decode cX3_tellWay 12 = .ok (.bipush 10, 2) := by decide +kernel
theorem dX3_tellWay_14 : decode cX3_tellWay 14 = .ok (.imul, 1) := by decide +kernel
theorem dX3_tellWay_15 : decode cX3_tellWay 15 = .ok (.iload_n 2, 1) := by decide +kernel
theorem dX3_tellWay_16 : decode cX3_tellWay 16 = .ok (.iadd, 1) := by decide +kernel
theorem dX3_tellWay_17 : decode cX3_tellWay 17 = .ok (.iload 4, 2) := by decide +kernel
theorem dX3_tellWay_19 : decode cX3_tellWay 19 = .ok (.iastore, 1) := by decide +kernel
theorem dX3_tellWay_20 : decode cX3_tellWay 20 = .ok (.iload 4, 2) := by decide +kernel
theorem dX3_tellWay_22 : decode cX3_tellWay 22 = .ok (.ifCond .le 7, 3) := by decide +kernel
theorem dX3_tellWay_25 : decode cX3_tellWay 25 = .ok (.iconst 1, 1) := by decide +kernel
theorem dX3_tellWay_26 : decode cX3_tellWay 26 = .ok (.goto 4, 3) := by decide +kernel
theorem dX3_tellWay_29 : decode cX3_tellWay 29 = .ok (.iconst 0, 1) := by decide +kernel
theorem dX3_tellWay_30 : decode cX3_tellWay 30 = .ok (.istore 5, 2) := by decide +kernel
theorem dX3_tellWay_32 : decode cX3_tellWay 32 = .ok (.aload_n 1, 1) := by decide +kernel
theorem dX3_tellWay_33 : decode cX3_tellWay 33 = .ok (.iload_n 2, 1) := by decide +kernel
theorem dX3_tellWay_34 : decode cX3_tellWay 34 = .ok (.aload_n 1, 1) := by decide +kernel
theorem dX3_tellWay_35 : decode cX3_tellWay 35 = .ok (.iload_n 2, 1) := by decide +kernel
theorem dX3_tellWay_36 : decode cX3_tellWay 36 = .ok (.iaload, 1) := by decide +kernel
theorem dX3_tellWay_37 : decode cX3_tellWay 37 = .ok (.iconst 1, 1) := by decide +kernel
theorem dX3_tellWay_38 : decode cX3_tellWay 38 = .ok (.iload_n 3, 1) := by decide +kernel
theorem dX3_tellWay_39 : decode cX3_tellWay 39 = .ok (.ishl, 1) := by decide +kernel
theorem dX3_tellWay_40 : decode cX3_tellWay 40 = .ok (.iconst (-1), 1) := by decide +kernel
theorem dX3_tellWay_41 : decode cX3_tellWay 41 = .ok (.ixor, 1) := by decide +kernel
theorem dX3_tellWay_42 : decode cX3_tellWay 42 = .ok (.iand, 1) := by decide +kernel
theorem dX3_tellWay_43 : decode cX3_tellWay 43 = .ok (.iload 5, 2) := by decide +kernel
theorem dX3_tellWay_45 : decode cX3_tellWay 45 = .ok (.iload_n 3, 1) := by decide +kernel
theorem dX3_tellWay_46 : decode cX3_tellWay 46 = .ok (.ishl, 1) := by decide +kernel
theorem dX3_tellWay_47 : decode cX3_tellWay 47 = .ok (.ior, 1) := by decide +kernel
theorem dX3_tellWay_48 : decode cX3_tellWay 48 = .ok (.iastore, 1) := by decide +kernel
theorem dX3_tellWay_49 : decode cX3_tellWay 49 = .ok (.aload_n 1, 1) := by decide +kernel
theorem dX3_tellWay_50 : decode cX3_tellWay 50 = .ok (.iload_n 3, 1) := by decide +kernel
theorem dX3_tellWay_51 : decode cX3_tellWay 51 = .ok (.aload_n 1, 1) := by decide +kernel
theorem dX3_tellWay_52 : decode cX3_tellWay 52 = .ok (.iload_n 3, 1) := by decide +kernel
theorem dX3_tellWay_53 : decode cX3_tellWay 53 = .ok (.iaload, 1) := by decide +kernel
theorem dX3_tellWay_54 : decode cX3_tellWay 54 = .ok (.iconst 1, 1) := by decide +kernel
theorem dX3_tellWay_55 : decode cX3_tellWay 55 = .ok (.iload_n 2, 1) := by decide +kernel
theorem dX3_tellWay_56 : decode cX3_tellWay 56 = .ok (.ishl, 1) := by decide +kernel
theorem dX3_tellWay_57 : decode cX3_tellWay 57 = .ok (.iconst (-1), 1) := by decide +kernel
theorem dX3_tellWay_58 : decode cX3_tellWay 58 = .ok (.ixor, 1) := by decide +kernel
theorem dX3_tellWay_59 : decode cX3_tellWay 59 = .ok (.iand, 1) := by decide +kernel
theorem dX3_tellWay_60 : decode cX3_tellWay 60 = .ok (.iload 5, 2) := by decide +kernel
theorem dX3_tellWay_62 : decode cX3_tellWay 62 = .ok (.iload_n 2, 1) := by decide +kernel
theorem dX3_tellWay_63 : decode cX3_tellWay 63 = .ok (.ishl, 1) := by decide +kernel
theorem dX3_tellWay_64 : decode cX3_tellWay 64 = .ok (.ior, 1) := by decide +kernel
theorem dX3_tellWay_65 : decode cX3_tellWay 65 = .ok (.iastore, 1) := by decide +kernel
theorem dX3_tellWay_66 : decode cX3_tellWay 66 = .ok (.return_, 1) := by decide +kernel
theorem dX3_milesOf_0 : decode cX3_milesOf 0 = .ok (.aload_n 0, 1) := by decide +kernel
theorem dX3_milesOf_1 : decode cX3_milesOf 1 = .ok (.getfield 37, 3) := by decide +kernel
theorem dX3_milesOf_4 : decode cX3_milesOf 4 = .ok (.iload_n 1, 1) := by decide +kernel
theorem dX3_milesOf_5 : decode cX3_milesOf 5 = .ok (.bipush 10, 2) := by decide +kernel
theorem dX3_milesOf_7 : decode cX3_milesOf 7 = .ok (.imul, 1) := by decide +kernel
theorem dX3_milesOf_8 : decode cX3_milesOf 8 = .ok (.iload_n 2, 1) := by decide +kernel
theorem dX3_milesOf_9 : decode cX3_milesOf 9 = .ok (.iadd, 1) := by decide +kernel
theorem dX3_milesOf_10 : decode cX3_milesOf 10 = .ok (.iaload, 1) := by decide +kernel
theorem dX3_milesOf_11 : decode cX3_milesOf 11 = .ok (.istore 4, 2) := by decide +kernel
theorem dX3_milesOf_13 : decode cX3_milesOf 13 = .ok (.iload_n 3, 1) := by decide +kernel
theorem dX3_milesOf_14 : decode cX3_milesOf 14 = .ok (.ifCond .eq 17, 3) := by decide +kernel
theorem dX3_milesOf_17 : decode cX3_milesOf 17 = .ok (.aload_n 0, 1) := by decide +kernel
theorem dX3_milesOf_18 : decode cX3_milesOf 18 = .ok (.getfield 40, 3) := by decide +kernel
theorem dX3_milesOf_21 : decode cX3_milesOf 21 = .ok (.iload_n 1, 1) := by decide +kernel
theorem dX3_milesOf_22 : decode cX3_milesOf 22 = .ok (.bipush 10, 2) := by decide +kernel
theorem dX3_milesOf_24 : decode cX3_milesOf 24 = .ok (.imul, 1) := by decide +kernel
theorem dX3_milesOf_25 : decode cX3_milesOf 25 = .ok (.iload_n 2, 1) := by decide +kernel
theorem dX3_milesOf_26 : decode cX3_milesOf 26 = .ok (.iadd, 1) := by decide +kernel
theorem dX3_milesOf_27 : decode cX3_milesOf 27 = .ok (.iaload, 1) := by decide +kernel
theorem dX3_milesOf_28 : decode cX3_milesOf 28 = .ok (.goto 4, 3) := by decide +kernel
theorem dX3_milesOf_31 : decode cX3_milesOf 31 = .ok (.iconst 0, 1) := by decide +kernel
theorem dX3_milesOf_32 : decode cX3_milesOf 32 = .ok (.istore 5, 2) := by decide +kernel
theorem dX3_milesOf_34 : decode cX3_milesOf 34 = .ok (.iload 4, 2) := by decide +kernel
theorem dX3_milesOf_36 : decode cX3_milesOf 36 = .ok (.ifCond .eq 8, 3) := by decide +kernel
theorem dX3_milesOf_39 : decode cX3_milesOf 39 = .ok (.iload 5, 2) := by decide +kernel
theorem dX3_milesOf_41 : decode cX3_milesOf 41 = .ok (.ifCond .ne 9, 3) := by decide +kernel
theorem dX3_milesOf_44 : decode cX3_milesOf 44 = .ok (.iload 4, 2) := by decide +kernel
theorem dX3_milesOf_46 : decode cX3_milesOf 46 = .ok (.iload 5, 2) := by decide +kernel
theorem dX3_milesOf_48 : decode cX3_milesOf 48 = .ok (.iadd, 1) := by decide +kernel
theorem dX3_milesOf_49 : decode cX3_milesOf 49 = .ok (.ireturn, 1) := by decide +kernel
theorem dX3_milesOf_50 : decode cX3_milesOf 50 = .ok (.iload 4, 2) := by decide +kernel
theorem dX3_milesOf_52 : decode cX3_milesOf 52 = .ok (.iload 5, 2) := by decide +kernel
theorem dX3_milesOf_54 : decode cX3_milesOf 54 = .ok (.invokestatic 68, 3) := by decide +kernel
theorem dX3_milesOf_57 : decode cX3_milesOf 57 = .ok (.ireturn, 1) := by decide +kernel
theorem dX3_waysFrom_0 : decode cX3_waysFrom 0 = .ok (.iload_n 2, 1) := by decide +kernel
theorem dX3_waysFrom_1 : decode cX3_waysFrom 1 = .ok (.ifCond .eq 19, 3) := by decide +kernel
theorem dX3_waysFrom_4 : decode cX3_waysFrom 4 = .ok (.aload_n 0, 1) := by decide +kernel
theorem dX3_waysFrom_5 : decode cX3_waysFrom 5 = .ok (.getfield 43, 3) := by decide +kernel
theorem dX3_waysFrom_8 : decode cX3_waysFrom 8 = .ok (.iload_n 1, 1) := by decide +kernel
theorem dX3_waysFrom_9 : decode cX3_waysFrom 9 = .ok (.iaload, 1) := by decide +kernel
theorem dX3_waysFrom_10 : decode cX3_waysFrom 10 = .ok (.aload_n 0, 1) := by decide +kernel
theorem dX3_waysFrom_11 : decode cX3_waysFrom 11 = .ok (.getfield 46, 3) := by decide +kernel
theorem dX3_waysFrom_14 : decode cX3_waysFrom 14 = .ok (.iload_n 1, 1) := by decide +kernel
theorem dX3_waysFrom_15 : decode cX3_waysFrom 15 = .ok (.iaload, 1) := by decide +kernel
theorem dX3_waysFrom_16 : decode cX3_waysFrom 16 = .ok (.ior, 1) := by decide +kernel
theorem dX3_waysFrom_17 : decode cX3_waysFrom 17 = .ok (.goto 9, 3) := by decide +kernel
theorem dX3_waysFrom_20 : decode cX3_waysFrom 20 = .ok (.aload_n 0, 1) := by decide +kernel
theorem dX3_waysFrom_21 : decode cX3_waysFrom 21 = .ok (.getfield 43, 3) := by decide +kernel
theorem dX3_waysFrom_24 : decode cX3_waysFrom 24 = .ok (.iload_n 1, 1) := by decide +kernel
theorem dX3_waysFrom_25 : decode cX3_waysFrom 25 = .ok (.iaload, 1) := by decide +kernel
theorem dX3_waysFrom_26 : decode cX3_waysFrom 26 = .ok (.ireturn, 1) := by decide +kernel
theorem dX4_init_0 : decode cX4_init 0 = .ok (.aload_n 0, 1) := by decide +kernel
theorem dX4_init_1 : decode cX4_init 1 = .ok (.invokespecial 3, 3) := by decide +kernel
theorem dX4_init_4 : decode cX4_init 4 = .ok (.aload_n 0, 1) := by decide +kernel
theorem dX4_init_5 : decode cX4_init 5 = .ok (.aload_n 1, 1) := by decide +kernel
theorem dX4_init_6 : decode cX4_init 6 = .ok (.putfield 9, 3) := by decide +kernel
theorem dX4_init_9 : decode cX4_init 9 = .ok (.aload_n 0, 1) := by decide +kernel
theorem dX4_init_10 : decode cX4_init 10 = .ok (.aload_n 2, 1) := by decide +kernel
theorem dX4_init_11 : decode cX4_init 11 = .ok (.putfield 15, 3) := by decide +kernel
theorem dX4_init_14 : decode cX4_init 14 = .ok (.aload_n 0, 1) := by decide +kernel
theorem dX4_init_15 : decode cX4_init 15 = .ok (.aload_n 3, 1) := by decide +kernel
theorem dX4_init_16 : decode cX4_init 16 = .ok (.putfield 19, 3) := by decide +kernel
theorem dX4_init_19 : decode cX4_init 19 = .ok (.aload_n 0, 1) := by decide +kernel
theorem dX4_init_20 : decode cX4_init 20 = .ok (.bipush 10, 2) := by decide +kernel
theorem dX4_init_22 : decode cX4_init 22 = .ok (.newarray .int, 2) := by decide +kernel
theorem dX4_init_24 : decode cX4_init 24 = .ok (.putfield 23, 3) := by decide +kernel
theorem dX4_init_27 : decode cX4_init 27 = .ok (.return_, 1) := by decide +kernel
theorem dX4_fewestLegs_0 : decode cX4_fewestLegs 0 = .ok (.iconst 1, 1) := by decide +kernel
theorem dX4_fewestLegs_1 : decode cX4_fewestLegs 1 = .ok (.iload_n 1, 1) := by decide +kernel
theorem dX4_fewestLegs_2 : decode cX4_fewestLegs 2 = .ok (.ishl, 1) := by decide +kernel
theorem dX4_fewestLegs_3 : decode cX4_fewestLegs 3 = .ok (.istore 5, 2) := by decide +kernel
theorem dX4_fewestLegs_5 : decode cX4_fewestLegs 5 = .ok (.iload 5, 2) := by decide +kernel
theorem dX4_fewestLegs_7 : decode cX4_fewestLegs 7 = .ok (.istore 6, 2) := by decide +kernel
theorem dX4_fewestLegs_9 : decode cX4_fewestLegs 9 = .ok (.iconst 0, 1) := by decide +kernel
theorem dX4_fewestLegs_10 : decode cX4_fewestLegs 10 = .ok (.istore 7, 2) := by decide +kernel
theorem dX4_fewestLegs_12 : decode cX4_fewestLegs 12 = .ok (.iload 7, 2) := by decide +kernel
theorem dX4_fewestLegs_14 : decode cX4_fewestLegs 14 = .ok (.bipush 10, 2) := by decide +kernel
theorem dX4_fewestLegs_16 : decode cX4_fewestLegs 16 = .ok (.if_icmp .ge 91, 3) := by decide +kernel
theorem dX4_fewestLegs_19 : decode cX4_fewestLegs 19 = .ok (.iload 5, 2) := by decide +kernel
theorem dX4_fewestLegs_21 : decode cX4_fewestLegs 21 = .ok (.iload_n 2, 1) := by decide +kernel
theorem dX4_fewestLegs_22 : decode cX4_fewestLegs 22 = .ok (.invokestatic 27, 3) := by decide +kernel
theorem dX4_fewestLegs_25 : decode cX4_fewestLegs 25 = .ok (.ifCond .eq 6, 3) := by decide +kernel
theorem dX4_fewestLegs_28 : decode cX4_fewestLegs 28 = .ok (.iload 7, 2) := by decide +kernel
theorem dX4_fewestLegs_30 : decode cX4_fewestLegs 30 = .ok (.ireturn, 1) := by decide +kernel
theorem dX4_fewestLegs_31 : decode cX4_fewestLegs 31 = .ok (.iconst 0, 1) := by decide +kernel
theorem dX4_fewestLegs_32 : decode cX4_fewestLegs 32 = .ok (.istore 8, 2) := by decide +kernel
theorem dX4_fewestLegs_34 : decode cX4_fewestLegs 34 = .ok (.iconst 0, 1) := by decide +kernel
theorem dX4_fewestLegs_35 : decode cX4_fewestLegs 35 = .ok (.istore 9, 2) := by decide +kernel
theorem dX4_fewestLegs_37 : decode cX4_fewestLegs 37 = .ok (.iload 9, 2) := by decide +kernel
theorem dX4_fewestLegs_39 : decode cX4_fewestLegs 39 = .ok (.bipush 10, 2) := by decide +kernel
theorem dX4_fewestLegs_41 : decode cX4_fewestLegs 41 = .ok (.if_icmp .ge 35, 3) := by decide +kernel
theorem dX4_fewestLegs_44 : decode cX4_fewestLegs 44 = .ok (.iload 6, 2) := by decide +kernel
theorem dX4_fewestLegs_46 : decode cX4_fewestLegs 46 = .ok (.iload 9, 2) := by decide +kernel
theorem dX4_fewestLegs_48 : decode cX4_fewestLegs 48 = .ok (.invokestatic 27, 3) := by decide +kernel
theorem dX4_fewestLegs_51 : decode cX4_fewestLegs 51 = .ok (.ifCond .eq 19, 3) := by decide +kernel
theorem dX4_fewestLegs_54 : decode cX4_fewestLegs 54 = .ok (.iload 8, 2) := by decide +kernel
theorem dX4_fewestLegs_56 : decode cX4_fewestLegs 56 = .ok (.aload_n 0, 1) := by decide +kernel
theorem dX4_fewestLegs_57 : decode cX4_fewestLegs 57 = .ok (.getfield 9, 3) := by decide +kernel
theorem dX4_fewestLegs_60 : decode cX4_fewestLegs 60 = .ok (.iload 9, 2) := by decide +kernel
theorem dX4_fewestLegs_62 : decode cX4_fewestLegs 62 = .ok (.iload 4, 2) := by decide +kernel
theorem dX4_fewestLegs_64 : decode cX4_fewestLegs 64 = .ok (.invokevirtual 31, 3) := by decide +kernel
theorem dX4_fewestLegs_67 : decode cX4_fewestLegs 67 = .ok (.ior, 1) := by decide +kernel
theorem dX4_fewestLegs_68 : decode cX4_fewestLegs 68 = .ok (.istore 8, 2) := by decide +kernel
theorem dX4_fewestLegs_70 : decode cX4_fewestLegs 70 = .ok (.iinc 9 1, 3) := by decide +kernel
theorem dX4_fewestLegs_73 : decode cX4_fewestLegs 73 = .ok (.goto (-36), 3) := by decide +kernel
theorem dX4_fewestLegs_76 : decode cX4_fewestLegs 76 = .ok (.iload 8, 2) := by decide +kernel
theorem dX4_fewestLegs_78 : decode cX4_fewestLegs 78 = .ok (.iload_n 3, 1) := by decide +kernel
theorem dX4_fewestLegs_79 : decode cX4_fewestLegs 79 = .ok (.iand, 1) := by decide +kernel
theorem dX4_fewestLegs_80 : decode cX4_fewestLegs 80 = .ok (.iload 5, 2) := by decide +kernel
theorem dX4_fewestLegs_82 : decode cX4_fewestLegs 82 = .ok (.iconst (-1), 1) := by decide +kernel
theorem dX4_fewestLegs_83 : decode cX4_fewestLegs 83 = .ok (.ixor, 1) := by decide +kernel
theorem dX4_fewestLegs_84 : decode cX4_fewestLegs 84 = .ok (.iand, 1) := by decide +kernel
theorem dX4_fewestLegs_85 : decode cX4_fewestLegs 85 = .ok (.istore 6, 2) := by decide +kernel
theorem dX4_fewestLegs_87 : decode cX4_fewestLegs 87 = .ok (.iload 6, 2) := by decide +kernel
theorem dX4_fewestLegs_89 : decode cX4_fewestLegs 89 = .ok (.ifCond .ne 5, 3) := by decide +kernel
theorem dX4_fewestLegs_92 : decode cX4_fewestLegs 92 = .ok (.iconst (-1), 1) := by decide +kernel
theorem dX4_fewestLegs_93 : decode cX4_fewestLegs 93 = .ok (.ireturn, 1) := by decide +kernel
theorem dX4_fewestLegs_94 : decode cX4_fewestLegs 94 = .ok (.iload 5, 2) := by decide +kernel
theorem dX4_fewestLegs_96 : decode cX4_fewestLegs 96 = .ok (.iload 6, 2) := by decide +kernel
theorem dX4_fewestLegs_98 : decode cX4_fewestLegs 98 = .ok (.ior, 1) := by decide +kernel
theorem dX4_fewestLegs_99 : decode cX4_fewestLegs 99 = .ok (.istore 5, 2) := by decide +kernel
theorem dX4_fewestLegs_101 : decode cX4_fewestLegs 101 = .ok (.iinc 7 1, 3) := by decide +kernel
theorem dX4_fewestLegs_104 : decode cX4_fewestLegs 104 = .ok (.goto (-92), 3) := by decide +kernel
theorem dX4_fewestLegs_107 : decode cX4_fewestLegs 107 = .ok (.iconst (-1), 1) := by decide +kernel
theorem dX4_fewestLegs_108 : decode cX4_fewestLegs 108 = .ok (.ireturn, 1) := by decide +kernel
theorem dX4_measureMiles_0 : decode cX4_measureMiles 0 = .ok (.iconst 0, 1) := by decide +kernel
theorem dX4_measureMiles_1 : decode cX4_measureMiles 1 = .ok (.istore 4, 2) := by decide +kernel
theorem dX4_measureMiles_3 : decode cX4_measureMiles 3 = .ok (.iload 4, 2) := by decide +kernel
theorem dX4_measureMiles_5 : decode cX4_measureMiles 5 = .ok (.bipush 10, 2) := by decide +kernel
theorem dX4_measureMiles_7 : decode cX4_measureMiles 7 = .ok (.if_icmp .ge 17, 3) := by decide +kernel
theorem dX4_measureMiles_10 : decode cX4_measureMiles 10 = .ok (.aload_n 0, 1) := by decide +kernel
theorem dX4_measureMiles_11 : decode cX4_measureMiles 11 = .ok (.getfield 23, 3) := by decide +kernel
theorem dX4_measureMiles_14 : decode cX4_measureMiles 14 = .ok (.iload 4, 2) := by decide +kernel
theorem dX4_measureMiles_16 : decode cX4_measureMiles 16 = .ok (.iconst (-1), 1) := by decide +kernel
theorem dX4_measureMiles_17 : decode cX4_measureMiles 17 = .ok (.iastore, 1) := by decide +kernel
theorem dX4_measureMiles_18 : decode cX4_measureMiles 18 = .ok (.iinc 4 1, 3) := by decide +kernel
theorem dX4_measureMiles_21 : decode cX4_measureMiles 21 = .ok (.goto (-18), 3) := by decide +kernel
theorem dX4_measureMiles_24 : decode cX4_measureMiles 24 = .ok (.aload_n 0, 1) := by decide +kernel
theorem dX4_measureMiles_25 : decode cX4_measureMiles 25 = .ok (.getfield 23, 3) := by decide +kernel
theorem dX4_measureMiles_28 : decode cX4_measureMiles 28 = .ok (.iload_n 1, 1) := by decide +kernel
theorem dX4_measureMiles_29 : decode cX4_measureMiles 29 = .ok (.iconst 0, 1) := by decide +kernel
theorem dX4_measureMiles_30 : decode cX4_measureMiles 30 = .ok (.iastore, 1) := by decide +kernel
theorem dX4_measureMiles_31 : decode cX4_measureMiles 31 = .ok (.sipush 1023, 3) := by decide +kernel
theorem dX4_measureMiles_34 : decode cX4_measureMiles 34 = .ok (.istore 4, 2) := by decide +kernel
theorem dX4_measureMiles_36 : decode cX4_measureMiles 36 = .ok (.iconst 0, 1) := by decide +kernel
theorem dX4_measureMiles_37 : decode cX4_measureMiles 37 = .ok (.istore 5, 2) := by decide +kernel
theorem dX4_measureMiles_39 : decode cX4_measureMiles 39 = .ok (.iload 5, 2) := by decide +kernel
theorem dX4_measureMiles_41 : decode cX4_measureMiles 41 = .ok (.bipush 10, 2) := by decide +kernel
theorem dX4_measureMiles_43 : decode cX4_measureMiles 43 = .ok (.if_icmp .ge 46, 3) := by decide +kernel
theorem dX4_measureMiles_46 : decode cX4_measureMiles 46 = .ok (.aload_n 0, 1) := by decide +kernel
theorem dX4_measureMiles_47 : decode cX4_measureMiles 47 = .ok (.iload 4, 2) := by decide +kernel
theorem dX4_measureMiles_49 : decode cX4_measureMiles 49 = .ok (.invokevirtual 37, 3) := by decide +kernel
theorem dX4_measureMiles_52 : decode cX4_measureMiles 52 = .ok (.istore 6, 2) := by decide +kernel
theorem dX4_measureMiles_54 : decode cX4_measureMiles 54 = .ok (.iload 6, 2) := by decide +kernel
theorem dX4_measureMiles_56 : decode cX4_measureMiles 56 = .ok (.iconst (-1), 1) := by decide +kernel
theorem dX4_measureMiles_57 : decode cX4_measureMiles 57 = .ok (.if_icmp .ne 4, 3) := by decide +kernel
theorem dX4_measureMiles_60 : decode cX4_measureMiles 60 = .ok (.return_, 1) := by decide +kernel
theorem dX4_measureMiles_61 : decode cX4_measureMiles 61 = .ok (.iload 4, 2) := by decide +kernel
theorem dX4_measureMiles_63 : decode cX4_measureMiles 63 = .ok (.iconst 1, 1) := by decide +kernel
theorem dX4_measureMiles_64 : decode cX4_measureMiles 64 = .ok (.iload 6, 2) := by decide +kernel
theorem dX4_measureMiles_66 : decode cX4_measureMiles 66 = .ok (.ishl, 1) := by decide +kernel
theorem dX4_measureMiles_67 : decode cX4_measureMiles 67 = .ok (.iconst (-1), 1) := by decide +kernel
theorem dX4_measureMiles_68 : decode cX4_measureMiles 68 = .ok (.ixor, 1) := by decide +kernel
theorem dX4_measureMiles_69 : decode cX4_measureMiles 69 = .ok (.iand, 1) := by decide +kernel
theorem dX4_measureMiles_70 : decode cX4_measureMiles 70 = .ok (.istore 4, 2) := by decide +kernel
theorem dX4_measureMiles_72 : decode cX4_measureMiles 72 = .ok (.aload_n 0, 1) := by decide +kernel
theorem dX4_measureMiles_73 : decode cX4_measureMiles 73 = .ok (.iload 6, 2) := by decide +kernel
theorem dX4_measureMiles_75 : decode cX4_measureMiles 75 = .ok (.iload 4, 2) := by decide +kernel
theorem dX4_measureMiles_77 : decode cX4_measureMiles 77 = .ok (.iload_n 2, 1) := by decide +kernel
theorem dX4_measureMiles_78 : decode cX4_measureMiles 78 = .ok (.iand, 1) := by decide +kernel
theorem dX4_measureMiles_79 : decode cX4_measureMiles 79 = .ok (.iload_n 3, 1) := by decide +kernel
theorem dX4_measureMiles_80 : decode cX4_measureMiles 80 = .ok (.invokevirtual 41, 3) := by decide +kernel
theorem dX4_measureMiles_83 : decode cX4_measureMiles 83 = .ok (.iinc 5 1, 3) := by decide +kernel
theorem dX4_measureMiles_86 : decode cX4_measureMiles 86 = .ok (.goto (-47), 3) := by decide +kernel
theorem dX4_measureMiles_89 : decode cX4_measureMiles 89 = .ok (.return_, 1) := by decide +kernel
theorem dX4_nearestOf_0 : decode cX4_nearestOf 0 = .ok (.iconst (-1), 1) := by decide +kernel
theorem dX4_nearestOf_1 : decode cX4_nearestOf 1 = .ok (.istore_n 2, 1) := by decide +kernel
theorem dX4_nearestOf_2 : decode cX4_nearestOf 2 = .ok (.iconst 0, 1) := by decide +kernel
theorem dX4_nearestOf_3 : decode cX4_nearestOf 3 = .ok (.istore_n 3, 1) := by decide +kernel
theorem dX4_nearestOf_4 : decode cX4_nearestOf 4 = .ok (.iload_n 3, 1) := by decide +kernel
theorem dX4_nearestOf_5 : decode cX4_nearestOf 5 = .ok (.bipush 10, 2) := by decide +kernel
theorem dX4_nearestOf_7 : decode cX4_nearestOf 7 = .ok (.if_icmp .ge 49, 3) := by decide +kernel
theorem dX4_nearestOf_10 : decode cX4_nearestOf 10 = .ok (.iload_n 1, 1) := by decide +kernel
theorem dX4_nearestOf_11 : decode cX4_nearestOf 11 = .ok (.iload_n 3, 1) := by decide +kernel
theorem dX4_nearestOf_12 : decode cX4_nearestOf 12 = .ok (.invokestatic 27, 3) := by decide +kernel
theorem dX4_nearestOf_15 : decode cX4_nearestOf 15 = .ok (.ifCond .eq 35, 3) := by decide +kernel
theorem dX4_nearestOf_18 : decode cX4_nearestOf 18 = .ok (.aload_n 0, 1) := by decide +kernel
theorem dX4_nearestOf_19 : decode cX4_nearestOf 19 = .ok (.getfield 23, 3) := by decide +kernel
theorem dX4_nearestOf_22 : decode cX4_nearestOf 22 = .ok (.iload_n 3, 1) := by decide +kernel
theorem dX4_nearestOf_23 : decode cX4_nearestOf 23 = .ok (.iaload, 1) := by decide +kernel
theorem dX4_nearestOf_24 : decode cX4_nearestOf 24 = .ok (.iconst (-1), 1) := by decide +kernel
theorem dX4_nearestOf_25 : decode cX4_nearestOf 25 = .ok (.if_icmp .eq 25, 3) := by decide +kernel
theorem dX4_nearestOf_28 : decode cX4_nearestOf 28 = .ok (.iload_n 2, 1) := by decide +kernel
theorem dX4_nearestOf_29 : decode cX4_nearestOf 29 = .ok (.iconst (-1), 1) := by decide +kernel
theorem dX4_nearestOf_30 : decode cX4_nearestOf 30 = .ok (.if_icmp .eq 18, 3) := by decide +kernel
theorem dX4_nearestOf_33 : decode cX4_nearestOf 33 = .ok (.aload_n 0, 1) := by decide +kernel
theorem dX4_nearestOf_34 : decode cX4_nearestOf 34 = .ok (.getfield 23, 3) := by decide +kernel
theorem dX4_nearestOf_37 : decode cX4_nearestOf 37 = .ok (.iload_n 3, 1) := by decide +kernel
theorem dX4_nearestOf_38 : decode cX4_nearestOf 38 = .ok (.iaload, 1) := by decide +kernel
theorem dX4_nearestOf_39 : decode cX4_nearestOf 39 = .ok (.aload_n 0, 1) := by decide +kernel
theorem dX4_nearestOf_40 : decode cX4_nearestOf 40 = .ok (.getfield 23, 3) := by decide +kernel
theorem dX4_nearestOf_43 : decode cX4_nearestOf 43 = .ok (.iload_n 2, 1) := by decide +kernel
theorem dX4_nearestOf_44 : decode cX4_nearestOf 44 = .ok (.iaload, 1) := by decide +kernel
theorem dX4_nearestOf_45 : decode cX4_nearestOf 45 = .ok (.if_icmp .ge 5, 3) := by decide +kernel
theorem dX4_nearestOf_48 : decode cX4_nearestOf 48 = .ok (.iload_n 3, 1) := by decide +kernel
theorem dX4_nearestOf_49 : decode cX4_nearestOf 49 = .ok (.istore_n 2, 1) := by decide +kernel
theorem dX4_nearestOf_50 : decode cX4_nearestOf 50 = .ok (.iinc 3 1, 3) := by decide +kernel
theorem dX4_nearestOf_53 : decode cX4_nearestOf 53 = .ok (.goto (-49), 3) := by decide +kernel
theorem dX4_nearestOf_56 : decode cX4_nearestOf 56 = .ok (.iload_n 2, 1) := by decide +kernel
theorem dX4_nearestOf_57 : decode cX4_nearestOf 57 = .ok (.ireturn, 1) := by decide +kernel
theorem dX4_goOnFrom_0 : decode cX4_goOnFrom 0 = .ok (.iconst 0, 1) := by decide +kernel
theorem dX4_goOnFrom_1 : decode cX4_goOnFrom 1 = .ok (.istore 4, 2) := by decide +kernel
theorem dX4_goOnFrom_3 : decode cX4_goOnFrom 3 = .ok (.iload 4, 2) := by decide +kernel
theorem dX4_goOnFrom_5 : decode cX4_goOnFrom 5 = .ok (.bipush 10, 2) := by decide +kernel
theorem dX4_goOnFrom_7 : decode cX4_goOnFrom 7 = .ok (.if_icmp .ge 66, 3) := by decide +kernel
theorem dX4_goOnFrom_10 : decode cX4_goOnFrom 10 = .ok (.iload_n 2, 1) := by decide +kernel
theorem dX4_goOnFrom_11 : decode cX4_goOnFrom 11 = .ok (.iload 4, 2) := by decide +kernel
theorem dX4_goOnFrom_13 : decode cX4_goOnFrom 13 = .ok (.invokestatic 27, 3) := by decide +kernel
theorem dX4_goOnFrom_16 : decode cX4_goOnFrom 16 = .ok (.ifCond .eq 17, 3) := by decide +kernel
theorem dX4_goOnFrom_19 : decode cX4_goOnFrom 19 = .ok (.aload_n 0, 1) := by decide +kernel
theorem dX4_goOnFrom_20 : decode cX4_goOnFrom 20 = .ok (.getfield 9, 3) := by decide +kernel
theorem dX4_goOnFrom_23 : decode cX4_goOnFrom 23 = .ok (.iload_n 1, 1) := by decide +kernel
theorem dX4_goOnFrom_24 : decode cX4_goOnFrom 24 = .ok (.iload 4, 2) := by decide +kernel
theorem dX4_goOnFrom_26 : decode cX4_goOnFrom 26 = .ok (.iload_n 3, 1) := by decide +kernel
theorem dX4_goOnFrom_27 : decode cX4_goOnFrom 27 = .ok (.invokevirtual 45, 3) := by decide +kernel
theorem dX4_goOnFrom_30 : decode cX4_goOnFrom 30 = .ok (.goto 4, 3) := by decide +kernel
theorem dX4_goOnFrom_33 : decode cX4_goOnFrom 33 = .ok (.iconst 0, 1) := by decide +kernel
theorem dX4_goOnFrom_34 : decode cX4_goOnFrom 34 = .ok (.istore 5, 2) := by decide +kernel
theorem dX4_goOnFrom_36 : decode cX4_goOnFrom 36 = .ok (.iload 5, 2) := by decide +kernel
theorem dX4_goOnFrom_38 : decode cX4_goOnFrom 38 = .ok (.ifCond .le 29, 3) := by decide +kernel
theorem dX4_goOnFrom_41 : decode cX4_goOnFrom 41 = .ok (.aload_n 0, 1) := by decide +kernel
theorem dX4_goOnFrom_42 : decode cX4_goOnFrom 42 = .ok (.getfield 23, 3) := by decide +kernel
theorem dX4_goOnFrom_45 : decode cX4_goOnFrom 45 = .ok (.iload 4, 2) := by decide +kernel
theorem dX4_goOnFrom_47 : decode cX4_goOnFrom 47 = .ok (.aload_n 0, 1) := by decide +kernel
theorem dX4_goOnFrom_48 : decode cX4_goOnFrom 48 = .ok (.getfield 23, 3) := by decide +kernel
theorem dX4_goOnFrom_51 : decode cX4_goOnFrom 51 = .ok (.iload 4, 2) := by decide +kernel
theorem dX4_goOnFrom_53 : decode cX4_goOnFrom 53 = .ok (.iaload, 1) := by decide +kernel
theorem dX4_goOnFrom_54 : decode cX4_goOnFrom 54 = .ok (.aload_n 0, 1) := by decide +kernel
theorem dX4_goOnFrom_55 : decode cX4_goOnFrom 55 = .ok (.getfield 23, 3) := by decide +kernel
theorem dX4_goOnFrom_58 : decode cX4_goOnFrom 58 = .ok (.iload_n 1, 1) := by decide +kernel
theorem dX4_goOnFrom_59 : decode cX4_goOnFrom 59 = .ok (.iaload, 1) := by decide +kernel
theorem dX4_goOnFrom_60 : decode cX4_goOnFrom 60 = .ok (.iload 5, 2) := by decide +kernel
theorem dX4_goOnFrom_62 : decode cX4_goOnFrom 62 = .ok (.iadd, 1) := by decide +kernel
theorem dX4_goOnFrom_63 : decode cX4_goOnFrom 63 = .ok (.invokestatic 49, 3) := by decide +kernel
theorem dX4_goOnFrom_66 : decode cX4_goOnFrom 66 = .ok (.iastore, 1) := by decide +kernel
theorem dX4_goOnFrom_67 : decode cX4_goOnFrom 67 = .ok (.iinc 4 1, 3) := by decide +kernel
theorem dX4_goOnFrom_70 : decode cX4_goOnFrom 70 = .ok (.goto (-67), 3) := by decide +kernel
theorem dX4_goOnFrom_73 : decode cX4_goOnFrom 73 = .ok (.return_, 1) := by decide +kernel
theorem dX4_firstYear_0 : decode cX4_firstYear 0 = .ok (.iconst (-1), 1) := by decide +kernel
theorem dX4_firstYear_1 : decode cX4_firstYear 1 = .ok (.istore 4, 2) := by decide +kernel
theorem dX4_firstYear_3 : decode cX4_firstYear 3 = .ok (.iconst (-1), 1) := by decide +kernel
theorem dX4_firstYear_4 : decode cX4_firstYear 4 = .ok (.istore 5, 2) := by decide +kernel
theorem dX4_firstYear_6 : decode cX4_firstYear 6 = .ok (.iload 5, 2) := by decide +kernel
theorem dX4_firstYear_8 : decode cX4_firstYear 8 = .ok (.bipush 10, 2) := by decide +kernel
theorem dX4_firstYear_10 : decode cX4_firstYear 10 = .ok (.if_icmp .ge 41, 3) := by decide +kernel
theorem dX4_firstYear_13 : decode cX4_firstYear 13 = .ok (.aload_n 0, 1) := by decide +kernel
theorem dX4_firstYear_14 : decode cX4_firstYear 14 = .ok (.iload_n 1, 1) := by decide +kernel
theorem dX4_firstYear_15 : decode cX4_firstYear 15 = .ok (.iload_n 2, 1) := by decide +kernel
theorem dX4_firstYear_16 : decode cX4_firstYear 16 = .ok (.iload 5, 2) := by decide +kernel
theorem dX4_firstYear_18 : decode cX4_firstYear 18 = .ok (.invokevirtual 53, 3) := by decide +kernel
theorem dX4_firstYear_21 : decode cX4_firstYear 21 = .ok (.istore 6, 2) := by decide +kernel
theorem dX4_firstYear_23 : decode cX4_firstYear 23 = .ok (.aload_n 0, 1) := by decide +kernel
theorem dX4_firstYear_24 : decode cX4_firstYear 24 = .ok (.iload 6, 2) := by decide +kernel
theorem dX4_firstYear_26 : decode cX4_firstYear 26 = .ok (.iload_n 1, 1) := by decide +kernel
theorem dX4_firstYear_27 : decode cX4_firstYear 27 = .ok (.iload_n 2, 1) := by decide +kernel
theorem dX4_firstYear_28 : decode cX4_firstYear 28 = .ok (.iload_n 3, 1) := by decide +kernel
theorem dX4_firstYear_29 : decode cX4_firstYear 29 = .ok (.invokevirtual 57, 3) := by decide +kernel
theorem dX4_firstYear_32 : decode cX4_firstYear 32 = .ok (.iconst (-1), 1) := by decide +kernel
theorem dX4_firstYear_33 : decode cX4_firstYear 33 = .ok (.if_icmp .eq 12, 3) := by decide +kernel
theorem dX4_firstYear_36 : decode cX4_firstYear 36 = .ok (.iload 4, 2) := by decide +kernel
theorem dX4_firstYear_38 : decode cX4_firstYear 38 = .ok (.iload 6, 2) := by decide +kernel
theorem dX4_firstYear_40 : decode cX4_firstYear 40 = .ok (.invokestatic 49, 3) := by decide +kernel
theorem dX4_firstYear_43 : decode cX4_firstYear 43 = .ok (.istore 4, 2) := by decide +kernel
theorem dX4_firstYear_45 : decode cX4_firstYear 45 = .ok (.iinc 5 1, 3) := by decide +kernel
theorem dX4_firstYear_48 : decode cX4_firstYear 48 = .ok (.goto (-42), 3) := by decide +kernel
theorem dX4_firstYear_51 : decode cX4_firstYear 51 = .ok (.iload 4, 2) := by decide +kernel
theorem dX4_firstYear_53 : decode cX4_firstYear 53 = .ok (.ireturn, 1) := by decide +kernel
theorem dX4_legsInAnyYear_0 : decode cX4_legsInAnyYear 0 = .ok (.iconst (-1), 1) := by decide +kernel
theorem dX4_legsInAnyYear_1 : decode cX4_legsInAnyYear 1 = .ok (.istore 4, 2) := by decide +kernel
theorem dX4_legsInAnyYear_3 : decode cX4_legsInAnyYear 3 = .ok (.iconst (-1), 1) := by decide +kernel
theorem dX4_legsInAnyYear_4 : decode cX4_legsInAnyYear 4 = .ok (.istore 5, 2) := by decide +kernel
theorem dX4_legsInAnyYear_6 : decode cX4_legsInAnyYear 6 = .ok (.iload 5, 2) := by decide +kernel
theorem dX4_legsInAnyYear_8 : decode cX4_legsInAnyYear 8 = .ok (.bipush 10, 2) := by decide +kernel
theorem dX4_legsInAnyYear_10 : decode cX4_legsInAnyYear 10 = .ok (.if_icmp .ge 41, 3) := by decide +kernel
theorem dX4_legsInAnyYear_13 : decode cX4_legsInAnyYear 13 = .ok (.aload_n 0, 1) := by decide +kernel
theorem dX4_legsInAnyYear_14 : decode cX4_legsInAnyYear 14 = .ok (.aload_n 0, 1) := by decide +kernel
theorem dX4_legsInAnyYear_15 : decode cX4_legsInAnyYear 15 = .ok (.iload_n 1, 1) := by decide +kernel
theorem dX4_legsInAnyYear_16 : decode cX4_legsInAnyYear 16 = .ok (.iload_n 2, 1) := by decide +kernel
theorem dX4_legsInAnyYear_17 : decode cX4_legsInAnyYear 17 = .ok (.iload 5, 2) := by decide +kernel
theorem dX4_legsInAnyYear_19 : decode cX4_legsInAnyYear 19 = .ok (.invokevirtual 53, 3) := by decide +kernel
theorem dX4_legsInAnyYear_22 : decode cX4_legsInAnyYear 22 = .ok (.iload_n 1, 1) := by decide +kernel
theorem dX4_legsInAnyYear_23 : decode cX4_legsInAnyYear 23 = .ok (.iload_n 2, 1) := by decide +kernel
theorem dX4_legsInAnyYear_24 : decode cX4_legsInAnyYear 24 = .ok (.iload_n 3, 1) := by decide +kernel
theorem dX4_legsInAnyYear_25 : decode cX4_legsInAnyYear 25 = .ok (.invokevirtual 57, 3) := by decide +kernel
theorem dX4_legsInAnyYear_28 : decode cX4_legsInAnyYear 28 = .ok (.istore 6, 2) := by decide +kernel
theorem dX4_legsInAnyYear_30 : decode cX4_legsInAnyYear 30 = .ok (.iload 6, 2) := by decide +kernel
theorem dX4_legsInAnyYear_32 : decode cX4_legsInAnyYear 32 = .ok (.iconst (-1), 1) := by decide +kernel
theorem dX4_legsInAnyYear_33 : decode cX4_legsInAnyYear 33 = .ok (.if_icmp .eq 12, 3) := by decide +kernel
theorem dX4_legsInAnyYear_36 : decode cX4_legsInAnyYear 36 = .ok (.iload 4, 2) := by decide +kernel
theorem dX4_legsInAnyYear_38 : decode cX4_legsInAnyYear 38 = .ok (.iload 6, 2) := by decide +kernel
theorem dX4_legsInAnyYear_40 : decode cX4_legsInAnyYear 40 = .ok (.invokestatic 49, 3) := by decide +kernel
theorem dX4_legsInAnyYear_43 : decode cX4_legsInAnyYear 43 = .ok (.istore 4, 2) := by decide +kernel
theorem dX4_legsInAnyYear_45 : decode cX4_legsInAnyYear 45 = .ok (.iinc 5 1, 3) := by decide +kernel
theorem dX4_legsInAnyYear_48 : decode cX4_legsInAnyYear 48 = .ok (.goto (-42), 3) := by decide +kernel
theorem dX4_legsInAnyYear_51 : decode cX4_legsInAnyYear 51 = .ok (.iload 4, 2) := by decide +kernel
theorem dX4_legsInAnyYear_53 : decode cX4_legsInAnyYear 53 = .ok (.ireturn, 1) := by decide +kernel
theorem dX4_yearOfChange_0 : decode cX4_yearOfChange 0 = .ok (.aload_n 0, 1) := by decide +kernel
theorem dX4_yearOfChange_1 : decode cX4_yearOfChange 1 = .ok (.getfield 19, 3) := by decide +kernel
theorem dX4_yearOfChange_4 : decode cX4_yearOfChange 4 = .ok (.iconst 0, 1) := by decide +kernel
theorem dX4_yearOfChange_5 : decode cX4_yearOfChange 5 = .ok (.iload_n 1, 1) := by decide +kernel
theorem dX4_yearOfChange_6 : decode cX4_yearOfChange 6 = .ok (.invokevirtual 61, 3) := by decide +kernel
theorem dX4_yearOfChange_9 : decode cX4_yearOfChange 9 = .ok (.aload_n 0, 1) := by decide +kernel
theorem dX4_yearOfChange_10 : decode cX4_yearOfChange 10 = .ok (.getfield 9, 3) := by decide +kernel
theorem dX4_yearOfChange_13 : decode cX4_yearOfChange 13 = .ok (.getfield 66, 3) := by decide +kernel
theorem dX4_yearOfChange_16 : decode cX4_yearOfChange 16 = .ok (.iload_n 2, 1) := by decide +kernel
theorem dX4_yearOfChange_17 : decode cX4_yearOfChange 17 = .ok (.iaload, 1) := by decide +kernel
theorem dX4_yearOfChange_18 : decode cX4_yearOfChange 18 = .ok (.invokestatic 69, 3) := by decide +kernel
theorem dX4_yearOfChange_21 : decode cX4_yearOfChange 21 = .ok (.istore 4, 2) := by decide +kernel
theorem dX4_yearOfChange_23 : decode cX4_yearOfChange 23 = .ok (.aload_n 0, 1) := by decide +kernel
theorem dX4_yearOfChange_24 : decode cX4_yearOfChange 24 = .ok (.getfield 19, 3) := by decide +kernel
theorem dX4_yearOfChange_27 : decode cX4_yearOfChange 27 = .ok (.iconst 5, 1) := by decide +kernel
theorem dX4_yearOfChange_28 : decode cX4_yearOfChange 28 = .ok (.iload_n 1, 1) := by decide +kernel
theorem dX4_yearOfChange_29 : decode cX4_yearOfChange 29 = .ok (.invokevirtual 61, 3) := by decide +kernel
theorem dX4_yearOfChange_32 : decode cX4_yearOfChange 32 = .ok (.istore 5, 2) := by decide +kernel
theorem dX4_yearOfChange_34 : decode cX4_yearOfChange 34 = .ok (.iload_n 3, 1) := by decide +kernel
theorem dX4_yearOfChange_35 : decode cX4_yearOfChange 35 = .ok (.iconst (-1), 1) := by decide +kernel
theorem dX4_yearOfChange_36 : decode cX4_yearOfChange 36 = .ok (.if_icmp .ne 8, 3) := by decide +kernel
theorem dX4_yearOfChange_39 : decode cX4_yearOfChange 39 = .ok (.iload 4, 2) := by decide +kernel
theorem dX4_yearOfChange_41 : decode cX4_yearOfChange 41 = .ok (.goto 12, 3) := by decide +kernel
theorem dX4_yearOfChange_44 : decode cX4_yearOfChange 44 = .ok (.aload_n 0, 1) := by decide +kernel
theorem dX4_yearOfChange_45 : decode cX4_yearOfChange 45 = .ok (.getfield 9, 3) := by decide +kernel
theorem dX4_yearOfChange_48 : decode cX4_yearOfChange 48 = .ok (.getfield 74, 3) := by decide +kernel
theorem dX4_yearOfChange_51 : decode cX4_yearOfChange 51 = .ok (.iload_n 3, 1) := by decide +kernel
theorem dX4_yearOfChange_52 : decode cX4_yearOfChange 52 = .ok (.iaload, 1) := by decide +kernel
theorem dX4_yearOfChange_53 : decode cX4_yearOfChange 53 = .ok (.istore 6, 2) := by decide +kernel
theorem dX4_yearOfChange_55 : decode cX4_yearOfChange 55 = .ok (.iload 6, 2) := by decide +kernel
theorem dX4_yearOfChange_57 : decode cX4_yearOfChange 57 = .ok (.iload 4, 2) := by decide +kernel
theorem dX4_yearOfChange_59 : decode cX4_yearOfChange 59 = .ok (.iload 5, 2) := by decide +kernel
theorem dX4_yearOfChange_61 : decode cX4_yearOfChange 61 = .ok (.invokestatic 77, 3) := by decide +kernel
theorem dX4_yearOfChange_64 : decode cX4_yearOfChange 64 = .ok (.ifCond .eq 8, 3) := by decide +kernel
theorem dX4_yearOfChange_67 : decode cX4_yearOfChange 67 = .ok (.iload 6, 2) := by decide +kernel
theorem dX4_yearOfChange_69 : decode cX4_yearOfChange 69 = .ok (.goto 4, 3) := by decide +kernel
theorem dX4_yearOfChange_72 : decode cX4_yearOfChange 72 = .ok (.iconst (-1), 1) := by decide +kernel
theorem dX4_yearOfChange_73 : decode cX4_yearOfChange 73 = .ok (.ireturn, 1) := by decide +kernel
theorem dX4_legsIn_0 : decode cX4_legsIn 0 = .ok (.iload_n 1, 1) := by decide +kernel
theorem dX4_legsIn_1 : decode cX4_legsIn 1 = .ok (.iconst (-1), 1) := by decide +kernel
theorem dX4_legsIn_2 : decode cX4_legsIn 2 = .ok (.if_icmp .ne 5, 3) := by decide +kernel
theorem dX4_legsIn_5 : decode cX4_legsIn 5 = .ok (.iconst (-1), 1) := by decide +kernel
theorem dX4_legsIn_6 : decode cX4_legsIn 6 = .ok (.ireturn, 1) := by decide +kernel
theorem dX4_legsIn_7 : decode cX4_legsIn 7 = .ok (.aload_n 0, 1) := by decide +kernel
theorem dX4_legsIn_8 : decode cX4_legsIn 8 = .ok (.aload_n 0, 1) := by decide +kernel
theorem dX4_legsIn_9 : decode cX4_legsIn 9 = .ok (.getfield 9, 3) := by decide +kernel
theorem dX4_legsIn_12 : decode cX4_legsIn 12 = .ok (.getfield 81, 3) := by decide +kernel
theorem dX4_legsIn_15 : decode cX4_legsIn 15 = .ok (.iload_n 3, 1) := by decide +kernel
theorem dX4_legsIn_16 : decode cX4_legsIn 16 = .ok (.iaload, 1) := by decide +kernel
theorem dX4_legsIn_17 : decode cX4_legsIn 17 = .ok (.aload_n 0, 1) := by decide +kernel
theorem dX4_legsIn_18 : decode cX4_legsIn 18 = .ok (.getfield 15, 3) := by decide +kernel
theorem dX4_legsIn_21 : decode cX4_legsIn 21 = .ok (.getfield 84, 3) := by decide +kernel
theorem dX4_legsIn_24 : decode cX4_legsIn 24 = .ok (.iload_n 2, 1) := by decide +kernel
theorem dX4_legsIn_25 : decode cX4_legsIn 25 = .ok (.iaload, 1) := by decide +kernel
theorem dX4_legsIn_26 : decode cX4_legsIn 26 = .ok (.aload_n 0, 1) := by decide +kernel
theorem dX4_legsIn_27 : decode cX4_legsIn 27 = .ok (.getfield 9, 3) := by decide +kernel
theorem dX4_legsIn_30 : decode cX4_legsIn 30 = .ok (.iload_n 1, 1) := by decide +kernel
theorem dX4_legsIn_31 : decode cX4_legsIn 31 = .ok (.invokevirtual 89, 3) := by decide +kernel
theorem dX4_legsIn_34 : decode cX4_legsIn 34 = .ok (.iload 4, 2) := by decide +kernel
theorem dX4_legsIn_36 : decode cX4_legsIn 36 = .ok (.invokevirtual 92, 3) := by decide +kernel
theorem dX4_legsIn_39 : decode cX4_legsIn 39 = .ok (.ireturn, 1) := by decide +kernel
theorem dX4_comeByBoat_0 : decode cX4_comeByBoat 0 = .ok (.aload_n 0, 1) := by decide +kernel
theorem dX4_comeByBoat_1 : decode cX4_comeByBoat 1 = .ok (.getfield 19, 3) := by decide +kernel
theorem dX4_comeByBoat_4 : decode cX4_comeByBoat 4 = .ok (.invokevirtual 95, 3) := by decide +kernel
theorem dX4_comeByBoat_7 : decode cX4_comeByBoat 7 = .ok (.ifCond .ne 5, 3) := by decide +kernel
theorem dX4_comeByBoat_10 : decode cX4_comeByBoat 10 = .ok (.iconst 0, 1) := by decide +kernel
theorem dX4_comeByBoat_11 : decode cX4_comeByBoat 11 = .ok (.ireturn, 1) := by decide +kernel
theorem dX4_comeByBoat_12 : decode cX4_comeByBoat 12 = .ok (.iconst 0, 1) := by decide +kernel
theorem dX4_comeByBoat_13 : decode cX4_comeByBoat 13 = .ok (.istore_n 1, 1) := by decide +kernel
theorem dX4_comeByBoat_14 : decode cX4_comeByBoat 14 = .ok (.iconst 0, 1) := by decide +kernel
theorem dX4_comeByBoat_15 : decode cX4_comeByBoat 15 = .ok (.istore_n 2, 1) := by decide +kernel
theorem dX4_comeByBoat_16 : decode cX4_comeByBoat 16 = .ok (.iload_n 2, 1) := by decide +kernel
theorem dX4_comeByBoat_17 : decode cX4_comeByBoat 17 = .ok (.aload_n 0, 1) := by decide +kernel
theorem dX4_comeByBoat_18 : decode cX4_comeByBoat 18 = .ok (.getfield 15, 3) := by decide +kernel
theorem dX4_comeByBoat_21 : decode cX4_comeByBoat 21 = .ok (.getfield 99, 3) := by decide +kernel
theorem dX4_comeByBoat_24 : decode cX4_comeByBoat 24 = .ok (.if_icmp .ge 23, 3) := by decide +kernel
theorem dX4_comeByBoat_27 : decode cX4_comeByBoat 27 = .ok (.aload_n 0, 1) := by decide +kernel
theorem dX4_comeByBoat_28 : decode cX4_comeByBoat 28 = .ok (.iload_n 2, 1) := by decide +kernel
theorem dX4_comeByBoat_29 : decode cX4_comeByBoat 29 = .ok (.invokevirtual 103, 3) := by decide +kernel
theorem dX4_comeByBoat_32 : decode cX4_comeByBoat 32 = .ok (.ifCond .eq 9, 3) := by decide +kernel
theorem dX4_comeByBoat_35 : decode cX4_comeByBoat 35 = .ok (.iload_n 1, 1) := by decide +kernel
theorem dX4_comeByBoat_36 : decode cX4_comeByBoat 36 = .ok (.iconst 1, 1) := by decide +kernel
theorem dX4_comeByBoat_37 : decode cX4_comeByBoat 37 = .ok (.iload_n 2, 1) := by decide +kernel
theorem dX4_comeByBoat_38 : decode cX4_comeByBoat 38 = .ok (.ishl, 1) := by decide +kernel
theorem dX4_comeByBoat_39 : decode cX4_comeByBoat 39 = .ok (.ior, 1) := by decide +kernel
theorem dX4_comeByBoat_40 : decode cX4_comeByBoat 40 = .ok (.istore_n 1, 1) := by decide +kernel
theorem dX4_comeByBoat_41 : decode cX4_comeByBoat 41 = .ok (.iinc 2 1, 3) := by decide +kernel
theorem dX4_comeByBoat_44 : decode cX4_comeByBoat 44 = .ok (.goto (-28), 3) := by decide +kernel
theorem dX4_comeByBoat_47 : decode cX4_comeByBoat 47 = .ok (.iload_n 1, 1) := by decide +kernel
theorem dX4_comeByBoat_48 : decode cX4_comeByBoat 48 = .ok (.ireturn, 1) := by decide +kernel
theorem dX4_mustHaveSailed_0 : decode cX4_mustHaveSailed 0 = .ok (.aload_n 0, 1) := by decide +kernel
theorem dX4_mustHaveSailed_1 : decode cX4_mustHaveSailed 1 = .ok (.getfield 19, 3) := by decide +kernel
theorem dX4_mustHaveSailed_4 : decode cX4_mustHaveSailed 4 = .ok (.getfield 107, 3) := by decide +kernel
theorem dX4_mustHaveSailed_7 : decode cX4_mustHaveSailed 7 = .ok (.iload_n 1, 1) := by decide +kernel
theorem dX4_mustHaveSailed_8 : decode cX4_mustHaveSailed 8 = .ok (.iaload, 1) := by decide +kernel
theorem dX4_mustHaveSailed_9 : decode cX4_mustHaveSailed 9 = .ok (.istore_n 2, 1) := by decide +kernel
theorem dX4_mustHaveSailed_10 : decode cX4_mustHaveSailed 10 = .ok (.iconst 0, 1) := by decide +kernel
theorem dX4_mustHaveSailed_11 : decode cX4_mustHaveSailed 11 = .ok (.istore_n 3, 1) := by decide +kernel
theorem dX4_mustHaveSailed_12 : decode cX4_mustHaveSailed 12 = .ok (.iconst 0, 1) := by decide +kernel
theorem dX4_mustHaveSailed_13 : decode cX4_mustHaveSailed 13 = .ok (.istore 4, 2) := by decide +kernel
theorem dX4_mustHaveSailed_15 : decode cX4_mustHaveSailed 15 = .ok (.iload 4, 2) := by decide +kernel
theorem dX4_mustHaveSailed_17 : decode cX4_mustHaveSailed 17 = .ok (.bipush 9, 2) := by decide +kernel
theorem dX4_mustHaveSailed_19 : decode cX4_mustHaveSailed 19 = .ok (.if_icmp .ge 54, 3) := by decide +kernel
theorem dX4_mustHaveSailed_22 : decode cX4_mustHaveSailed 22 = .ok (.iload_n 2, 1) := by decide +kernel
theorem dX4_mustHaveSailed_23 : decode cX4_mustHaveSailed 23 = .ok (.iload 4, 2) := by decide +kernel
theorem dX4_mustHaveSailed_25 : decode cX4_mustHaveSailed 25 = .ok (.invokestatic 27, 3) := by decide +kernel
theorem dX4_mustHaveSailed_28 : decode cX4_mustHaveSailed 28 = .ok (.ifCond .eq 39, 3) := by decide +kernel
theorem dX4_mustHaveSailed_31 : decode cX4_mustHaveSailed 31 = .ok (.aload_n 0, 1) := by decide +kernel
theorem dX4_mustHaveSailed_32 : decode cX4_mustHaveSailed 32 = .ok (.iload_n 1, 1) := by decide +kernel
theorem dX4_mustHaveSailed_33 : decode cX4_mustHaveSailed 33 = .ok (.iload 4, 2) := by decide +kernel
theorem dX4_mustHaveSailed_35 : decode cX4_mustHaveSailed 35 = .ok (.iconst 0, 1) := by decide +kernel
theorem dX4_mustHaveSailed_36 : decode cX4_mustHaveSailed 36 = .ok (.invokevirtual 110, 3) := by decide +kernel
theorem dX4_mustHaveSailed_39 : decode cX4_mustHaveSailed 39 = .ok (.iconst (-1), 1) := by decide +kernel
theorem dX4_mustHaveSailed_40 : decode cX4_mustHaveSailed 40 = .ok (.if_icmp .eq 5, 3) := by decide +kernel
theorem dX4_mustHaveSailed_43 : decode cX4_mustHaveSailed 43 = .ok (.iconst 0, 1) := by decide +kernel
theorem dX4_mustHaveSailed_44 : decode cX4_mustHaveSailed 44 = .ok (.ireturn, 1) := by decide +kernel
theorem dX4_mustHaveSailed_45 : decode cX4_mustHaveSailed 45 = .ok (.iload_n 3, 1) := by decide +kernel
theorem dX4_mustHaveSailed_46 : decode cX4_mustHaveSailed 46 = .ok (.ifCond .ne 15, 3) := by decide +kernel
theorem dX4_mustHaveSailed_49 : decode cX4_mustHaveSailed 49 = .ok (.aload_n 0, 1) := by decide +kernel
theorem dX4_mustHaveSailed_50 : decode cX4_mustHaveSailed 50 = .ok (.iload_n 1, 1) := by decide +kernel
theorem dX4_mustHaveSailed_51 : decode cX4_mustHaveSailed 51 = .ok (.iload 4, 2) := by decide +kernel
theorem dX4_mustHaveSailed_53 : decode cX4_mustHaveSailed 53 = .ok (.iconst 1, 1) := by decide +kernel
theorem dX4_mustHaveSailed_54 : decode cX4_mustHaveSailed 54 = .ok (.invokevirtual 110, 3) := by decide +kernel
theorem dX4_mustHaveSailed_57 : decode cX4_mustHaveSailed 57 = .ok (.iconst (-1), 1) := by decide +kernel
theorem dX4_mustHaveSailed_58 : decode cX4_mustHaveSailed 58 = .ok (.if_icmp .eq 7, 3) := by decide +kernel
theorem dX4_mustHaveSailed_61 : decode cX4_mustHaveSailed 61 = .ok (.iconst 1, 1) := by decide +kernel
theorem dX4_mustHaveSailed_62 : decode cX4_mustHaveSailed 62 = .ok (.goto 4, 3) := by decide +kernel
theorem dX4_mustHaveSailed_65 : decode cX4_mustHaveSailed 65 = .ok (.iconst 0, 1) := by decide +kernel
theorem dX4_mustHaveSailed_66 : decode cX4_mustHaveSailed 66 = .ok (.istore_n 3, 1) := by decide +kernel
theorem dX4_mustHaveSailed_67 : decode cX4_mustHaveSailed 67 = .ok (.iinc 4 1, 3) := by decide +kernel
theorem dX4_mustHaveSailed_70 : decode cX4_mustHaveSailed 70 = .ok (.goto (-55), 3) := by decide +kernel
theorem dX4_mustHaveSailed_73 : decode cX4_mustHaveSailed 73 = .ok (.iload_n 3, 1) := by decide +kernel
theorem dX4_mustHaveSailed_74 : decode cX4_mustHaveSailed 74 = .ok (.ireturn, 1) := by decide +kernel
end
section
theorem dX5_init_0 : decode cX5_init 0 = .ok (.aload_n 0, 1) := by decide +kernel
theorem dX5_init_1 : decode cX5_init 1 = .ok (.invokespecial 3, 3) := by decide +kernel
theorem dX5_init_4 : decode cX5_init 4 = .ok (.aload_n 0, 1) := by decide +kernel
theorem dX5_init_5 : decode cX5_init 5 = .ok (.aload_n 1, 1) := by decide +kernel
theorem dX5_init_6 : decode cX5_init 6 = .ok (.putfield 9, 3) := by decide +kernel
theorem dX5_init_9 : decode cX5_init 9 = .ok (.aload_n 0, 1) := by decide +kernel
theorem dX5_init_10 : decode cX5_init 10 = .ok (.aload_n 2, 1) := by decide +kernel
theorem dX5_init_11 : decode cX5_init 11 = .ok (.putfield 15, 3) := by decide +kernel
theorem dX5_init_14 : decode cX5_init 14 = .ok (.aload_n 0, 1) := by decide +kernel
theorem dX5_init_15 : decode cX5_init 15 = .ok (.bipush 12, 2) := by decide +kernel
theorem dX5_init_17 : decode cX5_init 17 = .ok (.newarray .int, 2) := by decide +kernel
theorem dX5_init_19 : decode cX5_init 19 = .ok (.putfield 19, 3) := by decide +kernel
theorem dX5_init_22 : decode cX5_init 22 = .ok (.aload_n 0, 1) := by decide +kernel
theorem dX5_init_23 : decode cX5_init 23 = .ok (.bipush 12, 2) := by decide +kernel
theorem dX5_init_25 : decode cX5_init 25 = .ok (.newarray .int, 2) := by decide +kernel
theorem dX5_init_27 : decode cX5_init 27 = .ok (.putfield 23, 3) := by decide +kernel
theorem dX5_init_30 : decode cX5_init 30 = .ok (.aload_n 0, 1) := by decide +kernel
theorem dX5_init_31 : decode cX5_init 31 = .ok (.bipush 12, 2) := by decide +kernel
theorem dX5_init_33 : decode cX5_init 33 = .ok (.newarray .int, 2) := by decide +kernel
theorem dX5_init_35 : decode cX5_init 35 = .ok (.putfield 26, 3) := by decide +kernel
theorem dX5_init_38 : decode cX5_init 38 = .ok (.return_, 1) := by decide +kernel
theorem dX5_mayBeFrom_0 : decode cX5_mayBeFrom 0 = .ok (.aload_n 0, 1) := by decide +kernel
theorem dX5_mayBeFrom_1 : decode cX5_mayBeFrom 1 = .ok (.getfield 15, 3) := by decide +kernel
theorem dX5_mayBeFrom_4 : decode cX5_mayBeFrom 4 = .ok (.invokevirtual 29, 3) := by decide +kernel
theorem dX5_mayBeFrom_7 : decode cX5_mayBeFrom 7 = .ok (.aload_n 0, 1) := by decide +kernel
theorem dX5_mayBeFrom_8 : decode cX5_mayBeFrom 8 = .ok (.iload_n 1, 1) := by decide +kernel
theorem dX5_mayBeFrom_9 : decode cX5_mayBeFrom 9 = .ok (.invokevirtual 34, 3) := by decide +kernel
theorem dX5_mayBeFrom_12 : decode cX5_mayBeFrom 12 = .ok (.ireturn, 1) := by decide +kernel
theorem dX5_longestRow_0 : decode cX5_longestRow 0 = .ok (.aload_n 0, 1) := by decide +kernel
theorem dX5_longestRow_1 : decode cX5_longestRow 1 = .ok (.getfield 15, 3) := by decide +kernel
theorem dX5_longestRow_4 : decode cX5_longestRow 4 = .ok (.invokevirtual 29, 3) := by decide +kernel
theorem dX5_longestRow_7 : decode cX5_longestRow 7 = .ok (.iconst 0, 1) := by decide +kernel
theorem dX5_longestRow_8 : decode cX5_longestRow 8 = .ok (.istore_n 2, 1) := by decide +kernel
theorem dX5_longestRow_9 : decode cX5_longestRow 9 = .ok (.iload_n 2, 1) := by decide +kernel
theorem dX5_longestRow_10 : decode cX5_longestRow 10 = .ok (.aload_n 0, 1) := by decide +kernel
theorem dX5_longestRow_11 : decode cX5_longestRow 11 = .ok (.getfield 9, 3) := by decide +kernel
theorem dX5_longestRow_14 : decode cX5_longestRow 14 = .ok (.getfield 38, 3) := by decide +kernel
theorem dX5_longestRow_17 : decode cX5_longestRow 17 = .ok (.if_icmp .ge 20, 3) := by decide +kernel
theorem dX5_longestRow_20 : decode cX5_longestRow 20 = .ok (.aload_n 0, 1) := by decide +kernel
theorem dX5_longestRow_21 : decode cX5_longestRow 21 = .ok (.getfield 19, 3) := by decide +kernel
theorem dX5_longestRow_24 : decode cX5_longestRow 24 = .ok (.iload_n 2, 1) := by decide +kernel
theorem dX5_longestRow_25 : decode cX5_longestRow 25 = .ok (.aload_n 0, 1) := by decide +kernel
theorem dX5_longestRow_26 : decode cX5_longestRow 26 = .ok (.iload_n 2, 1) := by decide +kernel
theorem dX5_longestRow_27 : decode cX5_longestRow 27 = .ok (.invokevirtual 34, 3) := by decide +kernel
theorem dX5_longestRow_30 : decode cX5_longestRow 30 = .ok (.iastore, 1) := by decide +kernel
theorem dX5_longestRow_31 : decode cX5_longestRow 31 = .ok (.iinc 2 1, 3) := by decide +kernel
theorem dX5_longestRow_34 : decode cX5_longestRow 34 = .ok (.goto (-25), 3) := by decide +kernel
theorem dX5_longestRow_37 : decode cX5_longestRow 37 = .ok (.aload_n 0, 1) := by decide +kernel
theorem dX5_longestRow_38 : decode cX5_longestRow 38 = .ok (.invokevirtual 44, 3) := by decide +kernel
theorem dX5_longestRow_41 : decode cX5_longestRow 41 = .ok (.aload_n 0, 1) := by decide +kernel
theorem dX5_longestRow_42 : decode cX5_longestRow 42 = .ok (.invokevirtual 47, 3) := by decide +kernel
theorem dX5_longestRow_45 : decode cX5_longestRow 45 = .ok (.iload_n 1, 1) := by decide +kernel
theorem dX5_longestRow_46 : decode cX5_longestRow 46 = .ok (.iconst (-1), 1) := by decide +kernel
theorem dX5_longestRow_47 : decode cX5_longestRow 47 = .ok (.if_icmp .ne 8, 3) := by decide +kernel
theorem dX5_longestRow_50 : decode cX5_longestRow 50 = .ok (.aload_n 0, 1) := by decide +kernel
theorem dX5_longestRow_51 : decode cX5_longestRow 51 = .ok (.getfield 50, 3) := by decide +kernel
theorem dX5_longestRow_54 : decode cX5_longestRow 54 = .ok (.ireturn, 1) := by decide +kernel
theorem dX5_longestRow_55 : decode cX5_longestRow 55 = .ok (.iload_n 1, 1) := by decide +kernel
theorem dX5_longestRow_56 : decode cX5_longestRow 56 = .ok (.bipush (-2), 2) := by decide +kernel
theorem dX5_longestRow_58 : decode cX5_longestRow 58 = .ok (.if_icmp .ne 49, 3) := by decide +kernel
theorem dX5_longestRow_61 : decode cX5_longestRow 61 = .ok (.aload_n 0, 1) := by decide +kernel
theorem dX5_longestRow_62 : decode cX5_longestRow 62 = .ok (.getfield 50, 3) := by decide +kernel
theorem dX5_longestRow_65 : decode cX5_longestRow 65 = .ok (.ifCond .ne 7, 3) := by decide +kernel
theorem dX5_longestRow_68 : decode cX5_longestRow 68 = .ok (.iconst 0, 1) := by decide +kernel
theorem dX5_longestRow_69 : decode cX5_longestRow 69 = .ok (.goto 37, 3) := by decide +kernel
theorem dX5_longestRow_72 : decode cX5_longestRow 72 = .ok (.aload_n 0, 1) := by decide +kernel
theorem dX5_longestRow_73 : decode cX5_longestRow 73 = .ok (.getfield 9, 3) := by decide +kernel
theorem dX5_longestRow_76 : decode cX5_longestRow 76 = .ok (.getfield 53, 3) := by decide +kernel
theorem dX5_longestRow_79 : decode cX5_longestRow 79 = .ok (.aload_n 0, 1) := by decide +kernel
theorem dX5_longestRow_80 : decode cX5_longestRow 80 = .ok (.getfield 26, 3) := by decide +kernel
theorem dX5_longestRow_83 : decode cX5_longestRow 83 = .ok (.iconst 0, 1) := by decide +kernel
theorem dX5_longestRow_84 : decode cX5_longestRow 84 = .ok (.iaload, 1) := by decide +kernel
theorem dX5_longestRow_85 : decode cX5_longestRow 85 = .ok (.iaload, 1) := by decide +kernel
theorem dX5_longestRow_86 : decode cX5_longestRow 86 = .ok (.aload_n 0, 1) := by decide +kernel
theorem dX5_longestRow_87 : decode cX5_longestRow 87 = .ok (.getfield 9, 3) := by decide +kernel
theorem dX5_longestRow_90 : decode cX5_longestRow 90 = .ok (.getfield 53, 3) := by decide +kernel
theorem dX5_longestRow_93 : decode cX5_longestRow 93 = .ok (.aload_n 0, 1) := by decide +kernel
theorem dX5_longestRow_94 : decode cX5_longestRow 94 = .ok (.getfield 26, 3) := by decide +kernel
theorem dX5_longestRow_97 : decode cX5_longestRow 97 = .ok (.aload_n 0, 1) := by decide +kernel
theorem dX5_longestRow_98 : decode cX5_longestRow 98 = .ok (.getfield 50, 3) := by decide +kernel
theorem dX5_longestRow_101 : decode cX5_longestRow 101 = .ok (.iconst 1, 1) := by decide +kernel
theorem dX5_longestRow_102 : decode cX5_longestRow 102 = .ok (.isub, 1) := by decide +kernel
theorem dX5_longestRow_103 : decode cX5_longestRow 103 = .ok (.iaload, 1) := by decide +kernel
theorem dX5_longestRow_104 : decode cX5_longestRow 104 = .ok (.iaload, 1) := by decide +kernel
theorem dX5_longestRow_105 : decode cX5_longestRow 105 = .ok (.isub, 1) := by decide +kernel
theorem dX5_longestRow_106 : decode cX5_longestRow 106 = .ok (.ireturn, 1) := by decide +kernel
theorem dX5_longestRow_107 : decode cX5_longestRow 107 = .ok (.iload_n 1, 1) := by decide +kernel
theorem dX5_longestRow_108 : decode cX5_longestRow 108 = .ok (.iconst 0, 1) := by decide +kernel
theorem dX5_longestRow_109 : decode cX5_longestRow 109 = .ok (.aload_n 0, 1) := by decide +kernel
theorem dX5_longestRow_110 : decode cX5_longestRow 110 = .ok (.getfield 50, 3) := by decide +kernel
theorem dX5_longestRow_113 : decode cX5_longestRow 113 = .ok (.iconst 1, 1) := by decide +kernel
theorem dX5_longestRow_114 : decode cX5_longestRow 114 = .ok (.isub, 1) := by decide +kernel
theorem dX5_longestRow_115 : decode cX5_longestRow 115 = .ok (.invokestatic 56, 3) := by decide +kernel
theorem dX5_longestRow_118 : decode cX5_longestRow 118 = .ok (.ifCond .eq 12, 3) := by decide +kernel
theorem dX5_longestRow_121 : decode cX5_longestRow 121 = .ok (.aload_n 0, 1) := by decide +kernel
theorem dX5_longestRow_122 : decode cX5_longestRow 122 = .ok (.getfield 26, 3) := by decide +kernel
theorem dX5_longestRow_125 : decode cX5_longestRow 125 = .ok (.iload_n 1, 1) := by decide +kernel
theorem dX5_longestRow_126 : decode cX5_longestRow 126 = .ok (.iaload, 1) := by decide +kernel
theorem dX5_longestRow_127 : decode cX5_longestRow 127 = .ok (.goto 4, 3) := by decide +kernel
theorem dX5_longestRow_130 : decode cX5_longestRow 130 = .ok (.iconst (-1), 1) := by decide +kernel
theorem dX5_longestRow_131 : decode cX5_longestRow 131 = .ok (.ireturn, 1) := by decide +kernel
theorem dX5_findMayFrom_0 : decode cX5_findMayFrom 0 = .ok (.aload_n 0, 1) := by decide +kernel
theorem dX5_findMayFrom_1 : decode cX5_findMayFrom 1 = .ok (.getfield 15, 3) := by decide +kernel
theorem dX5_findMayFrom_4 : decode cX5_findMayFrom 4 = .ok (.iload_n 1, 1) := by decide +kernel
theorem dX5_findMayFrom_5 : decode cX5_findMayFrom 5 = .ok (.invokevirtual 60, 3) := by decide +kernel
theorem dX5_findMayFrom_8 : decode cX5_findMayFrom 8 = .ok (.ifCond .ne 5, 3) := by decide +kernel
theorem dX5_findMayFrom_11 : decode cX5_findMayFrom 11 = .ok (.iconst 0, 1) := by decide +kernel
theorem dX5_findMayFrom_12 : decode cX5_findMayFrom 12 = .ok (.ireturn, 1) := by decide +kernel
theorem dX5_findMayFrom_13 : decode cX5_findMayFrom 13 = .ok (.iconst 0, 1) := by decide +kernel
theorem dX5_findMayFrom_14 : decode cX5_findMayFrom 14 = .ok (.istore_n 2, 1) := by decide +kernel
theorem dX5_findMayFrom_15 : decode cX5_findMayFrom 15 = .ok (.iconst 0, 1) := by decide +kernel
theorem dX5_findMayFrom_16 : decode cX5_findMayFrom 16 = .ok (.istore_n 3, 1) := by decide +kernel
theorem dX5_findMayFrom_17 : decode cX5_findMayFrom 17 = .ok (.iload_n 3, 1) := by decide +kernel
theorem dX5_findMayFrom_18 : decode cX5_findMayFrom 18 = .ok (.aload_n 0, 1) := by decide +kernel
theorem dX5_findMayFrom_19 : decode cX5_findMayFrom 19 = .ok (.getfield 9, 3) := by decide +kernel
theorem dX5_findMayFrom_22 : decode cX5_findMayFrom 22 = .ok (.getfield 38, 3) := by decide +kernel
theorem dX5_findMayFrom_25 : decode cX5_findMayFrom 25 = .ok (.if_icmp .ge 33, 3) := by decide +kernel
theorem dX5_findMayFrom_28 : decode cX5_findMayFrom 28 = .ok (.aload_n 0, 1) := by decide +kernel
theorem dX5_findMayFrom_29 : decode cX5_findMayFrom 29 = .ok (.iload_n 1, 1) := by decide +kernel
theorem dX5_findMayFrom_30 : decode cX5_findMayFrom 30 = .ok (.iload_n 3, 1) := by decide +kernel
theorem dX5_findMayFrom_31 : decode cX5_findMayFrom 31 = .ok (.invokevirtual 64, 3) := by decide +kernel
theorem dX5_findMayFrom_34 : decode cX5_findMayFrom 34 = .ok (.ifCond .eq 18, 3) := by decide +kernel
theorem dX5_findMayFrom_37 : decode cX5_findMayFrom 37 = .ok (.aload_n 0, 1) := by decide +kernel
theorem dX5_findMayFrom_38 : decode cX5_findMayFrom 38 = .ok (.iload_n 1, 1) := by decide +kernel
theorem dX5_findMayFrom_39 : decode cX5_findMayFrom 39 = .ok (.iload_n 3, 1) := by decide +kernel
theorem dX5_findMayFrom_40 : decode cX5_findMayFrom 40 = .ok (.invokevirtual 68, 3) := by decide +kernel
theorem dX5_findMayFrom_43 : decode cX5_findMayFrom 43 = .ok (.ifCond .eq 9, 3) := by decide +kernel
theorem dX5_findMayFrom_46 : decode cX5_findMayFrom 46 = .ok (.iload_n 2, 1) := by decide +kernel
theorem dX5_findMayFrom_47 : decode cX5_findMayFrom 47 = .ok (.iconst 1, 1) := by decide +kernel
theorem dX5_findMayFrom_48 : decode cX5_findMayFrom 48 = .ok (.iload_n 3, 1) := by decide +kernel
theorem dX5_findMayFrom_49 : decode cX5_findMayFrom 49 = .ok (.ishl, 1) := by decide +kernel
theorem dX5_findMayFrom_50 : decode cX5_findMayFrom 50 = .ok (.ior, 1) := by decide +kernel
theorem dX5_findMayFrom_51 : decode cX5_findMayFrom 51 = .ok (.istore_n 2, 1) := by decide +kernel
theorem dX5_findMayFrom_52 : decode cX5_findMayFrom 52 = .ok (.iinc 3 1, 3) := by decide +kernel
theorem dX5_findMayFrom_55 : decode cX5_findMayFrom 55 = .ok (.goto (-38), 3) := by decide +kernel
theorem dX5_findMayFrom_58 : decode cX5_findMayFrom 58 = .ok (.iload_n 2, 1) := by decide +kernel
theorem dX5_findMayFrom_59 : decode cX5_findMayFrom 59 = .ok (.ireturn, 1) := by decide +kernel
theorem dX5_isLikely_0 : decode cX5_isLikely 0 = .ok (.aload_n 0, 1) := by decide +kernel
theorem dX5_isLikely_1 : decode cX5_isLikely 1 = .ok (.getfield 15, 3) := by decide +kernel
theorem dX5_isLikely_4 : decode cX5_isLikely 4 = .ok (.getfield 71, 3) := by decide +kernel
theorem dX5_isLikely_7 : decode cX5_isLikely 7 = .ok (.iload_n 1, 1) := by decide +kernel
theorem dX5_isLikely_8 : decode cX5_isLikely 8 = .ok (.iaload, 1) := by decide +kernel
theorem dX5_isLikely_9 : decode cX5_isLikely 9 = .ok (.aload_n 0, 1) := by decide +kernel
theorem dX5_isLikely_10 : decode cX5_isLikely 10 = .ok (.getfield 15, 3) := by decide +kernel
theorem dX5_isLikely_13 : decode cX5_isLikely 13 = .ok (.getfield 71, 3) := by decide +kernel
theorem dX5_isLikely_16 : decode cX5_isLikely 16 = .ok (.iload_n 2, 1) := by decide +kernel
theorem dX5_isLikely_17 : decode cX5_isLikely 17 = .ok (.iaload, 1) := by decide +kernel
theorem dX5_isLikely_18 : decode cX5_isLikely 18 = .ok (.iand, 1) := by decide +kernel
theorem dX5_isLikely_19 : decode cX5_isLikely 19 = .ok (.ifCond .eq 40, 3) := by decide +kernel
theorem dX5_isLikely_22 : decode cX5_isLikely 22 = .ok (.aload_n 0, 1) := by decide +kernel
theorem dX5_isLikely_23 : decode cX5_isLikely 23 = .ok (.getfield 9, 3) := by decide +kernel
theorem dX5_isLikely_26 : decode cX5_isLikely 26 = .ok (.getfield 53, 3) := by decide +kernel
theorem dX5_isLikely_29 : decode cX5_isLikely 29 = .ok (.iload_n 2, 1) := by decide +kernel
theorem dX5_isLikely_30 : decode cX5_isLikely 30 = .ok (.iaload, 1) := by decide +kernel
theorem dX5_isLikely_31 : decode cX5_isLikely 31 = .ok (.aload_n 0, 1) := by decide +kernel
theorem dX5_isLikely_32 : decode cX5_isLikely 32 = .ok (.getfield 9, 3) := by decide +kernel
theorem dX5_isLikely_35 : decode cX5_isLikely 35 = .ok (.getfield 53, 3) := by decide +kernel
theorem dX5_isLikely_38 : decode cX5_isLikely 38 = .ok (.iload_n 1, 1) := by decide +kernel
theorem dX5_isLikely_39 : decode cX5_isLikely 39 = .ok (.iaload, 1) := by decide +kernel
theorem dX5_isLikely_40 : decode cX5_isLikely 40 = .ok (.if_icmp .le 19, 3) := by decide +kernel
theorem dX5_isLikely_43 : decode cX5_isLikely 43 = .ok (.aload_n 0, 1) := by decide +kernel
theorem dX5_isLikely_44 : decode cX5_isLikely 44 = .ok (.getfield 9, 3) := by decide +kernel
theorem dX5_isLikely_47 : decode cX5_isLikely 47 = .ok (.iload_n 2, 1) := by decide +kernel
theorem dX5_isLikely_48 : decode cX5_isLikely 48 = .ok (.iload_n 1, 1) := by decide +kernel
theorem dX5_isLikely_49 : decode cX5_isLikely 49 = .ok (.invokevirtual 74, 3) := by decide +kernel
theorem dX5_isLikely_52 : decode cX5_isLikely 52 = .ok (.ifCond .ne 7, 3) := by decide +kernel
theorem dX5_isLikely_55 : decode cX5_isLikely 55 = .ok (.iconst 1, 1) := by decide +kernel
theorem dX5_isLikely_56 : decode cX5_isLikely 56 = .ok (.goto 4, 3) := by decide +kernel
theorem dX5_isLikely_59 : decode cX5_isLikely 59 = .ok (.iconst 0, 1) := by decide +kernel
theorem dX5_isLikely_60 : decode cX5_isLikely 60 = .ok (.ireturn, 1) := by decide +kernel
theorem dX5_leavesWay_0 : decode cX5_leavesWay 0 = .ok (.aload_n 0, 1) := by decide +kernel
theorem dX5_leavesWay_1 : decode cX5_leavesWay 1 = .ok (.getfield 15, 3) := by decide +kernel
theorem dX5_leavesWay_4 : decode cX5_leavesWay 4 = .ok (.iconst 0, 1) := by decide +kernel
theorem dX5_leavesWay_5 : decode cX5_leavesWay 5 = .ok (.iload_n 2, 1) := by decide +kernel
theorem dX5_leavesWay_6 : decode cX5_leavesWay 6 = .ok (.invokevirtual 77, 3) := by decide +kernel
theorem dX5_leavesWay_9 : decode cX5_leavesWay 9 = .ok (.aload_n 0, 1) := by decide +kernel
theorem dX5_leavesWay_10 : decode cX5_leavesWay 10 = .ok (.getfield 15, 3) := by decide +kernel
theorem dX5_leavesWay_13 : decode cX5_leavesWay 13 = .ok (.iconst 1, 1) := by decide +kernel
theorem dX5_leavesWay_14 : decode cX5_leavesWay 14 = .ok (.iload_n 1, 1) := by decide +kernel
theorem dX5_leavesWay_15 : decode cX5_leavesWay 15 = .ok (.invokevirtual 77, 3) := by decide +kernel
theorem dX5_leavesWay_18 : decode cX5_leavesWay 18 = .ok (.if_icmp .gt 7, 3) := by decide +kernel
theorem dX5_leavesWay_21 : decode cX5_leavesWay 21 = .ok (.iconst 1, 1) := by decide +kernel
theorem dX5_leavesWay_22 : decode cX5_leavesWay 22 = .ok (.goto 4, 3) := by decide +kernel
theorem dX5_leavesWay_25 : decode cX5_leavesWay 25 = .ok (.iconst 0, 1) := by decide +kernel
theorem dX5_leavesWay_26 : decode cX5_leavesWay 26 = .ok (.ireturn, 1) := by decide +kernel
theorem dX5_measureRows_0 : decode cX5_measureRows 0 = .ok (.iconst 0, 1) := by decide +kernel
theorem dX5_measureRows_1 : decode cX5_measureRows 1 = .ok (.istore_n 1, 1) := by decide +kernel
theorem dX5_measureRows_2 : decode cX5_measureRows 2 = .ok (.iload_n 1, 1) := by decide +kernel
theorem dX5_measureRows_3 : decode cX5_measureRows 3 = .ok (.aload_n 0, 1) := by decide +kernel
theorem dX5_measureRows_4 : decode cX5_measureRows 4 = .ok (.getfield 9, 3) := by decide +kernel
theorem dX5_measureRows_7 : decode cX5_measureRows 7 = .ok (.getfield 38, 3) := by decide +kernel
theorem dX5_measureRows_10 : decode cX5_measureRows 10 = .ok (.if_icmp .ge 16, 3) := by decide +kernel
theorem dX5_measureRows_13 : decode cX5_measureRows 13 = .ok (.aload_n 0, 1) := by decide +kernel
theorem dX5_measureRows_14 : decode cX5_measureRows 14 = .ok (.getfield 23, 3) := by decide +kernel
theorem dX5_measureRows_17 : decode cX5_measureRows 17 = .ok (.iload_n 1, 1) := by decide +kernel
theorem dX5_measureRows_18 : decode cX5_measureRows 18 = .ok (.iconst 1, 1) := by decide +kernel
theorem dX5_measureRows_19 : decode cX5_measureRows 19 = .ok (.iastore, 1) := by decide +kernel
theorem dX5_measureRows_20 : decode cX5_measureRows 20 = .ok (.iinc 1 1, 3) := by decide +kernel
theorem dX5_measureRows_23 : decode cX5_measureRows 23 = .ok (.goto (-21), 3) := by decide +kernel
theorem dX5_measureRows_26 : decode cX5_measureRows 26 = .ok (.iconst 1, 1) := by decide +kernel
theorem dX5_measureRows_27 : decode cX5_measureRows 27 = .ok (.istore_n 1, 1) := by decide +kernel
theorem dX5_measureRows_28 : decode cX5_measureRows 28 = .ok (.iconst 0, 1) := by decide +kernel
theorem dX5_measureRows_29 : decode cX5_measureRows 29 = .ok (.istore_n 2, 1) := by decide +kernel
theorem dX5_measureRows_30 : decode cX5_measureRows 30 = .ok (.iload_n 1, 1) := by decide +kernel
theorem dX5_measureRows_31 : decode cX5_measureRows 31 = .ok (.ifCond .eq 72, 3) := by decide +kernel
theorem dX5_measureRows_34 : decode cX5_measureRows 34 = .ok (.iload_n 2, 1) := by decide +kernel
theorem dX5_measureRows_35 : decode cX5_measureRows 35 = .ok (.bipush 12, 2) := by decide +kernel
theorem dX5_measureRows_37 : decode cX5_measureRows 37 = .ok (.if_icmp .ge 66, 3) := by decide +kernel
theorem dX5_measureRows_40 : decode cX5_measureRows 40 = .ok (.iconst 0, 1) := by decide +kernel
theorem dX5_measureRows_41 : decode cX5_measureRows 41 = .ok (.istore_n 1, 1) := by decide +kernel
theorem dX5_measureRows_42 : decode cX5_measureRows 42 = .ok (.iconst 0, 1) := by decide +kernel
theorem dX5_measureRows_43 : decode cX5_measureRows 43 = .ok (.istore_n 3, 1) := by decide +kernel
theorem dX5_measureRows_44 : decode cX5_measureRows 44 = .ok (.iload_n 3, 1) := by decide +kernel
theorem dX5_measureRows_45 : decode cX5_measureRows 45 = .ok (.aload_n 0, 1) := by decide +kernel
theorem dX5_measureRows_46 : decode cX5_measureRows 46 = .ok (.getfield 9, 3) := by decide +kernel
theorem dX5_measureRows_49 : decode cX5_measureRows 49 = .ok (.getfield 38, 3) := by decide +kernel
theorem dX5_measureRows_52 : decode cX5_measureRows 52 = .ok (.if_icmp .ge 45, 3) := by decide +kernel
theorem dX5_measureRows_55 : decode cX5_measureRows 55 = .ok (.aload_n 0, 1) := by decide +kernel
theorem dX5_measureRows_56 : decode cX5_measureRows 56 = .ok (.iload_n 3, 1) := by decide +kernel
theorem dX5_measureRows_57 : decode cX5_measureRows 57 = .ok (.invokevirtual 81, 3) := by decide +kernel
theorem dX5_measureRows_60 : decode cX5_measureRows 60 = .ok (.istore 4, 2) := by decide +kernel
theorem dX5_measureRows_62 : decode cX5_measureRows 62 = .ok (.iload_n 1, 1) := by decide +kernel
theorem dX5_measureRows_63 : decode cX5_measureRows 63 = .ok (.ifCond .ne 14, 3) := by decide +kernel
theorem dX5_measureRows_66 : decode cX5_measureRows 66 = .ok (.iload 4, 2) := by decide +kernel
theorem dX5_measureRows_68 : decode cX5_measureRows 68 = .ok (.aload_n 0, 1) := by decide +kernel
theorem dX5_measureRows_69 : decode cX5_measureRows 69 = .ok (.getfield 23, 3) := by decide +kernel
theorem dX5_measureRows_72 : decode cX5_measureRows 72 = .ok (.iload_n 3, 1) := by decide +kernel
theorem dX5_measureRows_73 : decode cX5_measureRows 73 = .ok (.iaload, 1) := by decide +kernel
theorem dX5_measureRows_74 : decode cX5_measureRows 74 = .ok (.if_icmp .le 7, 3) := by decide +kernel
theorem dX5_measureRows_77 : decode cX5_measureRows 77 = .ok (.iconst 1, 1) := by decide +kernel
theorem dX5_measureRows_78 : decode cX5_measureRows 78 = .ok (.goto 4, 3) := by decide +kernel
theorem dX5_measureRows_81 : decode cX5_measureRows 81 = .ok (.iconst 0, 1) := by decide +kernel
theorem dX5_measureRows_82 : decode cX5_measureRows 82 = .ok (.istore_n 1, 1) := by decide +kernel
theorem dX5_measureRows_83 : decode cX5_measureRows 83 = .ok (.aload_n 0, 1) := by decide +kernel
theorem dX5_measureRows_84 : decode cX5_measureRows 84 = .ok (.getfield 23, 3) := by decide +kernel
theorem dX5_measureRows_87 : decode cX5_measureRows 87 = .ok (.iload_n 3, 1) := by decide +kernel
theorem dX5_measureRows_88 : decode cX5_measureRows 88 = .ok (.iload 4, 2) := by decide +kernel
theorem dX5_measureRows_90 : decode cX5_measureRows 90 = .ok (.iastore, 1) := by decide +kernel
theorem dX5_measureRows_91 : decode cX5_measureRows 91 = .ok (.iinc 3 1, 3) := by decide +kernel
theorem dX5_measureRows_94 : decode cX5_measureRows 94 = .ok (.goto (-50), 3) := by decide +kernel
theorem dX5_measureRows_97 : decode cX5_measureRows 97 = .ok (.iinc 2 1, 3) := by decide +kernel
theorem dX5_measureRows_100 : decode cX5_measureRows 100 = .ok (.goto (-70), 3) := by decide +kernel
theorem dX5_measureRows_103 : decode cX5_measureRows 103 = .ok (.return_, 1) := by decide +kernel
theorem dX5_lengthFrom_0 : decode cX5_lengthFrom 0 = .ok (.iconst 1, 1) := by decide +kernel
theorem dX5_lengthFrom_1 : decode cX5_lengthFrom 1 = .ok (.istore_n 2, 1) := by decide +kernel
theorem dX5_lengthFrom_2 : decode cX5_lengthFrom 2 = .ok (.iconst 0, 1) := by decide +kernel
theorem dX5_lengthFrom_3 : decode cX5_lengthFrom 3 = .ok (.istore_n 3, 1) := by decide +kernel
theorem dX5_lengthFrom_4 : decode cX5_lengthFrom 4 = .ok (.iload_n 3, 1) := by decide +kernel
theorem dX5_lengthFrom_5 : decode cX5_lengthFrom 5 = .ok (.aload_n 0, 1) := by decide +kernel
theorem dX5_lengthFrom_6 : decode cX5_lengthFrom 6 = .ok (.getfield 9, 3) := by decide +kernel
theorem dX5_lengthFrom_9 : decode cX5_lengthFrom 9 = .ok (.getfield 38, 3) := by decide +kernel
theorem dX5_lengthFrom_12 : decode cX5_lengthFrom 12 = .ok (.if_icmp .ge 35, 3) := by decide +kernel
theorem dX5_lengthFrom_15 : decode cX5_lengthFrom 15 = .ok (.aload_n 0, 1) := by decide +kernel
theorem dX5_lengthFrom_16 : decode cX5_lengthFrom 16 = .ok (.getfield 19, 3) := by decide +kernel
theorem dX5_lengthFrom_19 : decode cX5_lengthFrom 19 = .ok (.iload_n 3, 1) := by decide +kernel
theorem dX5_lengthFrom_20 : decode cX5_lengthFrom 20 = .ok (.iaload, 1) := by decide +kernel
theorem dX5_lengthFrom_21 : decode cX5_lengthFrom 21 = .ok (.iload_n 1, 1) := by decide +kernel
theorem dX5_lengthFrom_22 : decode cX5_lengthFrom 22 = .ok (.invokestatic 84, 3) := by decide +kernel
theorem dX5_lengthFrom_25 : decode cX5_lengthFrom 25 = .ok (.ifCond .eq 16, 3) := by decide +kernel
theorem dX5_lengthFrom_28 : decode cX5_lengthFrom 28 = .ok (.iload_n 2, 1) := by decide +kernel
theorem dX5_lengthFrom_29 : decode cX5_lengthFrom 29 = .ok (.aload_n 0, 1) := by decide +kernel
theorem dX5_lengthFrom_30 : decode cX5_lengthFrom 30 = .ok (.getfield 23, 3) := by decide +kernel
theorem dX5_lengthFrom_33 : decode cX5_lengthFrom 33 = .ok (.iload_n 3, 1) := by decide +kernel
theorem dX5_lengthFrom_34 : decode cX5_lengthFrom 34 = .ok (.iaload, 1) := by decide +kernel
theorem dX5_lengthFrom_35 : decode cX5_lengthFrom 35 = .ok (.iconst 1, 1) := by decide +kernel
theorem dX5_lengthFrom_36 : decode cX5_lengthFrom 36 = .ok (.iadd, 1) := by decide +kernel
theorem dX5_lengthFrom_37 : decode cX5_lengthFrom 37 = .ok (.invokestatic 87, 3) := by decide +kernel
theorem dX5_lengthFrom_40 : decode cX5_lengthFrom 40 = .ok (.istore_n 2, 1) := by decide +kernel
theorem dX5_lengthFrom_41 : decode cX5_lengthFrom 41 = .ok (.iinc 3 1, 3) := by decide +kernel
theorem dX5_lengthFrom_44 : decode cX5_lengthFrom 44 = .ok (.goto (-40), 3) := by decide +kernel
theorem dX5_lengthFrom_47 : decode cX5_lengthFrom 47 = .ok (.iload_n 2, 1) := by decide +kernel
theorem dX5_lengthFrom_48 : decode cX5_lengthFrom 48 = .ok (.ireturn, 1) := by decide +kernel
theorem dX5_layRow_0 : decode cX5_layRow 0 = .ok (.iconst 0, 1) := by decide +kernel
theorem dX5_layRow_1 : decode cX5_layRow 1 = .ok (.istore_n 1, 1) := by decide +kernel
theorem dX5_layRow_2 : decode cX5_layRow 2 = .ok (.iconst 0, 1) := by decide +kernel
theorem dX5_layRow_3 : decode cX5_layRow 3 = .ok (.istore_n 2, 1) := by decide +kernel
theorem dX5_layRow_4 : decode cX5_layRow 4 = .ok (.iload_n 2, 1) := by decide +kernel
theorem dX5_layRow_5 : decode cX5_layRow 5 = .ok (.aload_n 0, 1) := by decide +kernel
theorem dX5_layRow_6 : decode cX5_layRow 6 = .ok (.getfield 9, 3) := by decide +kernel
theorem dX5_layRow_9 : decode cX5_layRow 9 = .ok (.getfield 38, 3) := by decide +kernel
theorem dX5_layRow_12 : decode cX5_layRow 12 = .ok (.if_icmp .ge 20, 3) := by decide +kernel
theorem dX5_layRow_15 : decode cX5_layRow 15 = .ok (.iload_n 1, 1) := by decide +kernel
theorem dX5_layRow_16 : decode cX5_layRow 16 = .ok (.aload_n 0, 1) := by decide +kernel
theorem dX5_layRow_17 : decode cX5_layRow 17 = .ok (.getfield 23, 3) := by decide +kernel
theorem dX5_layRow_20 : decode cX5_layRow 20 = .ok (.iload_n 2, 1) := by decide +kernel
theorem dX5_layRow_21 : decode cX5_layRow 21 = .ok (.iaload, 1) := by decide +kernel
theorem dX5_layRow_22 : decode cX5_layRow 22 = .ok (.invokestatic 87, 3) := by decide +kernel
theorem dX5_layRow_25 : decode cX5_layRow 25 = .ok (.istore_n 1, 1) := by decide +kernel
theorem dX5_layRow_26 : decode cX5_layRow 26 = .ok (.iinc 2 1, 3) := by decide +kernel
theorem dX5_layRow_29 : decode cX5_layRow 29 = .ok (.goto (-25), 3) := by decide +kernel
theorem dX5_layRow_32 : decode cX5_layRow 32 = .ok (.aload_n 0, 1) := by decide +kernel
theorem dX5_layRow_33 : decode cX5_layRow 33 = .ok (.iload_n 1, 1) := by decide +kernel
theorem dX5_layRow_34 : decode cX5_layRow 34 = .ok (.bipush 12, 2) := by decide +kernel
theorem dX5_layRow_36 : decode cX5_layRow 36 = .ok (.invokestatic 92, 3) := by decide +kernel
theorem dX5_layRow_39 : decode cX5_layRow 39 = .ok (.putfield 50, 3) := by decide +kernel
theorem dX5_layRow_42 : decode cX5_layRow 42 = .ok (.iconst (-1), 1) := by decide +kernel
theorem dX5_layRow_43 : decode cX5_layRow 43 = .ok (.istore_n 2, 1) := by decide +kernel
theorem dX5_layRow_44 : decode cX5_layRow 44 = .ok (.iconst 0, 1) := by decide +kernel
theorem dX5_layRow_45 : decode cX5_layRow 45 = .ok (.istore_n 3, 1) := by decide +kernel
theorem dX5_layRow_46 : decode cX5_layRow 46 = .ok (.iload_n 3, 1) := by decide +kernel
theorem dX5_layRow_47 : decode cX5_layRow 47 = .ok (.aload_n 0, 1) := by decide +kernel
theorem dX5_layRow_48 : decode cX5_layRow 48 = .ok (.getfield 50, 3) := by decide +kernel
theorem dX5_layRow_51 : decode cX5_layRow 51 = .ok (.if_icmp .ge 29, 3) := by decide +kernel
theorem dX5_layRow_54 : decode cX5_layRow 54 = .ok (.aload_n 0, 1) := by decide +kernel
theorem dX5_layRow_55 : decode cX5_layRow 55 = .ok (.iload_n 2, 1) := by decide +kernel
theorem dX5_layRow_56 : decode cX5_layRow 56 = .ok (.iload_n 1, 1) := by decide +kernel
theorem dX5_layRow_57 : decode cX5_layRow 57 = .ok (.iload_n 3, 1) := by decide +kernel
theorem dX5_layRow_58 : decode cX5_layRow 58 = .ok (.isub, 1) := by decide +kernel
theorem dX5_layRow_59 : decode cX5_layRow 59 = .ok (.invokevirtual 95, 3) := by decide +kernel
theorem dX5_layRow_62 : decode cX5_layRow 62 = .ok (.istore_n 2, 1) := by decide +kernel
theorem dX5_layRow_63 : decode cX5_layRow 63 = .ok (.aload_n 0, 1) := by decide +kernel
theorem dX5_layRow_64 : decode cX5_layRow 64 = .ok (.getfield 26, 3) := by decide +kernel
theorem dX5_layRow_67 : decode cX5_layRow 67 = .ok (.iload_n 3, 1) := by decide +kernel
theorem dX5_layRow_68 : decode cX5_layRow 68 = .ok (.iconst 0, 1) := by decide +kernel
theorem dX5_layRow_69 : decode cX5_layRow 69 = .ok (.iload_n 2, 1) := by decide +kernel
theorem dX5_layRow_70 : decode cX5_layRow 70 = .ok (.invokestatic 87, 3) := by decide +kernel
theorem dX5_layRow_73 : decode cX5_layRow 73 = .ok (.iastore, 1) := by decide +kernel
theorem dX5_layRow_74 : decode cX5_layRow 74 = .ok (.iinc 3 1, 3) := by decide +kernel
theorem dX5_layRow_77 : decode cX5_layRow 77 = .ok (.goto (-31), 3) := by decide +kernel
theorem dX5_layRow_80 : decode cX5_layRow 80 = .ok (.return_, 1) := by decide +kernel
theorem dX5_firstBehind_0 : decode cX5_firstBehind 0 = .ok (.iconst 0, 1) := by decide +kernel
theorem dX5_firstBehind_1 : decode cX5_firstBehind 1 = .ok (.istore_n 3, 1) := by decide +kernel
theorem dX5_firstBehind_2 : decode cX5_firstBehind 2 = .ok (.iload_n 3, 1) := by decide +kernel
theorem dX5_firstBehind_3 : decode cX5_firstBehind 3 = .ok (.aload_n 0, 1) := by decide +kernel
theorem dX5_firstBehind_4 : decode cX5_firstBehind 4 = .ok (.getfield 9, 3) := by decide +kernel
theorem dX5_firstBehind_7 : decode cX5_firstBehind 7 = .ok (.getfield 38, 3) := by decide +kernel
theorem dX5_firstBehind_10 : decode cX5_firstBehind 10 = .ok (.if_icmp .ge 51, 3) := by decide +kernel
theorem dX5_firstBehind_13 : decode cX5_firstBehind 13 = .ok (.iload_n 1, 1) := by decide +kernel
theorem dX5_firstBehind_14 : decode cX5_firstBehind 14 = .ok (.iconst (-1), 1) := by decide +kernel
theorem dX5_firstBehind_15 : decode cX5_firstBehind 15 = .ok (.if_icmp .eq 16, 3) := by decide +kernel
theorem dX5_firstBehind_18 : decode cX5_firstBehind 18 = .ok (.aload_n 0, 1) := by decide +kernel
theorem dX5_firstBehind_19 : decode cX5_firstBehind 19 = .ok (.getfield 19, 3) := by decide +kernel
theorem dX5_firstBehind_22 : decode cX5_firstBehind 22 = .ok (.iload_n 3, 1) := by decide +kernel
theorem dX5_firstBehind_23 : decode cX5_firstBehind 23 = .ok (.iaload, 1) := by decide +kernel
theorem dX5_firstBehind_24 : decode cX5_firstBehind 24 = .ok (.iload_n 1, 1) := by decide +kernel
theorem dX5_firstBehind_25 : decode cX5_firstBehind 25 = .ok (.invokestatic 84, 3) := by decide +kernel
theorem dX5_firstBehind_28 : decode cX5_firstBehind 28 = .ok (.ifCond .eq 7, 3) := by decide +kernel
theorem dX5_firstBehind_31 : decode cX5_firstBehind 31 = .ok (.iconst 1, 1) := by decide +kernel
theorem dX5_firstBehind_32 : decode cX5_firstBehind 32 = .ok (.goto 4, 3) := by decide +kernel
theorem dX5_firstBehind_35 : decode cX5_firstBehind 35 = .ok (.iconst 0, 1) := by decide +kernel
theorem dX5_firstBehind_36 : decode cX5_firstBehind 36 = .ok (.istore 4, 2) := by decide +kernel
theorem dX5_firstBehind_38 : decode cX5_firstBehind 38 = .ok (.iload 4, 2) := by decide +kernel
theorem dX5_firstBehind_40 : decode cX5_firstBehind 40 = .ok (.ifCond .eq 15, 3) := by decide +kernel
theorem dX5_firstBehind_43 : decode cX5_firstBehind 43 = .ok (.aload_n 0, 1) := by decide +kernel
theorem dX5_firstBehind_44 : decode cX5_firstBehind 44 = .ok (.getfield 23, 3) := by decide +kernel
theorem dX5_firstBehind_47 : decode cX5_firstBehind 47 = .ok (.iload_n 3, 1) := by decide +kernel
theorem dX5_firstBehind_48 : decode cX5_firstBehind 48 = .ok (.iaload, 1) := by decide +kernel
theorem dX5_firstBehind_49 : decode cX5_firstBehind 49 = .ok (.iload_n 2, 1) := by decide +kernel
theorem dX5_firstBehind_50 : decode cX5_firstBehind 50 = .ok (.if_icmp .ne 5, 3) := by decide +kernel
theorem dX5_firstBehind_53 : decode cX5_firstBehind 53 = .ok (.iload_n 3, 1) := by decide +kernel
theorem dX5_firstBehind_54 : decode cX5_firstBehind 54 = .ok (.ireturn, 1) := by decide +kernel
theorem dX5_firstBehind_55 : decode cX5_firstBehind 55 = .ok (.iinc 3 1, 3) := by decide +kernel
theorem dX5_firstBehind_58 : decode cX5_firstBehind 58 = .ok (.goto (-56), 3) := by decide +kernel
theorem dX5_firstBehind_61 : decode cX5_firstBehind 61 = .ok (.iconst (-1), 1) := by decide +kernel
theorem dX5_firstBehind_62 : decode cX5_firstBehind 62 = .ok (.ireturn, 1) := by decide +kernel
theorem dX6_init_0 : decode cX6_init 0 = .ok (.aload_n 0, 1) := by decide +kernel
theorem dX6_init_1 : decode cX6_init 1 = .ok (.invokespecial 3, 3) := by decide +kernel
theorem dX6_init_4 : decode cX6_init 4 = .ok (.aload_n 0, 1) := by decide +kernel
theorem dX6_init_5 : decode cX6_init 5 = .ok (.aload_n 1, 1) := by decide +kernel
theorem dX6_init_6 : decode cX6_init 6 = .ok (.putfield 9, 3) := by decide +kernel
theorem dX6_init_9 : decode cX6_init 9 = .ok (.aload_n 0, 1) := by decide +kernel
theorem dX6_init_10 : decode cX6_init 10 = .ok (.aload_n 2, 1) := by decide +kernel
theorem dX6_init_11 : decode cX6_init 11 = .ok (.putfield 15, 3) := by decide +kernel
theorem dX6_init_14 : decode cX6_init 14 = .ok (.aload_n 0, 1) := by decide +kernel
theorem dX6_init_15 : decode cX6_init 15 = .ok (.bipush 90, 2) := by decide +kernel
theorem dX6_init_17 : decode cX6_init 17 = .ok (.newarray .int, 2) := by decide +kernel
theorem dX6_init_19 : decode cX6_init 19 = .ok (.putfield 19, 3) := by decide +kernel
theorem dX6_init_22 : decode cX6_init 22 = .ok (.aload_n 0, 1) := by decide +kernel
theorem dX6_init_23 : decode cX6_init 23 = .ok (.bipush 90, 2) := by decide +kernel
theorem dX6_init_25 : decode cX6_init 25 = .ok (.newarray .int, 2) := by decide +kernel
theorem dX6_init_27 : decode cX6_init 27 = .ok (.putfield 23, 3) := by decide +kernel
theorem dX6_init_30 : decode cX6_init 30 = .ok (.aload_n 0, 1) := by decide +kernel
theorem dX6_init_31 : decode cX6_init 31 = .ok (.bipush 10, 2) := by decide +kernel
theorem dX6_init_33 : decode cX6_init 33 = .ok (.newarray .int, 2) := by decide +kernel
theorem dX6_init_35 : decode cX6_init 35 = .ok (.putfield 26, 3) := by decide +kernel
theorem dX6_init_38 : decode cX6_init 38 = .ok (.aload_n 0, 1) := by decide +kernel
theorem dX6_init_39 : decode cX6_init 39 = .ok (.bipush 10, 2) := by decide +kernel
theorem dX6_init_41 : decode cX6_init 41 = .ok (.newarray .int, 2) := by decide +kernel
theorem dX6_init_43 : decode cX6_init 43 = .ok (.putfield 29, 3) := by decide +kernel
theorem dX6_init_46 : decode cX6_init 46 = .ok (.return_, 1) := by decide +kernel
theorem dX6_setCounts_0 : decode cX6_setCounts 0 = .ok (.aload_n 0, 1) := by decide +kernel
theorem dX6_setCounts_1 : decode cX6_setCounts 1 = .ok (.getfield 19, 3) := by decide +kernel
theorem dX6_setCounts_4 : decode cX6_setCounts 4 = .ok (.iload_n 1, 1) := by decide +kernel
theorem dX6_setCounts_5 : decode cX6_setCounts 5 = .ok (.bipush 9, 2) := by decide +kernel
theorem dX6_setCounts_7 : decode cX6_setCounts 7 = .ok (.imul, 1) := by decide +kernel
theorem dX6_setCounts_8 : decode cX6_setCounts 8 = .ok (.iload_n 2, 1) := by decide +kernel
theorem dX6_setCounts_9 : decode cX6_setCounts 9 = .ok (.iadd, 1) := by decide +kernel
theorem dX6_setCounts_10 : decode cX6_setCounts 10 = .ok (.iload_n 3, 1) := by decide +kernel
theorem dX6_setCounts_11 : decode cX6_setCounts 11 = .ok (.iastore, 1) := by decide +kernel
theorem dX6_setCounts_12 : decode cX6_setCounts 12 = .ok (.aload_n 0, 1) := by decide +kernel
theorem dX6_setCounts_13 : decode cX6_setCounts 13 = .ok (.getfield 23, 3) := by decide +kernel
theorem dX6_setCounts_16 : decode cX6_setCounts 16 = .ok (.iload_n 1, 1) := by decide +kernel
theorem dX6_setCounts_17 : decode cX6_setCounts 17 = .ok (.bipush 9, 2) := by decide +kernel
theorem dX6_setCounts_19 : decode cX6_setCounts 19 = .ok (.imul, 1) := by decide +kernel
theorem dX6_setCounts_20 : decode cX6_setCounts 20 = .ok (.iload_n 2, 1) := by decide +kernel
theorem dX6_setCounts_21 : decode cX6_setCounts 21 = .ok (.iadd, 1) := by decide +kernel
theorem dX6_setCounts_22 : decode cX6_setCounts 22 = .ok (.iload 4, 2) := by decide +kernel
theorem dX6_setCounts_24 : decode cX6_setCounts 24 = .ok (.iastore, 1) := by decide +kernel
theorem dX6_setCounts_25 : decode cX6_setCounts 25 = .ok (.return_, 1) := by decide +kernel
theorem dX6_gather_0 : decode cX6_gather 0 = .ok (.aload_n 0, 1) := by decide +kernel
theorem dX6_gather_1 : decode cX6_gather 1 = .ok (.getfield 15, 3) := by decide +kernel
theorem dX6_gather_4 : decode cX6_gather 4 = .ok (.aload_n 0, 1) := by decide +kernel
theorem dX6_gather_5 : decode cX6_gather 5 = .ok (.getfield 9, 3) := by decide +kernel
theorem dX6_gather_8 : decode cX6_gather 8 = .ok (.getfield 32, 3) := by decide +kernel
theorem dX6_gather_11 : decode cX6_gather 11 = .ok (.iload_n 1, 1) := by decide +kernel
theorem dX6_gather_12 : decode cX6_gather 12 = .ok (.iaload, 1) := by decide +kernel
theorem dX6_gather_13 : decode cX6_gather 13 = .ok (.sipush 1023, 3) := by decide +kernel
theorem dX6_gather_16 : decode cX6_gather 16 = .ok (.iconst 1, 1) := by decide +kernel
theorem dX6_gather_17 : decode cX6_gather 17 = .ok (.invokevirtual 37, 3) := by decide +kernel
theorem dX6_gather_20 : decode cX6_gather 20 = .ok (.aload_n 0, 1) := by decide +kernel
theorem dX6_gather_21 : decode cX6_gather 21 = .ok (.iconst 0, 1) := by decide +kernel
theorem dX6_gather_22 : decode cX6_gather 22 = .ok (.putfield 43, 3) := by decide +kernel
theorem dX6_gather_25 : decode cX6_gather 25 = .ok (.iconst 0, 1) := by decide +kernel
theorem dX6_gather_26 : decode cX6_gather 26 = .ok (.istore_n 2, 1) := by decide +kernel
theorem dX6_gather_27 : decode cX6_gather 27 = .ok (.iload_n 2, 1) := by decide +kernel
theorem dX6_gather_28 : decode cX6_gather 28 = .ok (.bipush 10, 2) := by decide +kernel
theorem dX6_gather_30 : decode cX6_gather 30 = .ok (.if_icmp .ge 94, 3) := by decide +kernel
theorem dX6_gather_33 : decode cX6_gather 33 = .ok (.iload_n 2, 1) := by decide +kernel
theorem dX6_gather_34 : decode cX6_gather 34 = .ok (.bipush 9, 2) := by decide +kernel
theorem dX6_gather_36 : decode cX6_gather 36 = .ok (.imul, 1) := by decide +kernel
theorem dX6_gather_37 : decode cX6_gather 37 = .ok (.iload_n 1, 1) := by decide +kernel
theorem dX6_gather_38 : decode cX6_gather 38 = .ok (.iadd, 1) := by decide +kernel
theorem dX6_gather_39 : decode cX6_gather 39 = .ok (.istore_n 3, 1) := by decide +kernel
theorem dX6_gather_40 : decode cX6_gather 40 = .ok (.aload_n 0, 1) := by decide +kernel
theorem dX6_gather_41 : decode cX6_gather 41 = .ok (.getfield 23, 3) := by decide +kernel
theorem dX6_gather_44 : decode cX6_gather 44 = .ok (.iload_n 3, 1) := by decide +kernel
theorem dX6_gather_45 : decode cX6_gather 45 = .ok (.iaload, 1) := by decide +kernel
theorem dX6_gather_46 : decode cX6_gather 46 = .ok (.ifCond .le 72, 3) := by decide +kernel
theorem dX6_gather_49 : decode cX6_gather 49 = .ok (.aload_n 0, 1) := by decide +kernel
theorem dX6_gather_50 : decode cX6_gather 50 = .ok (.getfield 15, 3) := by decide +kernel
theorem dX6_gather_53 : decode cX6_gather 53 = .ok (.getfield 47, 3) := by decide +kernel
theorem dX6_gather_56 : decode cX6_gather 56 = .ok (.iload_n 2, 1) := by decide +kernel
theorem dX6_gather_57 : decode cX6_gather 57 = .ok (.iaload, 1) := by decide +kernel
theorem dX6_gather_58 : decode cX6_gather 58 = .ok (.iconst (-1), 1) := by decide +kernel
theorem dX6_gather_59 : decode cX6_gather 59 = .ok (.if_icmp .eq 59, 3) := by decide +kernel
theorem dX6_gather_62 : decode cX6_gather 62 = .ok (.aload_n 0, 1) := by decide +kernel
theorem dX6_gather_63 : decode cX6_gather 63 = .ok (.getfield 26, 3) := by decide +kernel
theorem dX6_gather_66 : decode cX6_gather 66 = .ok (.aload_n 0, 1) := by decide +kernel
theorem dX6_gather_67 : decode cX6_gather 67 = .ok (.getfield 43, 3) := by decide +kernel
theorem dX6_gather_70 : decode cX6_gather 70 = .ok (.sipush 1000, 3) := by decide +kernel
theorem dX6_gather_73 : decode cX6_gather 73 = .ok (.aload_n 0, 1) := by decide +kernel
theorem dX6_gather_74 : decode cX6_gather 74 = .ok (.getfield 19, 3) := by decide +kernel
theorem dX6_gather_77 : decode cX6_gather 77 = .ok (.iload_n 3, 1) := by decide +kernel
theorem dX6_gather_78 : decode cX6_gather 78 = .ok (.iaload, 1) := by decide +kernel
theorem dX6_gather_79 : decode cX6_gather 79 = .ok (.imul, 1) := by decide +kernel
theorem dX6_gather_80 : decode cX6_gather 80 = .ok (.aload_n 0, 1) := by decide +kernel
theorem dX6_gather_81 : decode cX6_gather 81 = .ok (.getfield 23, 3) := by decide +kernel
theorem dX6_gather_84 : decode cX6_gather 84 = .ok (.iload_n 3, 1) := by decide +kernel
theorem dX6_gather_85 : decode cX6_gather 85 = .ok (.iaload, 1) := by decide +kernel
theorem dX6_gather_86 : decode cX6_gather 86 = .ok (.invokestatic 50, 3) := by decide +kernel
theorem dX6_gather_89 : decode cX6_gather 89 = .ok (.iastore, 1) := by decide +kernel
theorem dX6_gather_90 : decode cX6_gather 90 = .ok (.aload_n 0, 1) := by decide +kernel
theorem dX6_gather_91 : decode cX6_gather 91 = .ok (.getfield 29, 3) := by decide +kernel
theorem dX6_gather_94 : decode cX6_gather 94 = .ok (.aload_n 0, 1) := by decide +kernel
theorem dX6_gather_95 : decode cX6_gather 95 = .ok (.getfield 43, 3) := by decide +kernel
theorem dX6_gather_98 : decode cX6_gather 98 = .ok (.aload_n 0, 1) := by decide +kernel
theorem dX6_gather_99 : decode cX6_gather 99 = .ok (.getfield 15, 3) := by decide +kernel
theorem dX6_gather_102 : decode cX6_gather 102 = .ok (.getfield 47, 3) := by decide +kernel
theorem dX6_gather_105 : decode cX6_gather 105 = .ok (.iload_n 2, 1) := by decide +kernel
theorem dX6_gather_106 : decode cX6_gather 106 = .ok (.iaload, 1) := by decide +kernel
theorem dX6_gather_107 : decode cX6_gather 107 = .ok (.iastore, 1) := by decide +kernel
theorem dX6_gather_108 : decode cX6_gather 108 = .ok (.aload_n 0, 1) := by decide +kernel
theorem dX6_gather_109 : decode cX6_gather 109 = .ok (.dup, 1) := by decide +kernel
theorem dX6_gather_110 : decode cX6_gather 110 = .ok (.getfield 43, 3) := by decide +kernel
theorem dX6_gather_113 : decode cX6_gather 113 = .ok (.iconst 1, 1) := by decide +kernel
theorem dX6_gather_114 : decode cX6_gather 114 = .ok (.iadd, 1) := by decide +kernel
theorem dX6_gather_115 : decode cX6_gather 115 = .ok (.putfield 43, 3) := by decide +kernel
theorem dX6_gather_118 : decode cX6_gather 118 = .ok (.iinc 2 1, 3) := by decide +kernel
theorem dX6_gather_121 : decode cX6_gather 121 = .ok (.goto (-94), 3) := by decide +kernel
theorem dX6_gather_124 : decode cX6_gather 124 = .ok (.return_, 1) := by decide +kernel
theorem dX6_missOf_0 : decode cX6_missOf 0 = .ok (.iconst 0, 1) := by decide +kernel
theorem dX6_missOf_1 : decode cX6_missOf 1 = .ok (.istore_n 3, 1) := by decide +kernel
theorem dX6_missOf_2 : decode cX6_missOf 2 = .ok (.iconst 0, 1) := by decide +kernel
theorem dX6_missOf_3 : decode cX6_missOf 3 = .ok (.istore 4, 2) := by decide +kernel
theorem dX6_missOf_5 : decode cX6_missOf 5 = .ok (.iload 4, 2) := by decide +kernel
theorem dX6_missOf_7 : decode cX6_missOf 7 = .ok (.aload_n 0, 1) := by decide +kernel
theorem dX6_missOf_8 : decode cX6_missOf 8 = .ok (.getfield 43, 3) := by decide +kernel
theorem dX6_missOf_11 : decode cX6_missOf 11 = .ok (.if_icmp .ge 35, 3) := by decide +kernel
theorem dX6_missOf_14 : decode cX6_missOf 14 = .ok (.iload_n 3, 1) := by decide +kernel
theorem dX6_missOf_15 : decode cX6_missOf 15 = .ok (.aload_n 0, 1) := by decide +kernel
theorem dX6_missOf_16 : decode cX6_missOf 16 = .ok (.getfield 26, 3) := by decide +kernel
theorem dX6_missOf_19 : decode cX6_missOf 19 = .ok (.iload 4, 2) := by decide +kernel
theorem dX6_missOf_21 : decode cX6_missOf 21 = .ok (.iaload, 1) := by decide +kernel
theorem dX6_missOf_22 : decode cX6_missOf 22 = .ok (.iload_n 1, 1) := by decide +kernel
theorem dX6_missOf_23 : decode cX6_missOf 23 = .ok (.iload_n 2, 1) := by decide +kernel
theorem dX6_missOf_24 : decode cX6_missOf 24 = .ok (.aload_n 0, 1) := by decide +kernel
theorem dX6_missOf_25 : decode cX6_missOf 25 = .ok (.getfield 29, 3) := by decide +kernel
theorem dX6_missOf_28 : decode cX6_missOf 28 = .ok (.iload 4, 2) := by decide +kernel
theorem dX6_missOf_30 : decode cX6_missOf 30 = .ok (.iaload, 1) := by decide +kernel
theorem dX6_missOf_31 : decode cX6_missOf 31 = .ok (.invokestatic 54, 3) := by decide +kernel
theorem dX6_missOf_34 : decode cX6_missOf 34 = .ok (.isub, 1) := by decide +kernel
theorem dX6_missOf_35 : decode cX6_missOf 35 = .ok (.invokestatic 58, 3) := by decide +kernel
theorem dX6_missOf_38 : decode cX6_missOf 38 = .ok (.iadd, 1) := by decide +kernel
theorem dX6_missOf_39 : decode cX6_missOf 39 = .ok (.istore_n 3, 1) := by decide +kernel
theorem dX6_missOf_40 : decode cX6_missOf 40 = .ok (.iinc 4 1, 3) := by decide +kernel
theorem dX6_missOf_43 : decode cX6_missOf 43 = .ok (.goto (-38), 3) := by decide +kernel
theorem dX6_missOf_46 : decode cX6_missOf 46 = .ok (.iload_n 3, 1) := by decide +kernel
theorem dX6_missOf_47 : decode cX6_missOf 47 = .ok (.ireturn, 1) := by decide +kernel
theorem dX6_shareByLaw_0 : decode cX6_shareByLaw 0 = .ok (.iload_n 0, 1) := by decide +kernel
theorem dX6_shareByLaw_1 : decode cX6_shareByLaw 1 = .ok (.ifCond .ne 21, 3) := by decide +kernel
theorem dX6_shareByLaw_4 : decode cX6_shareByLaw 4 = .ok (.sipush 1000, 3) := by decide +kernel
theorem dX6_shareByLaw_7 : decode cX6_shareByLaw 7 = .ok (.iload_n 2, 1) := by decide +kernel
theorem dX6_shareByLaw_8 : decode cX6_shareByLaw 8 = .ok (.bipush 10, 2) := by decide +kernel
theorem dX6_shareByLaw_10 : decode cX6_shareByLaw 10 = .ok (.iload_n 1, 1) := by decide +kernel
theorem dX6_shareByLaw_11 : decode cX6_shareByLaw 11 = .ok (.imul, 1) := by decide +kernel
theorem dX6_shareByLaw_12 : decode cX6_shareByLaw 12 = .ok (.invokestatic 50, 3) := by decide +kernel
theorem dX6_shareByLaw_15 : decode cX6_shareByLaw 15 = .ok (.bipush 10, 2) := by decide +kernel
theorem dX6_shareByLaw_17 : decode cX6_shareByLaw 17 = .ok (.invokestatic 64, 3) := by decide +kernel
theorem dX6_shareByLaw_20 : decode cX6_shareByLaw 20 = .ok (.ishr, 1) := by decide +kernel
theorem dX6_shareByLaw_21 : decode cX6_shareByLaw 21 = .ok (.ireturn, 1) := by decide +kernel
theorem dX6_shareByLaw_22 : decode cX6_shareByLaw 22 = .ok (.iload_n 0, 1) := by decide +kernel
theorem dX6_shareByLaw_23 : decode cX6_shareByLaw 23 = .ok (.iconst 1, 1) := by decide +kernel
theorem dX6_shareByLaw_24 : decode cX6_shareByLaw 24 = .ok (.if_icmp .ne 18, 3) := by decide +kernel
theorem dX6_shareByLaw_27 : decode cX6_shareByLaw 27 = .ok (.iconst 0, 1) := by decide +kernel
theorem dX6_shareByLaw_28 : decode cX6_shareByLaw 28 = .ok (.sipush 1000, 3) := by decide +kernel
theorem dX6_shareByLaw_31 : decode cX6_shareByLaw 31 = .ok (.iload_n 1, 1) := by decide +kernel
theorem dX6_shareByLaw_32 : decode cX6_shareByLaw 32 = .ok (.iload_n 2, 1) := by decide +kernel
theorem dX6_shareByLaw_33 : decode cX6_shareByLaw 33 = .ok (.imul, 1) := by decide +kernel
theorem dX6_shareByLaw_34 : decode cX6_shareByLaw 34 = .ok (.bipush 10, 2) := by decide +kernel
theorem dX6_shareByLaw_36 : decode cX6_shareByLaw 36 = .ok (.idiv, 1) := by decide +kernel
theorem dX6_shareByLaw_37 : decode cX6_shareByLaw 37 = .ok (.isub, 1) := by decide +kernel
theorem dX6_shareByLaw_38 : decode cX6_shareByLaw 38 = .ok (.invokestatic 67, 3) := by decide +kernel
theorem dX6_shareByLaw_41 : decode cX6_shareByLaw 41 = .ok (.ireturn, 1) := by decide +kernel
theorem dX6_shareByLaw_42 : decode cX6_shareByLaw 42 = .ok (.iload_n 2, 1) := by decide +kernel
theorem dX6_shareByLaw_43 : decode cX6_shareByLaw 43 = .ok (.bipush 10, 2) := by decide +kernel
theorem dX6_shareByLaw_45 : decode cX6_shareByLaw 45 = .ok (.iload_n 1, 1) := by decide +kernel
theorem dX6_shareByLaw_46 : decode cX6_shareByLaw 46 = .ok (.imul, 1) := by decide +kernel
theorem dX6_shareByLaw_47 : decode cX6_shareByLaw 47 = .ok (.if_icmp .gt 9, 3) := by decide +kernel
theorem dX6_shareByLaw_50 : decode cX6_shareByLaw 50 = .ok (.sipush 900, 3) := by decide +kernel
theorem dX6_shareByLaw_53 : decode cX6_shareByLaw 53 = .ok (.goto 5, 3) := by decide +kernel
theorem dX6_shareByLaw_56 : decode cX6_shareByLaw 56 = .ok (.bipush 100, 2) := by decide +kernel
theorem dX6_shareByLaw_58 : decode cX6_shareByLaw 58 = .ok (.ireturn, 1) := by decide +kernel
theorem dX6_best_0 : decode cX6_best 0 = .ok (.iconst 1, 1) := by decide +kernel
theorem dX6_best_1 : decode cX6_best 1 = .ok (.istore_n 2, 1) := by decide +kernel
theorem dX6_best_2 : decode cX6_best 2 = .ok (.iconst (-1), 1) := by decide +kernel
theorem dX6_best_3 : decode cX6_best 3 = .ok (.istore_n 3, 1) := by decide +kernel
theorem dX6_best_4 : decode cX6_best 4 = .ok (.iconst 0, 1) := by decide +kernel
theorem dX6_best_5 : decode cX6_best 5 = .ok (.istore 4, 2) := by decide +kernel
theorem dX6_best_7 : decode cX6_best 7 = .ok (.iload 4, 2) := by decide +kernel
theorem dX6_best_9 : decode cX6_best 9 = .ok (.iconst 3, 1) := by decide +kernel
theorem dX6_best_10 : decode cX6_best 10 = .ok (.if_icmp .ge 58, 3) := by decide +kernel
theorem dX6_best_13 : decode cX6_best 13 = .ok (.iconst 1, 1) := by decide +kernel
theorem dX6_best_14 : decode cX6_best 14 = .ok (.istore 5, 2) := by decide +kernel
theorem dX6_best_16 : decode cX6_best 16 = .ok (.iload 5, 2) := by decide +kernel
theorem dX6_best_18 : decode cX6_best 18 = .ok (.bipush 99, 2) := by decide +kernel
theorem dX6_best_20 : decode cX6_best 20 = .ok (.if_icmp .gt 42, 3) := by decide +kernel
theorem dX6_best_23 : decode cX6_best 23 = .ok (.aload_n 0, 1) := by decide +kernel
theorem dX6_best_24 : decode cX6_best 24 = .ok (.iload 4, 2) := by decide +kernel
theorem dX6_best_26 : decode cX6_best 26 = .ok (.iload 5, 2) := by decide +kernel
theorem dX6_best_28 : decode cX6_best 28 = .ok (.invokevirtual 70, 3) := by decide +kernel
theorem dX6_best_31 : decode cX6_best 31 = .ok (.istore 6, 2) := by decide +kernel
theorem dX6_best_33 : decode cX6_best 33 = .ok (.iload_n 3, 1) := by decide +kernel
theorem dX6_best_34 : decode cX6_best 34 = .ok (.iconst (-1), 1) := by decide +kernel
theorem dX6_best_35 : decode cX6_best 35 = .ok (.if_icmp .eq 9, 3) := by decide +kernel
theorem dX6_best_38 : decode cX6_best 38 = .ok (.iload 6, 2) := by decide +kernel
theorem dX6_best_40 : decode cX6_best 40 = .ok (.iload_n 3, 1) := by decide +kernel
theorem dX6_best_41 : decode cX6_best 41 = .ok (.if_icmp .ge 15, 3) := by decide +kernel
theorem dX6_best_44 : decode cX6_best 44 = .ok (.iload 6, 2) := by decide +kernel
theorem dX6_best_46 : decode cX6_best 46 = .ok (.istore_n 3, 1) := by decide +kernel
theorem dX6_best_47 : decode cX6_best 47 = .ok (.bipush 100, 2) := by decide +kernel
theorem dX6_best_49 : decode cX6_best 49 = .ok (.iload 4, 2) := by decide +kernel
theorem dX6_best_51 : decode cX6_best 51 = .ok (.imul, 1) := by decide +kernel
theorem dX6_best_52 : decode cX6_best 52 = .ok (.iload 5, 2) := by decide +kernel
theorem dX6_best_54 : decode cX6_best 54 = .ok (.iadd, 1) := by decide +kernel
theorem dX6_best_55 : decode cX6_best 55 = .ok (.istore_n 2, 1) := by decide +kernel
theorem dX6_best_56 : decode cX6_best 56 = .ok (.iinc 5 1, 3) := by decide +kernel
theorem dX6_best_59 : decode cX6_best 59 = .ok (.goto (-43), 3) := by decide +kernel
theorem dX6_best_62 : decode cX6_best 62 = .ok (.iinc 4 1, 3) := by decide +kernel
theorem dX6_best_65 : decode cX6_best 65 = .ok (.goto (-58), 3) := by decide +kernel
theorem dX6_best_68 : decode cX6_best 68 = .ok (.iload_n 1, 1) := by decide +kernel
theorem dX6_best_69 : decode cX6_best 69 = .ok (.ifCond .ne 7, 3) := by decide +kernel
theorem dX6_best_72 : decode cX6_best 72 = .ok (.iload_n 2, 1) := by decide +kernel
theorem dX6_best_73 : decode cX6_best 73 = .ok (.goto 4, 3) := by decide +kernel
theorem dX6_best_76 : decode cX6_best 76 = .ok (.iload_n 3, 1) := by decide +kernel
theorem dX6_best_77 : decode cX6_best 77 = .ok (.ireturn, 1) := by decide +kernel
theorem dX7_init_0 : decode cX7_init 0 = .ok (.aload_n 0, 1) := by decide +kernel
theorem dX7_init_1 : decode cX7_init 1 = .ok (.invokespecial 3, 3) := by decide +kernel
theorem dX7_init_4 : decode cX7_init 4 = .ok (.aload_n 0, 1) := by decide +kernel
theorem dX7_init_5 : decode cX7_init 5 = .ok (.sipush 200, 3) := by decide +kernel
theorem dX7_init_8 : decode cX7_init 8 = .ok (.newarray .int, 2) := by decide +kernel
theorem dX7_init_10 : decode cX7_init 10 = .ok (.putfield 9, 3) := by decide +kernel
theorem dX7_init_13 : decode cX7_init 13 = .ok (.aload_n 0, 1) := by decide +kernel
theorem dX7_init_14 : decode cX7_init 14 = .ok (.bipush 64, 2) := by decide +kernel
theorem dX7_init_16 : decode cX7_init 16 = .ok (.newarray .int, 2) := by decide +kernel
theorem dX7_init_18 : decode cX7_init 18 = .ok (.putfield 15, 3) := by decide +kernel
theorem dX7_init_21 : decode cX7_init 21 = .ok (.return_, 1) := by decide +kernel
theorem dX7_hasRoomFor_0 : decode cX7_hasRoomFor 0 = .ok (.iload_n 1, 1) := by decide +kernel
theorem dX7_hasRoomFor_1 : decode cX7_hasRoomFor 1 = .ok (.sipush 200, 3) := by decide +kernel
theorem dX7_hasRoomFor_4 : decode cX7_hasRoomFor 4 = .ok (.aload_n 0, 1) := by decide +kernel
theorem dX7_hasRoomFor_5 : decode cX7_hasRoomFor 5 = .ok (.getfield 18, 3) := by decide +kernel
theorem dX7_hasRoomFor_8 : decode cX7_hasRoomFor 8 = .ok (.isub, 1) := by decide +kernel
theorem dX7_hasRoomFor_9 : decode cX7_hasRoomFor 9 = .ok (.if_icmp .gt 7, 3) := by decide +kernel
theorem dX7_hasRoomFor_12 : decode cX7_hasRoomFor 12 = .ok (.iconst 1, 1) := by decide +kernel
theorem dX7_hasRoomFor_13 : decode cX7_hasRoomFor 13 = .ok (.goto 4, 3) := by decide +kernel
theorem dX7_hasRoomFor_16 : decode cX7_hasRoomFor 16 = .ok (.iconst 0, 1) := by decide +kernel
theorem dX7_hasRoomFor_17 : decode cX7_hasRoomFor 17 = .ok (.ireturn, 1) := by decide +kernel
theorem dX7_append_0 : decode cX7_append 0 = .ok (.iconst 0, 1) := by decide +kernel
theorem dX7_append_1 : decode cX7_append 1 = .ok (.istore 4, 2) := by decide +kernel
theorem dX7_append_3 : decode cX7_append 3 = .ok (.iload 4, 2) := by decide +kernel
theorem dX7_append_5 : decode cX7_append 5 = .ok (.iload_n 3, 1) := by decide +kernel
theorem dX7_append_6 : decode cX7_append 6 = .ok (.if_icmp .ge 50, 3) := by decide +kernel
theorem dX7_append_9 : decode cX7_append 9 = .ok (.aload_n 0, 1) := by decide +kernel
theorem dX7_append_10 : decode cX7_append 10 = .ok (.getfield 18, 3) := by decide +kernel
theorem dX7_append_13 : decode cX7_append 13 = .ok (.sipush 200, 3) := by decide +kernel
theorem dX7_append_16 : decode cX7_append 16 = .ok (.if_icmp .ge 40, 3) := by decide +kernel
theorem dX7_append_19 : decode cX7_append 19 = .ok (.aload_n 0, 1) := by decide +kernel
theorem dX7_append_20 : decode cX7_append 20 = .ok (.getfield 9, 3) := by decide +kernel
theorem dX7_append_23 : decode cX7_append 23 = .ok (.aload_n 0, 1) := by decide +kernel
theorem dX7_append_24 : decode cX7_append 24 = .ok (.getfield 18, 3) := by decide +kernel
theorem dX7_append_27 : decode cX7_append 27 = .ok (.lload_n 1, 1) := by decide +kernel
theorem dX7_append_28 : decode cX7_append 28 = .ok (.bipush 8, 2) := by decide +kernel
theorem dX7_append_30 : decode cX7_append 30 = .ok (.iload 4, 2) := by decide +kernel
theorem dX7_append_32 : decode cX7_append 32 = .ok (.imul, 1) := by decide +kernel
theorem dX7_append_33 : decode cX7_append 33 = .ok (.lshr, 1) := by decide +kernel
theorem dX7_append_34 : decode cX7_append 34 = .ok (.l2i, 1) := by decide +kernel
theorem dX7_append_35 : decode cX7_append 35 = .ok (.sipush 255, 3) := by decide +kernel
theorem dX7_append_38 : decode cX7_append 38 = .ok (.iand, 1) := by decide +kernel
theorem dX7_append_39 : decode cX7_append 39 = .ok (.iastore, 1) := by decide +kernel
theorem dX7_append_40 : decode cX7_append 40 = .ok (.aload_n 0, 1) := by decide +kernel
theorem dX7_append_41 : decode cX7_append 41 = .ok (.dup, 1) := by decide +kernel
theorem dX7_append_42 : decode cX7_append 42 = .ok (.getfield 18, 3) := by decide +kernel
theorem dX7_append_45 : decode cX7_append 45 = .ok (.iconst 1, 1) := by decide +kernel
theorem dX7_append_46 : decode cX7_append 46 = .ok (.iadd, 1) := by decide +kernel
theorem dX7_append_47 : decode cX7_append 47 = .ok (.putfield 18, 3) := by decide +kernel
theorem dX7_append_50 : decode cX7_append 50 = .ok (.iinc 4 1, 3) := by decide +kernel
theorem dX7_append_53 : decode cX7_append 53 = .ok (.goto (-50), 3) := by decide +kernel
theorem dX7_append_56 : decode cX7_append 56 = .ok (.aload_n 0, 1) := by decide +kernel
theorem dX7_append_57 : decode cX7_append 57 = .ok (.getfield 18, 3) := by decide +kernel
theorem dX7_append_60 : decode cX7_append 60 = .ok (.ireturn, 1) := by decide +kernel
theorem dX7_empty_0 : decode cX7_empty 0 = .ok (.aload_n 0, 1) := by decide +kernel
theorem dX7_empty_1 : decode cX7_empty 1 = .ok (.getfield 18, 3) := by decide +kernel
theorem dX7_empty_4 : decode cX7_empty 4 = .ok (.istore_n 1, 1) := by decide +kernel
theorem dX7_empty_5 : decode cX7_empty 5 = .ok (.aload_n 0, 1) := by decide +kernel
theorem dX7_empty_6 : decode cX7_empty 6 = .ok (.iconst 0, 1) := by decide +kernel
theorem dX7_empty_7 : decode cX7_empty 7 = .ok (.putfield 18, 3) := by decide +kernel
theorem dX7_empty_10 : decode cX7_empty 10 = .ok (.iload_n 1, 1) := by decide +kernel
theorem dX7_empty_11 : decode cX7_empty 11 = .ok (.ireturn, 1) := by decide +kernel
theorem dX7_read_0 : decode cX7_read 0 = .ok (.aload_n 0, 1) := by decide +kernel
theorem dX7_read_1 : decode cX7_read 1 = .ok (.iconst 0, 1) := by decide +kernel
theorem dX7_read_2 : decode cX7_read 2 = .ok (.putfield 22, 3) := by decide +kernel
theorem dX7_read_5 : decode cX7_read 5 = .ok (.aload_n 0, 1) := by decide +kernel
theorem dX7_read_6 : decode cX7_read 6 = .ok (.iconst 0, 1) := by decide +kernel
theorem dX7_read_7 : decode cX7_read 7 = .ok (.putfield 25, 3) := by decide +kernel
theorem dX7_read_10 : decode cX7_read 10 = .ok (.iconst 0, 1) := by decide +kernel
theorem dX7_read_11 : decode cX7_read 11 = .ok (.istore_n 1, 1) := by decide +kernel
theorem dX7_read_12 : decode cX7_read 12 = .ok (.iload_n 1, 1) := by decide +kernel
theorem dX7_read_13 : decode cX7_read 13 = .ok (.bipush 8, 2) := by decide +kernel
theorem dX7_read_15 : decode cX7_read 15 = .ok (.if_icmp .ge 71, 3) := by decide +kernel
theorem dX7_read_18 : decode cX7_read 18 = .ok (.aload_n 0, 1) := by decide +kernel
theorem dX7_read_19 : decode cX7_read 19 = .ok (.iload_n 1, 1) := by decide +kernel
theorem dX7_read_20 : decode cX7_read 20 = .ok (.bipush 8, 2) := by decide +kernel
theorem dX7_read_22 : decode cX7_read 22 = .ok (.imul, 1) := by decide +kernel
theorem dX7_read_23 : decode cX7_read 23 = .ok (.invokevirtual 28, 3) := by decide +kernel
theorem dX7_read_26 : decode cX7_read 26 = .ok (.ifCond .ne 8, 3) := by decide +kernel
theorem dX7_read_29 : decode cX7_read 29 = .ok (.aload_n 0, 1) := by decide +kernel
theorem dX7_read_30 : decode cX7_read 30 = .ok (.getfield 32, 3) := by decide +kernel
theorem dX7_read_33 : decode cX7_read 33 = .ok (.ireturn, 1) := by decide +kernel
theorem dX7_read_34 : decode cX7_read 34 = .ok (.aload_n 0, 1) := by decide +kernel
theorem dX7_read_35 : decode cX7_read 35 = .ok (.dup, 1) := by decide +kernel
theorem dX7_read_36 : decode cX7_read 36 = .ok (.getfield 25, 3) := by decide +kernel
theorem dX7_read_39 : decode cX7_read 39 = .ok (.iconst 1, 1) := by decide +kernel
theorem dX7_read_40 : decode cX7_read 40 = .ok (.iadd, 1) := by decide +kernel
theorem dX7_read_41 : decode cX7_read 41 = .ok (.putfield 25, 3) := by decide +kernel
theorem dX7_read_44 : decode cX7_read 44 = .ok (.aload_n 0, 1) := by decide +kernel
theorem dX7_read_45 : decode cX7_read 45 = .ok (.invokevirtual 35, 3) := by decide +kernel
theorem dX7_read_48 : decode cX7_read 48 = .ok (.aload_n 0, 1) := by decide +kernel
theorem dX7_read_49 : decode cX7_read 49 = .ok (.getfield 32, 3) := by decide +kernel
theorem dX7_read_52 : decode cX7_read 52 = .ok (.aload_n 0, 1) := by decide +kernel
theorem dX7_read_53 : decode cX7_read 53 = .ok (.getfield 18, 3) := by decide +kernel
theorem dX7_read_56 : decode cX7_read 56 = .ok (.if_icmp .lt 5, 3) := by decide +kernel
theorem dX7_read_59 : decode cX7_read 59 = .ok (.iconst (-1), 1) := by decide +kernel
theorem dX7_read_60 : decode cX7_read 60 = .ok (.ireturn, 1) := by decide +kernel
theorem dX7_read_61 : decode cX7_read 61 = .ok (.aload_n 0, 1) := by decide +kernel
theorem dX7_read_62 : decode cX7_read 62 = .ok (.getfield 9, 3) := by decide +kernel
theorem dX7_read_65 : decode cX7_read 65 = .ok (.aload_n 0, 1) := by decide +kernel
theorem dX7_read_66 : decode cX7_read 66 = .ok (.getfield 32, 3) := by decide +kernel
theorem dX7_read_69 : decode cX7_read 69 = .ok (.iaload, 1) := by decide +kernel
theorem dX7_read_70 : decode cX7_read 70 = .ok (.bipush 59, 2) := by decide +kernel
theorem dX7_read_72 : decode cX7_read 72 = .ok (.if_icmp .eq 8, 3) := by decide +kernel
theorem dX7_read_75 : decode cX7_read 75 = .ok (.aload_n 0, 1) := by decide +kernel
theorem dX7_read_76 : decode cX7_read 76 = .ok (.getfield 32, 3) := by decide +kernel
theorem dX7_read_79 : decode cX7_read 79 = .ok (.ireturn, 1) := by decide +kernel
theorem dX7_read_80 : decode cX7_read 80 = .ok (.iinc 1 1, 3) := by decide +kernel
theorem dX7_read_83 : decode cX7_read 83 = .ok (.goto (-71), 3) := by decide +kernel
theorem dX7_read_86 : decode cX7_read 86 = .ok (.aload_n 0, 1) := by decide +kernel
theorem dX7_read_87 : decode cX7_read 87 = .ok (.getfield 32, 3) := by decide +kernel
theorem dX7_read_90 : decode cX7_read 90 = .ok (.ireturn, 1) := by decide +kernel
theorem dX7_readLine_0 : decode cX7_readLine 0 = .ok (.aload_n 0, 1) := by decide +kernel
theorem dX7_readLine_1 : decode cX7_readLine 1 = .ok (.invokevirtual 35, 3) := by decide +kernel
theorem dX7_readLine_4 : decode cX7_readLine 4 = .ok (.aload_n 0, 1) := by decide +kernel
theorem dX7_readLine_5 : decode cX7_readLine 5 = .ok (.invokevirtual 38, 3) := by decide +kernel
theorem dX7_readLine_8 : decode cX7_readLine 8 = .ok (.istore_n 2, 1) := by decide +kernel
theorem dX7_readLine_9 : decode cX7_readLine 9 = .ok (.iload_n 2, 1) := by decide +kernel
theorem dX7_readLine_10 : decode cX7_readLine 10 = .ok (.iconst (-1), 1) := by decide +kernel
theorem dX7_readLine_11 : decode cX7_readLine 11 = .ok (.if_icmp .ne 5, 3) := by decide +kernel
theorem dX7_readLine_14 : decode cX7_readLine 14 = .ok (.iconst 0, 1) := by decide +kernel
theorem dX7_readLine_15 : decode cX7_readLine 15 = .ok (.ireturn, 1) := by decide +kernel
theorem dX7_readLine_16 : decode cX7_readLine 16 = .ok (.aload_n 0, 1) := by decide +kernel
theorem dX7_readLine_17 : decode cX7_readLine 17 = .ok (.getfield 15, 3) := by decide +kernel
theorem dX7_readLine_20 : decode cX7_readLine 20 = .ok (.iload_n 1, 1) := by decide +kernel
theorem dX7_readLine_21 : decode cX7_readLine 21 = .ok (.iload_n 2, 1) := by decide +kernel
theorem dX7_readLine_22 : decode cX7_readLine 22 = .ok (.iastore, 1) := by decide +kernel
theorem dX7_readLine_23 : decode cX7_readLine 23 = .ok (.iload_n 2, 1) := by decide +kernel
theorem dX7_readLine_24 : decode cX7_readLine 24 = .ok (.invokestatic 42, 3) := by decide +kernel
theorem dX7_readLine_27 : decode cX7_readLine 27 = .ok (.astore_n 3, 1) := by decide +kernel
theorem dX7_readLine_28 : decode cX7_readLine 28 = .ok (.iconst 0, 1) := by decide +kernel
theorem dX7_readLine_29 : decode cX7_readLine 29 = .ok (.istore 4, 2) := by decide +kernel
theorem dX7_readLine_31 : decode cX7_readLine 31 = .ok (.iconst 0, 1) := by decide +kernel
theorem dX7_readLine_32 : decode cX7_readLine 32 = .ok (.istore 5, 2) := by decide +kernel
theorem dX7_readLine_34 : decode cX7_readLine 34 = .ok (.iload 5, 2) := by decide +kernel
theorem dX7_readLine_36 : decode cX7_readLine 36 = .ok (.aload_n 3, 1) := by decide +kernel
theorem dX7_readLine_37 : decode cX7_readLine 37 = .ok (.invokevirtual 46, 3) := by decide +kernel
theorem dX7_readLine_40 : decode cX7_readLine 40 = .ok (.if_icmp .ge 60, 3) := by decide +kernel
theorem dX7_readLine_43 : decode cX7_readLine 43 = .ok (.aload_n 0, 1) := by decide +kernel
theorem dX7_readLine_44 : decode cX7_readLine 44 = .ok (.invokevirtual 35, 3) := by decide +kernel
theorem dX7_readLine_47 : decode cX7_readLine 47 = .ok (.aload_n 0, 1) := by decide +kernel
theorem dX7_readLine_48 : decode cX7_readLine 48 = .ok (.invokevirtual 50, 3) := by decide +kernel
theorem dX7_readLine_51 : decode cX7_readLine 51 = .ok (.istore 6, 2) := by decide +kernel
theorem dX7_readLine_53 : decode cX7_readLine 53 = .ok (.iload 6, 2) := by decide +kernel
theorem dX7_readLine_55 : decode cX7_readLine 55 = .ok (.iconst (-1), 1) := by decide +kernel
theorem dX7_readLine_56 : decode cX7_readLine 56 = .ok (.if_icmp .eq 19, 3) := by decide +kernel
theorem dX7_readLine_59 : decode cX7_readLine 59 = .ok (.aload_n 3, 1) := by decide +kernel
theorem dX7_readLine_60 : decode cX7_readLine 60 = .ok (.iload 5, 2) := by decide +kernel
theorem dX7_readLine_62 : decode cX7_readLine 62 = .ok (.invokevirtual 53, 3) := by decide +kernel
theorem dX7_readLine_65 : decode cX7_readLine 65 = .ok (.iload 6, 2) := by decide +kernel
theorem dX7_readLine_67 : decode cX7_readLine 67 = .ok (.iload 4, 2) := by decide +kernel
theorem dX7_readLine_69 : decode cX7_readLine 69 = .ok (.invokestatic 57, 3) := by decide +kernel
theorem dX7_readLine_72 : decode cX7_readLine 72 = .ok (.ifCond .ne 5, 3) := by decide +kernel
theorem dX7_readLine_75 : decode cX7_readLine 75 = .ok (.iconst 0, 1) := by decide +kernel
theorem dX7_readLine_76 : decode cX7_readLine 76 = .ok (.ireturn, 1) := by decide +kernel
theorem dX7_readLine_77 : decode cX7_readLine 77 = .ok (.aload_n 0, 1) := by decide +kernel
theorem dX7_readLine_78 : decode cX7_readLine 78 = .ok (.getfield 15, 3) := by decide +kernel
theorem dX7_readLine_81 : decode cX7_readLine 81 = .ok (.iload_n 1, 1) := by decide +kernel
theorem dX7_readLine_82 : decode cX7_readLine 82 = .ok (.iconst 1, 1) := by decide +kernel
theorem dX7_readLine_83 : decode cX7_readLine 83 = .ok (.iadd, 1) := by decide +kernel
theorem dX7_readLine_84 : decode cX7_readLine 84 = .ok (.iload 5, 2) := by decide +kernel
theorem dX7_readLine_86 : decode cX7_readLine 86 = .ok (.iadd, 1) := by decide +kernel
theorem dX7_readLine_87 : decode cX7_readLine 87 = .ok (.iload 6, 2) := by decide +kernel
theorem dX7_readLine_89 : decode cX7_readLine 89 = .ok (.iastore, 1) := by decide +kernel
theorem dX7_readLine_90 : decode cX7_readLine 90 = .ok (.iload 6, 2) := by decide +kernel
theorem dX7_readLine_92 : decode cX7_readLine 92 = .ok (.istore 4, 2) := by decide +kernel
theorem dX7_readLine_94 : decode cX7_readLine 94 = .ok (.iinc 5 1, 3) := by decide +kernel
theorem dX7_readLine_97 : decode cX7_readLine 97 = .ok (.goto (-63), 3) := by decide +kernel
theorem dX7_readLine_100 : decode cX7_readLine 100 = .ok (.iconst 1, 1) := by decide +kernel
theorem dX7_readLine_101 : decode cX7_readLine 101 = .ok (.ireturn, 1) := by decide +kernel
theorem dX7_takeToken_0 : decode cX7_takeToken 0 = .ok (.aload_n 0, 1) := by decide +kernel
theorem dX7_takeToken_1 : decode cX7_takeToken 1 = .ok (.aload_n 0, 1) := by decide +kernel
theorem dX7_takeToken_2 : decode cX7_takeToken 2 = .ok (.getfield 22, 3) := by decide +kernel
theorem dX7_takeToken_5 : decode cX7_takeToken 5 = .ok (.putfield 32, 3) := by decide +kernel
theorem dX7_takeToken_8 : decode cX7_takeToken 8 = .ok (.aload_n 0, 1) := by decide +kernel
theorem dX7_takeToken_9 : decode cX7_takeToken 9 = .ok (.getfield 32, 3) := by decide +kernel
theorem dX7_takeToken_12 : decode cX7_takeToken 12 = .ok (.aload_n 0, 1) := by decide +kernel
theorem dX7_takeToken_13 : decode cX7_takeToken 13 = .ok (.getfield 18, 3) := by decide +kernel
theorem dX7_takeToken_16 : decode cX7_takeToken 16 = .ok (.if_icmp .ge 30, 3) := by decide +kernel
theorem dX7_takeToken_19 : decode cX7_takeToken 19 = .ok (.aload_n 0, 1) := by decide +kernel
theorem dX7_takeToken_20 : decode cX7_takeToken 20 = .ok (.getfield 9, 3) := by decide +kernel
theorem dX7_takeToken_23 : decode cX7_takeToken 23 = .ok (.aload_n 0, 1) := by decide +kernel
theorem dX7_takeToken_24 : decode cX7_takeToken 24 = .ok (.getfield 32, 3) := by decide +kernel
theorem dX7_takeToken_27 : decode cX7_takeToken 27 = .ok (.iaload, 1) := by decide +kernel
theorem dX7_takeToken_28 : decode cX7_takeToken 28 = .ok (.bipush 32, 2) := by decide +kernel
theorem dX7_takeToken_30 : decode cX7_takeToken 30 = .ok (.if_icmp .ne 16, 3) := by decide +kernel
theorem dX7_takeToken_33 : decode cX7_takeToken 33 = .ok (.aload_n 0, 1) := by decide +kernel
theorem dX7_takeToken_34 : decode cX7_takeToken 34 = .ok (.dup, 1) := by decide +kernel
theorem dX7_takeToken_35 : decode cX7_takeToken 35 = .ok (.getfield 32, 3) := by decide +kernel
theorem dX7_takeToken_38 : decode cX7_takeToken 38 = .ok (.iconst 1, 1) := by decide +kernel
theorem dX7_takeToken_39 : decode cX7_takeToken 39 = .ok (.iadd, 1) := by decide +kernel
theorem dX7_takeToken_40 : decode cX7_takeToken 40 = .ok (.putfield 32, 3) := by decide +kernel
theorem dX7_takeToken_43 : decode cX7_takeToken 43 = .ok (.goto (-35), 3) := by decide +kernel
theorem dX7_takeToken_46 : decode cX7_takeToken 46 = .ok (.aload_n 0, 1) := by decide +kernel
theorem dX7_takeToken_47 : decode cX7_takeToken 47 = .ok (.aload_n 0, 1) := by decide +kernel
theorem dX7_takeToken_48 : decode cX7_takeToken 48 = .ok (.getfield 32, 3) := by decide +kernel
theorem dX7_takeToken_51 : decode cX7_takeToken 51 = .ok (.iconst 1, 1) := by decide +kernel
theorem dX7_takeToken_52 : decode cX7_takeToken 52 = .ok (.iadd, 1) := by decide +kernel
theorem dX7_takeToken_53 : decode cX7_takeToken 53 = .ok (.aload_n 0, 1) := by decide +kernel
theorem dX7_takeToken_54 : decode cX7_takeToken 54 = .ok (.getfield 18, 3) := by decide +kernel
theorem dX7_takeToken_57 : decode cX7_takeToken 57 = .ok (.invokestatic 61, 3) := by decide +kernel
theorem dX7_takeToken_60 : decode cX7_takeToken 60 = .ok (.putfield 22, 3) := by decide +kernel
theorem dX7_takeToken_63 : decode cX7_takeToken 63 = .ok (.aload_n 0, 1) := by decide +kernel
theorem dX7_takeToken_64 : decode cX7_takeToken 64 = .ok (.getfield 22, 3) := by decide +kernel
theorem dX7_takeToken_67 : decode cX7_takeToken 67 = .ok (.aload_n 0, 1) := by decide +kernel
theorem dX7_takeToken_68 : decode cX7_takeToken 68 = .ok (.getfield 18, 3) := by decide +kernel
theorem dX7_takeToken_71 : decode cX7_takeToken 71 = .ok (.if_icmp .ge 40, 3) := by decide +kernel
theorem dX7_takeToken_74 : decode cX7_takeToken 74 = .ok (.aload_n 0, 1) := by decide +kernel
theorem dX7_takeToken_75 : decode cX7_takeToken 75 = .ok (.getfield 9, 3) := by decide +kernel
theorem dX7_takeToken_78 : decode cX7_takeToken 78 = .ok (.aload_n 0, 1) := by decide +kernel
theorem dX7_takeToken_79 : decode cX7_takeToken 79 = .ok (.getfield 32, 3) := by decide +kernel
theorem dX7_takeToken_82 : decode cX7_takeToken 82 = .ok (.iaload, 1) := by decide +kernel
theorem dX7_takeToken_83 : decode cX7_takeToken 83 = .ok (.aload_n 0, 1) := by decide +kernel
theorem dX7_takeToken_84 : decode cX7_takeToken 84 = .ok (.getfield 9, 3) := by decide +kernel
theorem dX7_takeToken_87 : decode cX7_takeToken 87 = .ok (.aload_n 0, 1) := by decide +kernel
theorem dX7_takeToken_88 : decode cX7_takeToken 88 = .ok (.getfield 22, 3) := by decide +kernel
theorem dX7_takeToken_91 : decode cX7_takeToken 91 = .ok (.iaload, 1) := by decide +kernel
theorem dX7_takeToken_92 : decode cX7_takeToken 92 = .ok (.invokestatic 67, 3) := by decide +kernel
theorem dX7_takeToken_95 : decode cX7_takeToken 95 = .ok (.ifCond .eq 16, 3) := by decide +kernel
theorem dX7_takeToken_98 : decode cX7_takeToken 98 = .ok (.aload_n 0, 1) := by decide +kernel
theorem dX7_takeToken_99 : decode cX7_takeToken 99 = .ok (.dup, 1) := by decide +kernel
theorem dX7_takeToken_100 : decode cX7_takeToken 100 = .ok (.getfield 22, 3) := by decide +kernel
theorem dX7_takeToken_103 : decode cX7_takeToken 103 = .ok (.iconst 1, 1) := by decide +kernel
theorem dX7_takeToken_104 : decode cX7_takeToken 104 = .ok (.iadd, 1) := by decide +kernel
theorem dX7_takeToken_105 : decode cX7_takeToken 105 = .ok (.putfield 22, 3) := by decide +kernel
theorem dX7_takeToken_108 : decode cX7_takeToken 108 = .ok (.goto (-45), 3) := by decide +kernel
theorem dX7_takeToken_111 : decode cX7_takeToken 111 = .ok (.return_, 1) := by decide +kernel
theorem dX7_areOfOneToken_0 : decode cX7_areOfOneToken 0 = .ok (.iload_n 0, 1) := by decide +kernel
theorem dX7_areOfOneToken_1 : decode cX7_areOfOneToken 1 = .ok (.invokestatic 71, 3) := by decide +kernel
theorem dX7_areOfOneToken_4 : decode cX7_areOfOneToken 4 = .ok (.ifCond .eq 10, 3) := by decide +kernel
theorem dX7_areOfOneToken_7 : decode cX7_areOfOneToken 7 = .ok (.iload_n 1, 1) := by decide +kernel
theorem dX7_areOfOneToken_8 : decode cX7_areOfOneToken 8 = .ok (.invokestatic 71, 3) := by decide +kernel
theorem dX7_areOfOneToken_11 : decode cX7_areOfOneToken 11 = .ok (.ifCond .ne 17, 3) := by decide +kernel
theorem dX7_areOfOneToken_14 : decode cX7_areOfOneToken 14 = .ok (.iload_n 0, 1) := by decide +kernel
theorem dX7_areOfOneToken_15 : decode cX7_areOfOneToken 15 = .ok (.invokestatic 74, 3) := by decide +kernel
theorem dX7_areOfOneToken_18 : decode cX7_areOfOneToken 18 = .ok (.ifCond .eq 14, 3) := by decide +kernel
theorem dX7_areOfOneToken_21 : decode cX7_areOfOneToken 21 = .ok (.iload_n 1, 1) := by decide +kernel
theorem dX7_areOfOneToken_22 : decode cX7_areOfOneToken 22 = .ok (.invokestatic 74, 3) := by decide +kernel
theorem dX7_areOfOneToken_25 : decode cX7_areOfOneToken 25 = .ok (.ifCond .eq 7, 3) := by decide +kernel
theorem dX7_areOfOneToken_28 : decode cX7_areOfOneToken 28 = .ok (.iconst 1, 1) := by decide +kernel
theorem dX7_areOfOneToken_29 : decode cX7_areOfOneToken 29 = .ok (.goto 4, 3) := by decide +kernel
theorem dX7_areOfOneToken_32 : decode cX7_areOfOneToken 32 = .ok (.iconst 0, 1) := by decide +kernel
theorem dX7_areOfOneToken_33 : decode cX7_areOfOneToken 33 = .ok (.ireturn, 1) := by decide +kernel
theorem dX7_isLetter_0 : decode cX7_isLetter 0 = .ok (.iload_n 0, 1) := by decide +kernel
theorem dX7_isLetter_1 : decode cX7_isLetter 1 = .ok (.bipush 97, 2) := by decide +kernel
theorem dX7_isLetter_3 : decode cX7_isLetter 3 = .ok (.bipush 122, 2) := by decide +kernel
theorem dX7_isLetter_5 : decode cX7_isLetter 5 = .ok (.invokestatic 77, 3) := by decide +kernel
theorem dX7_isLetter_8 : decode cX7_isLetter 8 = .ok (.ireturn, 1) := by decide +kernel
theorem dX7_isDigit_0 : decode cX7_isDigit 0 = .ok (.iload_n 0, 1) := by decide +kernel
theorem dX7_isDigit_1 : decode cX7_isDigit 1 = .ok (.bipush 48, 2) := by decide +kernel
theorem dX7_isDigit_3 : decode cX7_isDigit 3 = .ok (.bipush 57, 2) := by decide +kernel
theorem dX7_isDigit_5 : decode cX7_isDigit 5 = .ok (.invokestatic 77, 3) := by decide +kernel
theorem dX7_isDigit_8 : decode cX7_isDigit 8 = .ok (.ireturn, 1) := by decide +kernel
theorem dX7_numberOfToken_0 : decode cX7_numberOfToken 0 = .ok (.aload_n 0, 1) := by decide +kernel
theorem dX7_numberOfToken_1 : decode cX7_numberOfToken 1 = .ok (.getfield 32, 3) := by decide +kernel
theorem dX7_numberOfToken_4 : decode cX7_numberOfToken 4 = .ok (.aload_n 0, 1) := by decide +kernel
theorem dX7_numberOfToken_5 : decode cX7_numberOfToken 5 = .ok (.getfield 18, 3) := by decide +kernel
theorem dX7_numberOfToken_8 : decode cX7_numberOfToken 8 = .ok (.if_icmp .ge 31, 3) := by decide +kernel
theorem dX7_numberOfToken_11 : decode cX7_numberOfToken 11 = .ok (.aload_n 0, 1) := by decide +kernel
theorem dX7_numberOfToken_12 : decode cX7_numberOfToken 12 = .ok (.getfield 9, 3) := by decide +kernel
theorem dX7_numberOfToken_15 : decode cX7_numberOfToken 15 = .ok (.aload_n 0, 1) := by decide +kernel
theorem dX7_numberOfToken_16 : decode cX7_numberOfToken 16 = .ok (.getfield 32, 3) := by decide +kernel
theorem dX7_numberOfToken_19 : decode cX7_numberOfToken 19 = .ok (.iaload, 1) := by decide +kernel
theorem dX7_numberOfToken_20 : decode cX7_numberOfToken 20 = .ok (.invokestatic 74, 3) := by decide +kernel
theorem dX7_numberOfToken_23 : decode cX7_numberOfToken 23 = .ok (.ifCond .eq 16, 3) := by decide +kernel
theorem dX7_numberOfToken_26 : decode cX7_numberOfToken 26 = .ok (.aload_n 0, 1) := by decide +kernel
theorem dX7_numberOfToken_27 : decode cX7_numberOfToken 27 = .ok (.getfield 22, 3) := by decide +kernel
theorem dX7_numberOfToken_30 : decode cX7_numberOfToken 30 = .ok (.aload_n 0, 1) := by decide +kernel
theorem dX7_numberOfToken_31 : decode cX7_numberOfToken 31 = .ok (.getfield 32, 3) := by decide +kernel
theorem dX7_numberOfToken_34 : decode cX7_numberOfToken 34 = .ok (.isub, 1) := by decide +kernel
theorem dX7_numberOfToken_35 : decode cX7_numberOfToken 35 = .ok (.iconst 4, 1) := by decide +kernel
theorem dX7_numberOfToken_36 : decode cX7_numberOfToken 36 = .ok (.if_icmp .le 5, 3) := by decide +kernel
theorem dX7_numberOfToken_39 : decode cX7_numberOfToken 39 = .ok (.iconst (-1), 1) := by decide +kernel
theorem dX7_numberOfToken_40 : decode cX7_numberOfToken 40 = .ok (.ireturn, 1) := by decide +kernel
theorem dX7_numberOfToken_41 : decode cX7_numberOfToken 41 = .ok (.iconst 0, 1) := by decide +kernel
theorem dX7_numberOfToken_42 : decode cX7_numberOfToken 42 = .ok (.istore_n 1, 1) := by decide +kernel
theorem dX7_numberOfToken_43 : decode cX7_numberOfToken 43 = .ok (.aload_n 0, 1) := by decide +kernel
theorem dX7_numberOfToken_44 : decode cX7_numberOfToken 44 = .ok (.getfield 32, 3) := by decide +kernel
theorem dX7_numberOfToken_47 : decode cX7_numberOfToken 47 = .ok (.istore_n 2, 1) := by decide +kernel
theorem dX7_numberOfToken_48 : decode cX7_numberOfToken 48 = .ok (.iload_n 2, 1) := by decide +kernel
theorem dX7_numberOfToken_49 : decode cX7_numberOfToken 49 = .ok (.aload_n 0, 1) := by decide +kernel
theorem dX7_numberOfToken_50 : decode cX7_numberOfToken 50 = .ok (.getfield 22, 3) := by decide +kernel
theorem dX7_numberOfToken_53 : decode cX7_numberOfToken 53 = .ok (.if_icmp .ge 24, 3) := by decide +kernel
theorem dX7_numberOfToken_56 : decode cX7_numberOfToken 56 = .ok (.bipush 10, 2) := by decide +kernel
theorem dX7_numberOfToken_58 : decode cX7_numberOfToken 58 = .ok (.iload_n 1, 1) := by decide +kernel
theorem dX7_numberOfToken_59 : decode cX7_numberOfToken 59 = .ok (.imul, 1) := by decide +kernel
theorem dX7_numberOfToken_60 : decode cX7_numberOfToken 60 = .ok (.aload_n 0, 1) := by decide +kernel
theorem dX7_numberOfToken_61 : decode cX7_numberOfToken 61 = .ok (.getfield 9, 3) := by decide +kernel
theorem dX7_numberOfToken_64 : decode cX7_numberOfToken 64 = .ok (.iload_n 2, 1) := by decide +kernel
theorem dX7_numberOfToken_65 : decode cX7_numberOfToken 65 = .ok (.iaload, 1) := by decide +kernel
theorem dX7_numberOfToken_66 : decode cX7_numberOfToken 66 = .ok (.iadd, 1) := by decide +kernel
theorem dX7_numberOfToken_67 : decode cX7_numberOfToken 67 = .ok (.bipush 48, 2) := by decide +kernel
theorem dX7_numberOfToken_69 : decode cX7_numberOfToken 69 = .ok (.isub, 1) := by decide +kernel
theorem dX7_numberOfToken_70 : decode cX7_numberOfToken 70 = .ok (.istore_n 1, 1) := by decide +kernel
theorem dX7_numberOfToken_71 : decode cX7_numberOfToken 71 = .ok (.iinc 2 1, 3) := by decide +kernel
theorem dX7_numberOfToken_74 : decode cX7_numberOfToken 74 = .ok (.goto (-26), 3) := by decide +kernel
theorem dX7_numberOfToken_77 : decode cX7_numberOfToken 77 = .ok (.iload_n 1, 1) := by decide +kernel
theorem dX7_numberOfToken_78 : decode cX7_numberOfToken 78 = .ok (.ireturn, 1) := by decide +kernel
theorem dX7_kindOfToken_0 : decode cX7_kindOfToken 0 = .ok (.iconst 0, 1) := by decide +kernel
theorem dX7_kindOfToken_1 : decode cX7_kindOfToken 1 = .ok (.istore_n 1, 1) := by decide +kernel
theorem dX7_kindOfToken_2 : decode cX7_kindOfToken 2 = .ok (.iload_n 1, 1) := by decide +kernel
theorem dX7_kindOfToken_3 : decode cX7_kindOfToken 3 = .ok (.bipush 6, 2) := by decide +kernel
theorem dX7_kindOfToken_5 : decode cX7_kindOfToken 5 = .ok (.if_icmp .ge 22, 3) := by decide +kernel
theorem dX7_kindOfToken_8 : decode cX7_kindOfToken 8 = .ok (.aload_n 0, 1) := by decide +kernel
theorem dX7_kindOfToken_9 : decode cX7_kindOfToken 9 = .ok (.iload_n 1, 1) := by decide +kernel
theorem dX7_kindOfToken_10 : decode cX7_kindOfToken 10 = .ok (.invokestatic 80, 3) := by decide +kernel
theorem dX7_kindOfToken_13 : decode cX7_kindOfToken 13 = .ok (.invokevirtual 83, 3) := by decide +kernel
theorem dX7_kindOfToken_16 : decode cX7_kindOfToken 16 = .ok (.ifCond .eq 5, 3) := by decide +kernel
theorem dX7_kindOfToken_19 : decode cX7_kindOfToken 19 = .ok (.iload_n 1, 1) := by decide +kernel
theorem dX7_kindOfToken_20 : decode cX7_kindOfToken 20 = .ok (.ireturn, 1) := by decide +kernel
theorem dX7_kindOfToken_21 : decode cX7_kindOfToken 21 = .ok (.iinc 1 1, 3) := by decide +kernel
theorem dX7_kindOfToken_24 : decode cX7_kindOfToken 24 = .ok (.goto (-22), 3) := by decide +kernel
theorem dX7_kindOfToken_27 : decode cX7_kindOfToken 27 = .ok (.iconst (-1), 1) := by decide +kernel
theorem dX7_kindOfToken_28 : decode cX7_kindOfToken 28 = .ok (.ireturn, 1) := by decide +kernel
theorem dX7_tokenIs_0 : decode cX7_tokenIs 0 = .ok (.aload_n 0, 1) := by decide +kernel
theorem dX7_tokenIs_1 : decode cX7_tokenIs 1 = .ok (.getfield 22, 3) := by decide +kernel
theorem dX7_tokenIs_4 : decode cX7_tokenIs 4 = .ok (.aload_n 0, 1) := by decide +kernel
theorem dX7_tokenIs_5 : decode cX7_tokenIs 5 = .ok (.getfield 32, 3) := by decide +kernel
theorem dX7_tokenIs_8 : decode cX7_tokenIs 8 = .ok (.isub, 1) := by decide +kernel
theorem dX7_tokenIs_9 : decode cX7_tokenIs 9 = .ok (.aload_n 1, 1) := by decide +kernel
theorem dX7_tokenIs_10 : decode cX7_tokenIs 10 = .ok (.invokevirtual 46, 3) := by decide +kernel
theorem dX7_tokenIs_13 : decode cX7_tokenIs 13 = .ok (.if_icmp .ne 7, 3) := by decide +kernel
theorem dX7_tokenIs_16 : decode cX7_tokenIs 16 = .ok (.iconst 1, 1) := by decide +kernel
theorem dX7_tokenIs_17 : decode cX7_tokenIs 17 = .ok (.goto 4, 3) := by decide +kernel
theorem dX7_tokenIs_20 : decode cX7_tokenIs 20 = .ok (.iconst 0, 1) := by decide +kernel
theorem dX7_tokenIs_21 : decode cX7_tokenIs 21 = .ok (.istore_n 2, 1) := by decide +kernel
theorem dX7_tokenIs_22 : decode cX7_tokenIs 22 = .ok (.iconst 0, 1) := by decide +kernel
theorem dX7_tokenIs_23 : decode cX7_tokenIs 23 = .ok (.istore_n 3, 1) := by decide +kernel
theorem dX7_tokenIs_24 : decode cX7_tokenIs 24 = .ok (.iload_n 2, 1) := by decide +kernel
theorem dX7_tokenIs_25 : decode cX7_tokenIs 25 = .ok (.ifCond .eq 42, 3) := by decide +kernel
theorem dX7_tokenIs_28 : decode cX7_tokenIs 28 = .ok (.iload_n 3, 1) := by decide +kernel
theorem dX7_tokenIs_29 : decode cX7_tokenIs 29 = .ok (.aload_n 1, 1) := by decide +kernel
theorem dX7_tokenIs_30 : decode cX7_tokenIs 30 = .ok (.invokevirtual 46, 3) := by decide +kernel
theorem dX7_tokenIs_33 : decode cX7_tokenIs 33 = .ok (.if_icmp .ge 34, 3) := by decide +kernel
theorem dX7_tokenIs_36 : decode cX7_tokenIs 36 = .ok (.aload_n 0, 1) := by decide +kernel
theorem dX7_tokenIs_37 : decode cX7_tokenIs 37 = .ok (.getfield 9, 3) := by decide +kernel
theorem dX7_tokenIs_40 : decode cX7_tokenIs 40 = .ok (.aload_n 0, 1) := by decide +kernel
theorem dX7_tokenIs_41 : decode cX7_tokenIs 41 = .ok (.getfield 32, 3) := by decide +kernel
theorem dX7_tokenIs_44 : decode cX7_tokenIs 44 = .ok (.iload_n 3, 1) := by decide +kernel
theorem dX7_tokenIs_45 : decode cX7_tokenIs 45 = .ok (.iadd, 1) := by decide +kernel
theorem dX7_tokenIs_46 : decode cX7_tokenIs 46 = .ok (.iaload, 1) := by decide +kernel
theorem dX7_tokenIs_47 : decode cX7_tokenIs 47 = .ok (.aload_n 1, 1) := by decide +kernel
theorem dX7_tokenIs_48 : decode cX7_tokenIs 48 = .ok (.iload_n 3, 1) := by decide +kernel
theorem dX7_tokenIs_49 : decode cX7_tokenIs 49 = .ok (.invokevirtual 53, 3) := by decide +kernel
theorem dX7_tokenIs_52 : decode cX7_tokenIs 52 = .ok (.if_icmp .ne 7, 3) := by decide +kernel
theorem dX7_tokenIs_55 : decode cX7_tokenIs 55 = .ok (.iconst 1, 1) := by decide +kernel
theorem dX7_tokenIs_56 : decode cX7_tokenIs 56 = .ok (.goto 4, 3) := by decide +kernel
theorem dX7_tokenIs_59 : decode cX7_tokenIs 59 = .ok (.iconst 0, 1) := by decide +kernel
theorem dX7_tokenIs_60 : decode cX7_tokenIs 60 = .ok (.istore_n 2, 1) := by decide +kernel
theorem dX7_tokenIs_61 : decode cX7_tokenIs 61 = .ok (.iinc 3 1, 3) := by decide +kernel
theorem dX7_tokenIs_64 : decode cX7_tokenIs 64 = .ok (.goto (-40), 3) := by decide +kernel
theorem dX7_tokenIs_67 : decode cX7_tokenIs 67 = .ok (.iload_n 2, 1) := by decide +kernel
theorem dX7_tokenIs_68 : decode cX7_tokenIs 68 = .ok (.ireturn, 1) := by decide +kernel
theorem dX7_wordOf_0 : decode cX7_wordOf 0 = .ok (.iload_n 0, 1) := by decide +kernel
theorem dX7_wordOf_1 : decode cX7_wordOf 1 = .ok (.tableswitch 50 0 4 #[35, 38, 41, 44, 47], 35) := by decide +kernel
theorem dX7_wordOf_36 : decode cX7_wordOf 36 = .ok (.ldc 87, 2) := by decide +kernel
theorem dX7_wordOf_38 : decode cX7_wordOf 38 = .ok (.areturn, 1) := by decide +kernel
theorem dX7_wordOf_39 : decode cX7_wordOf 39 = .ok (.ldc 89, 2) := by decide +kernel
theorem dX7_wordOf_41 : decode cX7_wordOf 41 = .ok (.areturn, 1) := by decide +kernel
theorem dX7_wordOf_42 : decode cX7_wordOf 42 = .ok (.ldc 91, 2) := by decide +kernel
theorem dX7_wordOf_44 : decode cX7_wordOf 44 = .ok (.areturn, 1) := by decide +kernel
theorem dX7_wordOf_45 : decode cX7_wordOf 45 = .ok (.ldc 93, 2) := by decide +kernel
theorem dX7_wordOf_47 : decode cX7_wordOf 47 = .ok (.areturn, 1) := by decide +kernel
theorem dX7_wordOf_48 : decode cX7_wordOf 48 = .ok (.ldc 95, 2) := by decide +kernel
theorem dX7_wordOf_50 : decode cX7_wordOf 50 = .ok (.areturn, 1) := by decide +kernel
theorem dX7_wordOf_51 : decode cX7_wordOf 51 = .ok (.ldc 97, 2) := by decide +kernel
theorem dX7_wordOf_53 : decode cX7_wordOf 53 = .ok (.areturn, 1) := by decide +kernel
theorem dX7_formOf_0 : decode cX7_formOf 0 = .ok (.iload_n 0, 1) := by decide +kernel
theorem dX7_formOf_1 : decode cX7_formOf 1 = .ok (.tableswitch 40 0 3 #[31, 34, 37, 37], 31) := by decide +kernel
theorem dX7_formOf_32 : decode cX7_formOf 32 = .ok (.ldc 99, 2) := by decide +kernel
theorem dX7_formOf_34 : decode cX7_formOf 34 = .ok (.areturn, 1) := by decide +kernel
theorem dX7_formOf_35 : decode cX7_formOf 35 = .ok (.ldc 101, 2) := by decide +kernel
theorem dX7_formOf_37 : decode cX7_formOf 37 = .ok (.areturn, 1) := by decide +kernel
theorem dX7_formOf_38 : decode cX7_formOf 38 = .ok (.ldc 103, 2) := by decide +kernel
theorem dX7_formOf_40 : decode cX7_formOf 40 = .ok (.areturn, 1) := by decide +kernel
theorem dX7_formOf_41 : decode cX7_formOf 41 = .ok (.ldc 105, 2) := by decide +kernel
theorem dX7_formOf_43 : decode cX7_formOf 43 = .ok (.areturn, 1) := by decide +kernel
theorem dX7_canStand_0 : decode cX7_canStand 0 = .ok (.iload_n 0, 1) := by decide +kernel
theorem dX7_canStand_1 : decode cX7_canStand 1 = .ok (.tableswitch 177 70 90 #[153, 177, 177, 177, 177, 177, 177, 177, 177, 177, 99, 104, 177, 165, 177, 177, 177, 144, 177, 122, 135], 99) := by decide +kernel
theorem dX7_canStand_100 : decode cX7_canStand 100 = .ok (.iload_n 1, 1) := by decide +kernel
theorem dX7_canStand_101 : decode cX7_canStand 101 = .ok (.invokestatic 107, 3) := by decide +kernel
theorem dX7_canStand_104 : decode cX7_canStand 104 = .ok (.ireturn, 1) := by decide +kernel
theorem dX7_canStand_105 : decode cX7_canStand 105 = .ok (.iload_n 1, 1) := by decide +kernel
theorem dX7_canStand_106 : decode cX7_canStand 106 = .ok (.invokestatic 107, 3) := by decide +kernel
theorem dX7_canStand_109 : decode cX7_canStand 109 = .ok (.ifCond .eq 12, 3) := by decide +kernel
theorem dX7_canStand_112 : decode cX7_canStand 112 = .ok (.iload_n 1, 1) := by decide +kernel
theorem dX7_canStand_113 : decode cX7_canStand 113 = .ok (.iload_n 2, 1) := by decide +kernel
theorem dX7_canStand_114 : decode cX7_canStand 114 = .ok (.if_icmp .eq 7, 3) := by decide +kernel
theorem dX7_canStand_117 : decode cX7_canStand 117 = .ok (.iconst 1, 1) := by decide +kernel
theorem dX7_canStand_118 : decode cX7_canStand 118 = .ok (.goto 4, 3) := by decide +kernel
theorem dX7_canStand_121 : decode cX7_canStand 121 = .ok (.iconst 0, 1) := by decide +kernel
theorem dX7_canStand_122 : decode cX7_canStand 122 = .ok (.ireturn, 1) := by decide +kernel
theorem dX7_canStand_123 : decode cX7_canStand 123 = .ok (.iload_n 1, 1) := by decide +kernel
theorem dX7_canStand_124 : decode cX7_canStand 124 = .ok (.sipush 9999, 3) := by decide +kernel
theorem dX7_canStand_127 : decode cX7_canStand 127 = .ok (.if_icmp .gt 7, 3) := by decide +kernel
theorem dX7_canStand_130 : decode cX7_canStand 130 = .ok (.iconst 1, 1) := by decide +kernel
theorem dX7_canStand_131 : decode cX7_canStand 131 = .ok (.goto 4, 3) := by decide +kernel
theorem dX7_canStand_134 : decode cX7_canStand 134 = .ok (.iconst 0, 1) := by decide +kernel
theorem dX7_canStand_135 : decode cX7_canStand 135 = .ok (.ireturn, 1) := by decide +kernel
theorem dX7_canStand_136 : decode cX7_canStand 136 = .ok (.iload_n 1, 1) := by decide +kernel
theorem dX7_canStand_137 : decode cX7_canStand 137 = .ok (.iload_n 2, 1) := by decide +kernel
theorem dX7_canStand_138 : decode cX7_canStand 138 = .ok (.sipush 9999, 3) := by decide +kernel
theorem dX7_canStand_141 : decode cX7_canStand 141 = .ok (.invokestatic 77, 3) := by decide +kernel
theorem dX7_canStand_144 : decode cX7_canStand 144 = .ok (.ireturn, 1) := by decide +kernel
theorem dX7_canStand_145 : decode cX7_canStand 145 = .ok (.iload_n 1, 1) := by decide +kernel
theorem dX7_canStand_146 : decode cX7_canStand 146 = .ok (.iconst 1, 1) := by decide +kernel
theorem dX7_canStand_147 : decode cX7_canStand 147 = .ok (.sipush 999, 3) := by decide +kernel
theorem dX7_canStand_150 : decode cX7_canStand 150 = .ok (.invokestatic 77, 3) := by decide +kernel
theorem dX7_canStand_153 : decode cX7_canStand 153 = .ok (.ireturn, 1) := by decide +kernel
theorem dX7_canStand_154 : decode cX7_canStand 154 = .ok (.iload_n 1, 1) := by decide +kernel
theorem dX7_canStand_155 : decode cX7_canStand 155 = .ok (.bipush 9, 2) := by decide +kernel
theorem dX7_canStand_157 : decode cX7_canStand 157 = .ok (.if_icmp .ge 7, 3) := by decide +kernel
theorem dX7_canStand_160 : decode cX7_canStand 160 = .ok (.iconst 1, 1) := by decide +kernel
theorem dX7_canStand_161 : decode cX7_canStand 161 = .ok (.goto 4, 3) := by decide +kernel
theorem dX7_canStand_164 : decode cX7_canStand 164 = .ok (.iconst 0, 1) := by decide +kernel
theorem dX7_canStand_165 : decode cX7_canStand 165 = .ok (.ireturn, 1) := by decide +kernel
theorem dX7_canStand_166 : decode cX7_canStand 166 = .ok (.iload_n 1, 1) := by decide +kernel
theorem dX7_canStand_167 : decode cX7_canStand 167 = .ok (.bipush 99, 2) := by decide +kernel
theorem dX7_canStand_169 : decode cX7_canStand 169 = .ok (.if_icmp .gt 7, 3) := by decide +kernel
theorem dX7_canStand_172 : decode cX7_canStand 172 = .ok (.iconst 1, 1) := by decide +kernel
theorem dX7_canStand_173 : decode cX7_canStand 173 = .ok (.goto 4, 3) := by decide +kernel
theorem dX7_canStand_176 : decode cX7_canStand 176 = .ok (.iconst 0, 1) := by decide +kernel
theorem dX7_canStand_177 : decode cX7_canStand 177 = .ok (.ireturn, 1) := by decide +kernel
theorem dX7_canStand_178 : decode cX7_canStand 178 = .ok (.iload_n 1, 1) := by decide +kernel
theorem dX7_canStand_179 : decode cX7_canStand 179 = .ok (.sipush 999, 3) := by decide +kernel
theorem dX7_canStand_182 : decode cX7_canStand 182 = .ok (.if_icmp .gt 7, 3) := by decide +kernel
theorem dX7_canStand_185 : decode cX7_canStand 185 = .ok (.iconst 1, 1) := by decide +kernel
theorem dX7_canStand_186 : decode cX7_canStand 186 = .ok (.goto 4, 3) := by decide +kernel
theorem dX7_canStand_189 : decode cX7_canStand 189 = .ok (.iconst 0, 1) := by decide +kernel
theorem dX7_canStand_190 : decode cX7_canStand 190 = .ok (.ireturn, 1) := by decide +kernel
theorem dX8_init_0 : decode cX8_init 0 = .ok (.aload_n 0, 1) := by decide +kernel
theorem dX8_init_1 : decode cX8_init 1 = .ok (.invokespecial 3, 3) := by decide +kernel
theorem dX8_init_4 : decode cX8_init 4 = .ok (.aload_n 0, 1) := by decide +kernel
theorem dX8_init_5 : decode cX8_init 5 = .ok (.aload_n 1, 1) := by decide +kernel
theorem dX8_init_6 : decode cX8_init 6 = .ok (.putfield 9, 3) := by decide +kernel
theorem dX8_init_9 : decode cX8_init 9 = .ok (.aload_n 0, 1) := by decide +kernel
theorem dX8_init_10 : decode cX8_init 10 = .ok (.aload_n 2, 1) := by decide +kernel
theorem dX8_init_11 : decode cX8_init 11 = .ok (.putfield 15, 3) := by decide +kernel
theorem dX8_init_14 : decode cX8_init 14 = .ok (.aload_n 0, 1) := by decide +kernel
theorem dX8_init_15 : decode cX8_init 15 = .ok (.aload_n 3, 1) := by decide +kernel
theorem dX8_init_16 : decode cX8_init 16 = .ok (.putfield 19, 3) := by decide +kernel
theorem dX8_init_19 : decode cX8_init 19 = .ok (.aload_n 0, 1) := by decide +kernel
theorem dX8_init_20 : decode cX8_init 20 = .ok (.bipush 72, 2) := by decide +kernel
theorem dX8_init_22 : decode cX8_init 22 = .ok (.newarray .int, 2) := by decide +kernel
theorem dX8_init_24 : decode cX8_init 24 = .ok (.putfield 23, 3) := by decide +kernel
theorem dX8_init_27 : decode cX8_init 27 = .ok (.aload_n 0, 1) := by decide +kernel
theorem dX8_init_28 : decode cX8_init 28 = .ok (.bipush 72, 2) := by decide +kernel
theorem dX8_init_30 : decode cX8_init 30 = .ok (.newarray .int, 2) := by decide +kernel
theorem dX8_init_32 : decode cX8_init 32 = .ok (.putfield 27, 3) := by decide +kernel
theorem dX8_init_35 : decode cX8_init 35 = .ok (.aload_n 0, 1) := by decide +kernel
theorem dX8_init_36 : decode cX8_init 36 = .ok (.bipush 12, 2) := by decide +kernel
theorem dX8_init_38 : decode cX8_init 38 = .ok (.newarray .int, 2) := by decide +kernel
theorem dX8_init_40 : decode cX8_init 40 = .ok (.putfield 30, 3) := by decide +kernel
theorem dX8_init_43 : decode cX8_init 43 = .ok (.return_, 1) := by decide +kernel
theorem dX8_bound_0 : decode cX8_bound 0 = .ok (.aload_n 0, 1) := by decide +kernel
theorem dX8_bound_1 : decode cX8_bound 1 = .ok (.getfield 27, 3) := by decide +kernel
theorem dX8_bound_4 : decode cX8_bound 4 = .ok (.iload_n 1, 1) := by decide +kernel
theorem dX8_bound_5 : decode cX8_bound 5 = .ok (.bipush 12, 2) := by decide +kernel
theorem dX8_bound_7 : decode cX8_bound 7 = .ok (.imul, 1) := by decide +kernel
theorem dX8_bound_8 : decode cX8_bound 8 = .ok (.iload_n 2, 1) := by decide +kernel
theorem dX8_bound_9 : decode cX8_bound 9 = .ok (.iadd, 1) := by decide +kernel
theorem dX8_bound_10 : decode cX8_bound 10 = .ok (.iaload, 1) := by decide +kernel
theorem dX8_bound_11 : decode cX8_bound 11 = .ok (.ireturn, 1) := by decide +kernel
theorem dX8_settle_0 : decode cX8_settle 0 = .ok (.aload_n 0, 1) := by decide +kernel
theorem dX8_settle_1 : decode cX8_settle 1 = .ok (.invokevirtual 33, 3) := by decide +kernel
theorem dX8_settle_4 : decode cX8_settle 4 = .ok (.aload_n 0, 1) := by decide +kernel
theorem dX8_settle_5 : decode cX8_settle 5 = .ok (.iconst (-1), 1) := by decide +kernel
theorem dX8_settle_6 : decode cX8_settle 6 = .ok (.invokevirtual 36, 3) := by decide +kernel
theorem dX8_settle_9 : decode cX8_settle 9 = .ok (.ireturn, 1) := by decide +kernel
theorem dX8_boundByNumbers_0 : decode cX8_boundByNumbers 0 = .ok (.iconst 0, 1) := by decide +kernel
theorem dX8_boundByNumbers_1 : decode cX8_boundByNumbers 1 = .ok (.istore_n 1, 1) := by decide +kernel
theorem dX8_boundByNumbers_2 : decode cX8_boundByNumbers 2 = .ok (.iload_n 1, 1) := by decide +kernel
theorem dX8_boundByNumbers_3 : decode cX8_boundByNumbers 3 = .ok (.aload_n 0, 1) := by decide +kernel
theorem dX8_boundByNumbers_4 : decode cX8_boundByNumbers 4 = .ok (.getfield 15, 3) := by decide +kernel
theorem dX8_boundByNumbers_7 : decode cX8_boundByNumbers 7 = .ok (.getfield 40, 3) := by decide +kernel
theorem dX8_boundByNumbers_10 : decode cX8_boundByNumbers 10 = .ok (.if_icmp .ge 159, 3) := by decide +kernel
theorem dX8_boundByNumbers_13 : decode cX8_boundByNumbers 13 = .ok (.aload_n 0, 1) := by decide +kernel
theorem dX8_boundByNumbers_14 : decode cX8_boundByNumbers 14 = .ok (.getfield 15, 3) := by decide +kernel
theorem dX8_boundByNumbers_17 : decode cX8_boundByNumbers 17 = .ok (.getfield 46, 3) := by decide +kernel
theorem dX8_boundByNumbers_20 : decode cX8_boundByNumbers 20 = .ok (.iload_n 1, 1) := by decide +kernel
theorem dX8_boundByNumbers_21 : decode cX8_boundByNumbers 21 = .ok (.iaload, 1) := by decide +kernel
theorem dX8_boundByNumbers_22 : decode cX8_boundByNumbers 22 = .ok (.istore_n 2, 1) := by decide +kernel
theorem dX8_boundByNumbers_23 : decode cX8_boundByNumbers 23 = .ok (.aload_n 0, 1) := by decide +kernel
theorem dX8_boundByNumbers_24 : decode cX8_boundByNumbers 24 = .ok (.getfield 9, 3) := by decide +kernel
theorem dX8_boundByNumbers_27 : decode cX8_boundByNumbers 27 = .ok (.getfield 49, 3) := by decide +kernel
theorem dX8_boundByNumbers_30 : decode cX8_boundByNumbers 30 = .ok (.iload_n 2, 1) := by decide +kernel
theorem dX8_boundByNumbers_31 : decode cX8_boundByNumbers 31 = .ok (.iaload, 1) := by decide +kernel
theorem dX8_boundByNumbers_32 : decode cX8_boundByNumbers 32 = .ok (.istore_n 3, 1) := by decide +kernel
theorem dX8_boundByNumbers_33 : decode cX8_boundByNumbers 33 = .ok (.aload_n 0, 1) := by decide +kernel
theorem dX8_boundByNumbers_34 : decode cX8_boundByNumbers 34 = .ok (.getfield 15, 3) := by decide +kernel
theorem dX8_boundByNumbers_37 : decode cX8_boundByNumbers 37 = .ok (.getfield 54, 3) := by decide +kernel
theorem dX8_boundByNumbers_40 : decode cX8_boundByNumbers 40 = .ok (.iload_n 1, 1) := by decide +kernel
theorem dX8_boundByNumbers_41 : decode cX8_boundByNumbers 41 = .ok (.iaload, 1) := by decide +kernel
theorem dX8_boundByNumbers_42 : decode cX8_boundByNumbers 42 = .ok (.istore 4, 2) := by decide +kernel
theorem dX8_boundByNumbers_44 : decode cX8_boundByNumbers 44 = .ok (.aload_n 0, 1) := by decide +kernel
theorem dX8_boundByNumbers_45 : decode cX8_boundByNumbers 45 = .ok (.getfield 15, 3) := by decide +kernel
theorem dX8_boundByNumbers_48 : decode cX8_boundByNumbers 48 = .ok (.getfield 57, 3) := by decide +kernel
theorem dX8_boundByNumbers_51 : decode cX8_boundByNumbers 51 = .ok (.iload_n 1, 1) := by decide +kernel
theorem dX8_boundByNumbers_52 : decode cX8_boundByNumbers 52 = .ok (.iaload, 1) := by decide +kernel
theorem dX8_boundByNumbers_53 : decode cX8_boundByNumbers 53 = .ok (.istore 5, 2) := by decide +kernel
theorem dX8_boundByNumbers_55 : decode cX8_boundByNumbers 55 = .ok (.aload_n 0, 1) := by decide +kernel
theorem dX8_boundByNumbers_56 : decode cX8_boundByNumbers 56 = .ok (.getfield 30, 3) := by decide +kernel
theorem dX8_boundByNumbers_59 : decode cX8_boundByNumbers 59 = .ok (.iload_n 1, 1) := by decide +kernel
theorem dX8_boundByNumbers_60 : decode cX8_boundByNumbers 60 = .ok (.aload_n 0, 1) := by decide +kernel
theorem dX8_boundByNumbers_61 : decode cX8_boundByNumbers 61 = .ok (.getfield 19, 3) := by decide +kernel
theorem dX8_boundByNumbers_64 : decode cX8_boundByNumbers 64 = .ok (.iload_n 1, 1) := by decide +kernel
theorem dX8_boundByNumbers_65 : decode cX8_boundByNumbers 65 = .ok (.invokevirtual 60, 3) := by decide +kernel
theorem dX8_boundByNumbers_68 : decode cX8_boundByNumbers 68 = .ok (.iastore, 1) := by decide +kernel
theorem dX8_boundByNumbers_69 : decode cX8_boundByNumbers 69 = .ok (.aload_n 0, 1) := by decide +kernel
theorem dX8_boundByNumbers_70 : decode cX8_boundByNumbers 70 = .ok (.iconst 0, 1) := by decide +kernel
theorem dX8_boundByNumbers_71 : decode cX8_boundByNumbers 71 = .ok (.iload_n 1, 1) := by decide +kernel
theorem dX8_boundByNumbers_72 : decode cX8_boundByNumbers 72 = .ok (.aload_n 0, 1) := by decide +kernel
theorem dX8_boundByNumbers_73 : decode cX8_boundByNumbers 73 = .ok (.getfield 19, 3) := by decide +kernel
theorem dX8_boundByNumbers_76 : decode cX8_boundByNumbers 76 = .ok (.aload_n 0, 1) := by decide +kernel
theorem dX8_boundByNumbers_77 : decode cX8_boundByNumbers 77 = .ok (.getfield 30, 3) := by decide +kernel
theorem dX8_boundByNumbers_80 : decode cX8_boundByNumbers 80 = .ok (.iload_n 1, 1) := by decide +kernel
theorem dX8_boundByNumbers_81 : decode cX8_boundByNumbers 81 = .ok (.iaload, 1) := by decide +kernel
theorem dX8_boundByNumbers_82 : decode cX8_boundByNumbers 82 = .ok (.invokevirtual 66, 3) := by decide +kernel
theorem dX8_boundByNumbers_85 : decode cX8_boundByNumbers 85 = .ok (.iload 4, 2) := by decide +kernel
theorem dX8_boundByNumbers_87 : decode cX8_boundByNumbers 87 = .ok (.iload_n 3, 1) := by decide +kernel
theorem dX8_boundByNumbers_88 : decode cX8_boundByNumbers 88 = .ok (.invokestatic 69, 3) := by decide +kernel
theorem dX8_boundByNumbers_91 : decode cX8_boundByNumbers 91 = .ok (.invokestatic 73, 3) := by decide +kernel
theorem dX8_boundByNumbers_94 : decode cX8_boundByNumbers 94 = .ok (.invokevirtual 78, 3) := by decide +kernel
theorem dX8_boundByNumbers_97 : decode cX8_boundByNumbers 97 = .ok (.aload_n 0, 1) := by decide +kernel
theorem dX8_boundByNumbers_98 : decode cX8_boundByNumbers 98 = .ok (.iconst 1, 1) := by decide +kernel
theorem dX8_boundByNumbers_99 : decode cX8_boundByNumbers 99 = .ok (.iload_n 1, 1) := by decide +kernel
theorem dX8_boundByNumbers_100 : decode cX8_boundByNumbers 100 = .ok (.iload 4, 2) := by decide +kernel
theorem dX8_boundByNumbers_102 : decode cX8_boundByNumbers 102 = .ok (.iload_n 3, 1) := by decide +kernel
theorem dX8_boundByNumbers_103 : decode cX8_boundByNumbers 103 = .ok (.invokestatic 82, 3) := by decide +kernel
theorem dX8_boundByNumbers_106 : decode cX8_boundByNumbers 106 = .ok (.invokevirtual 78, 3) := by decide +kernel
theorem dX8_boundByNumbers_109 : decode cX8_boundByNumbers 109 = .ok (.aload_n 0, 1) := by decide +kernel
theorem dX8_boundByNumbers_110 : decode cX8_boundByNumbers 110 = .ok (.iconst 2, 1) := by decide +kernel
theorem dX8_boundByNumbers_111 : decode cX8_boundByNumbers 111 = .ok (.iload_n 1, 1) := by decide +kernel
theorem dX8_boundByNumbers_112 : decode cX8_boundByNumbers 112 = .ok (.iload 5, 2) := by decide +kernel
theorem dX8_boundByNumbers_114 : decode cX8_boundByNumbers 114 = .ok (.iload_n 3, 1) := by decide +kernel
theorem dX8_boundByNumbers_115 : decode cX8_boundByNumbers 115 = .ok (.invokestatic 69, 3) := by decide +kernel
theorem dX8_boundByNumbers_118 : decode cX8_boundByNumbers 118 = .ok (.invokevirtual 78, 3) := by decide +kernel
theorem dX8_boundByNumbers_121 : decode cX8_boundByNumbers 121 = .ok (.aload_n 0, 1) := by decide +kernel
theorem dX8_boundByNumbers_122 : decode cX8_boundByNumbers 122 = .ok (.iconst 3, 1) := by decide +kernel
theorem dX8_boundByNumbers_123 : decode cX8_boundByNumbers 123 = .ok (.iload_n 1, 1) := by decide +kernel
theorem dX8_boundByNumbers_124 : decode cX8_boundByNumbers 124 = .ok (.iload 5, 2) := by decide +kernel
theorem dX8_boundByNumbers_126 : decode cX8_boundByNumbers 126 = .ok (.iload_n 3, 1) := by decide +kernel
theorem dX8_boundByNumbers_127 : decode cX8_boundByNumbers 127 = .ok (.invokestatic 82, 3) := by decide +kernel
theorem dX8_boundByNumbers_130 : decode cX8_boundByNumbers 130 = .ok (.invokevirtual 78, 3) := by decide +kernel
theorem dX8_boundByNumbers_133 : decode cX8_boundByNumbers 133 = .ok (.aload_n 0, 1) := by decide +kernel
theorem dX8_boundByNumbers_134 : decode cX8_boundByNumbers 134 = .ok (.iconst 4, 1) := by decide +kernel
theorem dX8_boundByNumbers_135 : decode cX8_boundByNumbers 135 = .ok (.iload_n 1, 1) := by decide +kernel
theorem dX8_boundByNumbers_136 : decode cX8_boundByNumbers 136 = .ok (.aload_n 0, 1) := by decide +kernel
theorem dX8_boundByNumbers_137 : decode cX8_boundByNumbers 137 = .ok (.getfield 9, 3) := by decide +kernel
theorem dX8_boundByNumbers_140 : decode cX8_boundByNumbers 140 = .ok (.getfield 85, 3) := by decide +kernel
theorem dX8_boundByNumbers_143 : decode cX8_boundByNumbers 143 = .ok (.iload_n 2, 1) := by decide +kernel
theorem dX8_boundByNumbers_144 : decode cX8_boundByNumbers 144 = .ok (.iaload, 1) := by decide +kernel
theorem dX8_boundByNumbers_145 : decode cX8_boundByNumbers 145 = .ok (.invokevirtual 78, 3) := by decide +kernel
theorem dX8_boundByNumbers_148 : decode cX8_boundByNumbers 148 = .ok (.aload_n 0, 1) := by decide +kernel
theorem dX8_boundByNumbers_149 : decode cX8_boundByNumbers 149 = .ok (.iconst 5, 1) := by decide +kernel
theorem dX8_boundByNumbers_150 : decode cX8_boundByNumbers 150 = .ok (.iload_n 1, 1) := by decide +kernel
theorem dX8_boundByNumbers_151 : decode cX8_boundByNumbers 151 = .ok (.aload_n 0, 1) := by decide +kernel
theorem dX8_boundByNumbers_152 : decode cX8_boundByNumbers 152 = .ok (.getfield 9, 3) := by decide +kernel
theorem dX8_boundByNumbers_155 : decode cX8_boundByNumbers 155 = .ok (.getfield 88, 3) := by decide +kernel
theorem dX8_boundByNumbers_158 : decode cX8_boundByNumbers 158 = .ok (.iload_n 2, 1) := by decide +kernel
theorem dX8_boundByNumbers_159 : decode cX8_boundByNumbers 159 = .ok (.iaload, 1) := by decide +kernel
theorem dX8_boundByNumbers_160 : decode cX8_boundByNumbers 160 = .ok (.invokevirtual 78, 3) := by decide +kernel
theorem dX8_boundByNumbers_163 : decode cX8_boundByNumbers 163 = .ok (.iinc 1 1, 3) := by decide +kernel
theorem dX8_boundByNumbers_166 : decode cX8_boundByNumbers 166 = .ok (.goto (-164), 3) := by decide +kernel
theorem dX8_boundByNumbers_169 : decode cX8_boundByNumbers 169 = .ok (.return_, 1) := by decide +kernel
theorem dX8_settleWithout_0 : decode cX8_settleWithout 0 = .ok (.aload_n 0, 1) := by decide +kernel
theorem dX8_settleWithout_1 : decode cX8_settleWithout 1 = .ok (.getfield 23, 3) := by decide +kernel
theorem dX8_settleWithout_4 : decode cX8_settleWithout 4 = .ok (.iconst 0, 1) := by decide +kernel
theorem dX8_settleWithout_5 : decode cX8_settleWithout 5 = .ok (.aload_n 0, 1) := by decide +kernel
theorem dX8_settleWithout_6 : decode cX8_settleWithout 6 = .ok (.getfield 27, 3) := by decide +kernel
theorem dX8_settleWithout_9 : decode cX8_settleWithout 9 = .ok (.iconst 0, 1) := by decide +kernel
theorem dX8_settleWithout_10 : decode cX8_settleWithout 10 = .ok (.aload_n 0, 1) := by decide +kernel
theorem dX8_settleWithout_11 : decode cX8_settleWithout 11 = .ok (.getfield 23, 3) := by decide +kernel
theorem dX8_settleWithout_14 : decode cX8_settleWithout 14 = .ok (.arraylength, 1) := by decide +kernel
theorem dX8_settleWithout_15 : decode cX8_settleWithout 15 = .ok (.invokestatic 91, 3) := by decide +kernel
theorem dX8_settleWithout_18 : decode cX8_settleWithout 18 = .ok (.aload_n 0, 1) := by decide +kernel
theorem dX8_settleWithout_19 : decode cX8_settleWithout 19 = .ok (.iload_n 1, 1) := by decide +kernel
theorem dX8_settleWithout_20 : decode cX8_settleWithout 20 = .ok (.invokevirtual 97, 3) := by decide +kernel
theorem dX8_settleWithout_23 : decode cX8_settleWithout 23 = .ok (.aload_n 0, 1) := by decide +kernel
theorem dX8_settleWithout_24 : decode cX8_settleWithout 24 = .ok (.invokevirtual 101, 3) := by decide +kernel
theorem dX8_settleWithout_27 : decode cX8_settleWithout 27 = .ok (.aload_n 0, 1) := by decide +kernel
theorem dX8_settleWithout_28 : decode cX8_settleWithout 28 = .ok (.iload_n 1, 1) := by decide +kernel
theorem dX8_settleWithout_29 : decode cX8_settleWithout 29 = .ok (.invokevirtual 104, 3) := by decide +kernel
theorem dX8_settleWithout_32 : decode cX8_settleWithout 32 = .ok (.aload_n 0, 1) := by decide +kernel
theorem dX8_settleWithout_33 : decode cX8_settleWithout 33 = .ok (.invokevirtual 107, 3) := by decide +kernel
theorem dX8_settleWithout_36 : decode cX8_settleWithout 36 = .ok (.ireturn, 1) := by decide +kernel
theorem dX8_heirloomOf_0 : decode cX8_heirloomOf 0 = .ok (.aload_n 0, 1) := by decide +kernel
theorem dX8_heirloomOf_1 : decode cX8_heirloomOf 1 = .ok (.getfield 15, 3) := by decide +kernel
theorem dX8_heirloomOf_4 : decode cX8_heirloomOf 4 = .ok (.iload_n 1, 1) := by decide +kernel
theorem dX8_heirloomOf_5 : decode cX8_heirloomOf 5 = .ok (.invokevirtual 111, 3) := by decide +kernel
theorem dX8_heirloomOf_8 : decode cX8_heirloomOf 8 = .ok (.istore_n 2, 1) := by decide +kernel
theorem dX8_heirloomOf_9 : decode cX8_heirloomOf 9 = .ok (.aload_n 0, 1) := by decide +kernel
theorem dX8_heirloomOf_10 : decode cX8_heirloomOf 10 = .ok (.iload_n 2, 1) := by decide +kernel
theorem dX8_heirloomOf_11 : decode cX8_heirloomOf 11 = .ok (.ifCond .eq 7, 3) := by decide +kernel
theorem dX8_heirloomOf_14 : decode cX8_heirloomOf 14 = .ok (.iconst 2, 1) := by decide +kernel
theorem dX8_heirloomOf_15 : decode cX8_heirloomOf 15 = .ok (.goto 4, 3) := by decide +kernel
theorem dX8_heirloomOf_18 : decode cX8_heirloomOf 18 = .ok (.iconst 0, 1) := by decide +kernel
theorem dX8_heirloomOf_19 : decode cX8_heirloomOf 19 = .ok (.iload_n 1, 1) := by decide +kernel
theorem dX8_heirloomOf_20 : decode cX8_heirloomOf 20 = .ok (.invokevirtual 114, 3) := by decide +kernel
theorem dX8_heirloomOf_23 : decode cX8_heirloomOf 23 = .ok (.istore_n 3, 1) := by decide +kernel
theorem dX8_heirloomOf_24 : decode cX8_heirloomOf 24 = .ok (.aload_n 0, 1) := by decide +kernel
theorem dX8_heirloomOf_25 : decode cX8_heirloomOf 25 = .ok (.iload_n 2, 1) := by decide +kernel
theorem dX8_heirloomOf_26 : decode cX8_heirloomOf 26 = .ok (.ifCond .eq 7, 3) := by decide +kernel
theorem dX8_heirloomOf_29 : decode cX8_heirloomOf 29 = .ok (.iconst 3, 1) := by decide +kernel
theorem dX8_heirloomOf_30 : decode cX8_heirloomOf 30 = .ok (.goto 4, 3) := by decide +kernel
theorem dX8_heirloomOf_33 : decode cX8_heirloomOf 33 = .ok (.iconst 1, 1) := by decide +kernel
theorem dX8_heirloomOf_34 : decode cX8_heirloomOf 34 = .ok (.iload_n 1, 1) := by decide +kernel
theorem dX8_heirloomOf_35 : decode cX8_heirloomOf 35 = .ok (.invokevirtual 114, 3) := by decide +kernel
theorem dX8_heirloomOf_38 : decode cX8_heirloomOf 38 = .ok (.istore 4, 2) := by decide +kernel
theorem dX8_heirloomOf_40 : decode cX8_heirloomOf 40 = .ok (.iload 4, 2) := by decide +kernel
theorem dX8_heirloomOf_42 : decode cX8_heirloomOf 42 = .ok (.aload_n 0, 1) := by decide +kernel
theorem dX8_heirloomOf_43 : decode cX8_heirloomOf 43 = .ok (.iconst 4, 1) := by decide +kernel
theorem dX8_heirloomOf_44 : decode cX8_heirloomOf 44 = .ok (.iload_n 1, 1) := by decide +kernel
theorem dX8_heirloomOf_45 : decode cX8_heirloomOf 45 = .ok (.invokevirtual 114, 3) := by decide +kernel
theorem dX8_heirloomOf_48 : decode cX8_heirloomOf 48 = .ok (.if_icmp .ge 5, 3) := by decide +kernel
theorem dX8_heirloomOf_51 : decode cX8_heirloomOf 51 = .ok (.iconst 2, 1) := by decide +kernel
theorem dX8_heirloomOf_52 : decode cX8_heirloomOf 52 = .ok (.ireturn, 1) := by decide +kernel
theorem dX8_heirloomOf_53 : decode cX8_heirloomOf 53 = .ok (.iload_n 3, 1) := by decide +kernel
theorem dX8_heirloomOf_54 : decode cX8_heirloomOf 54 = .ok (.aload_n 0, 1) := by decide +kernel
theorem dX8_heirloomOf_55 : decode cX8_heirloomOf 55 = .ok (.iconst 5, 1) := by decide +kernel
theorem dX8_heirloomOf_56 : decode cX8_heirloomOf 56 = .ok (.iload_n 1, 1) := by decide +kernel
theorem dX8_heirloomOf_57 : decode cX8_heirloomOf 57 = .ok (.invokevirtual 114, 3) := by decide +kernel
theorem dX8_heirloomOf_60 : decode cX8_heirloomOf 60 = .ok (.if_icmp .ge 7, 3) := by decide +kernel
theorem dX8_heirloomOf_63 : decode cX8_heirloomOf 63 = .ok (.iconst 1, 1) := by decide +kernel
theorem dX8_heirloomOf_64 : decode cX8_heirloomOf 64 = .ok (.goto 4, 3) := by decide +kernel
theorem dX8_heirloomOf_67 : decode cX8_heirloomOf 67 = .ok (.iconst 0, 1) := by decide +kernel
theorem dX8_heirloomOf_68 : decode cX8_heirloomOf 68 = .ok (.ireturn, 1) := by decide +kernel
theorem dX8_setOwn_0 : decode cX8_setOwn 0 = .ok (.aload_n 0, 1) := by decide +kernel
theorem dX8_setOwn_1 : decode cX8_setOwn 1 = .ok (.getfield 23, 3) := by decide +kernel
theorem dX8_setOwn_4 : decode cX8_setOwn 4 = .ok (.iload_n 1, 1) := by decide +kernel
theorem dX8_setOwn_5 : decode cX8_setOwn 5 = .ok (.bipush 12, 2) := by decide +kernel
theorem dX8_setOwn_7 : decode cX8_setOwn 7 = .ok (.imul, 1) := by decide +kernel
theorem dX8_setOwn_8 : decode cX8_setOwn 8 = .ok (.iload_n 2, 1) := by decide +kernel
theorem dX8_setOwn_9 : decode cX8_setOwn 9 = .ok (.iadd, 1) := by decide +kernel
theorem dX8_setOwn_10 : decode cX8_setOwn 10 = .ok (.iload_n 3, 1) := by decide +kernel
theorem dX8_setOwn_11 : decode cX8_setOwn 11 = .ok (.iastore, 1) := by decide +kernel
theorem dX8_setOwn_12 : decode cX8_setOwn 12 = .ok (.return_, 1) := by decide +kernel
theorem dX8_raise_0 : decode cX8_raise 0 = .ok (.iload_n 1, 1) := by decide +kernel
theorem dX8_raise_1 : decode cX8_raise 1 = .ok (.bipush 12, 2) := by decide +kernel
theorem dX8_raise_3 : decode cX8_raise 3 = .ok (.imul, 1) := by decide +kernel
theorem dX8_raise_4 : decode cX8_raise 4 = .ok (.iload_n 2, 1) := by decide +kernel
theorem dX8_raise_5 : decode cX8_raise 5 = .ok (.iadd, 1) := by decide +kernel
theorem dX8_raise_6 : decode cX8_raise 6 = .ok (.istore 4, 2) := by decide +kernel
theorem dX8_raise_8 : decode cX8_raise 8 = .ok (.aload_n 0, 1) := by decide +kernel
theorem dX8_raise_9 : decode cX8_raise 9 = .ok (.getfield 27, 3) := by decide +kernel
theorem dX8_raise_12 : decode cX8_raise 12 = .ok (.iload 4, 2) := by decide +kernel
theorem dX8_raise_14 : decode cX8_raise 14 = .ok (.aload_n 0, 1) := by decide +kernel
theorem dX8_raise_15 : decode cX8_raise 15 = .ok (.getfield 27, 3) := by decide +kernel
theorem dX8_raise_18 : decode cX8_raise 18 = .ok (.iload 4, 2) := by decide +kernel
theorem dX8_raise_20 : decode cX8_raise 20 = .ok (.iaload, 1) := by decide +kernel
theorem dX8_raise_21 : decode cX8_raise 21 = .ok (.iload_n 3, 1) := by decide +kernel
theorem dX8_raise_22 : decode cX8_raise 22 = .ok (.invokestatic 73, 3) := by decide +kernel
theorem dX8_raise_25 : decode cX8_raise 25 = .ok (.iastore, 1) := by decide +kernel
theorem dX8_raise_26 : decode cX8_raise 26 = .ok (.return_, 1) := by decide +kernel
theorem dX8_lower_0 : decode cX8_lower 0 = .ok (.iload_n 1, 1) := by decide +kernel
theorem dX8_lower_1 : decode cX8_lower 1 = .ok (.bipush 12, 2) := by decide +kernel
theorem dX8_lower_3 : decode cX8_lower 3 = .ok (.imul, 1) := by decide +kernel
theorem dX8_lower_4 : decode cX8_lower 4 = .ok (.iload_n 2, 1) := by decide +kernel
theorem dX8_lower_5 : decode cX8_lower 5 = .ok (.iadd, 1) := by decide +kernel
theorem dX8_lower_6 : decode cX8_lower 6 = .ok (.istore 4, 2) := by decide +kernel
theorem dX8_lower_8 : decode cX8_lower 8 = .ok (.aload_n 0, 1) := by decide +kernel
theorem dX8_lower_9 : decode cX8_lower 9 = .ok (.getfield 27, 3) := by decide +kernel
theorem dX8_lower_12 : decode cX8_lower 12 = .ok (.iload 4, 2) := by decide +kernel
theorem dX8_lower_14 : decode cX8_lower 14 = .ok (.aload_n 0, 1) := by decide +kernel
theorem dX8_lower_15 : decode cX8_lower 15 = .ok (.getfield 27, 3) := by decide +kernel
theorem dX8_lower_18 : decode cX8_lower 18 = .ok (.iload 4, 2) := by decide +kernel
theorem dX8_lower_20 : decode cX8_lower 20 = .ok (.iaload, 1) := by decide +kernel
theorem dX8_lower_21 : decode cX8_lower 21 = .ok (.iload_n 3, 1) := by decide +kernel
theorem dX8_lower_22 : decode cX8_lower 22 = .ok (.invokestatic 117, 3) := by decide +kernel
theorem dX8_lower_25 : decode cX8_lower 25 = .ok (.iastore, 1) := by decide +kernel
theorem dX8_lower_26 : decode cX8_lower 26 = .ok (.return_, 1) := by decide +kernel
theorem dX8_rimFirst_0 : decode cX8_rimFirst 0 = .ok (.iload_n 0, 1) := by decide +kernel
theorem dX8_rimFirst_1 : decode cX8_rimFirst 1 = .ok (.ifCond .ne 7, 3) := by decide +kernel
theorem dX8_rimFirst_4 : decode cX8_rimFirst 4 = .ok (.iconst 0, 1) := by decide +kernel
theorem dX8_rimFirst_5 : decode cX8_rimFirst 5 = .ok (.goto 22, 3) := by decide +kernel
theorem dX8_rimFirst_8 : decode cX8_rimFirst 8 = .ok (.iconst 0, 1) := by decide +kernel
theorem dX8_rimFirst_9 : decode cX8_rimFirst 9 = .ok (.sipush 9999, 3) := by decide +kernel
theorem dX8_rimFirst_12 : decode cX8_rimFirst 12 = .ok (.iload_n 0, 1) := by decide +kernel
theorem dX8_rimFirst_13 : decode cX8_rimFirst 13 = .ok (.iconst 1, 1) := by decide +kernel
theorem dX8_rimFirst_14 : decode cX8_rimFirst 14 = .ok (.iadd, 1) := by decide +kernel
theorem dX8_rimFirst_15 : decode cX8_rimFirst 15 = .ok (.iload_n 0, 1) := by decide +kernel
theorem dX8_rimFirst_16 : decode cX8_rimFirst 16 = .ok (.iconst 1, 1) := by decide +kernel
theorem dX8_rimFirst_17 : decode cX8_rimFirst 17 = .ok (.iadd, 1) := by decide +kernel
theorem dX8_rimFirst_18 : decode cX8_rimFirst 18 = .ok (.imul, 1) := by decide +kernel
theorem dX8_rimFirst_19 : decode cX8_rimFirst 19 = .ok (.iload_n 1, 1) := by decide +kernel
theorem dX8_rimFirst_20 : decode cX8_rimFirst 20 = .ok (.invokestatic 120, 3) := by decide +kernel
theorem dX8_rimFirst_23 : decode cX8_rimFirst 23 = .ok (.isub, 1) := by decide +kernel
theorem dX8_rimFirst_24 : decode cX8_rimFirst 24 = .ok (.invokestatic 73, 3) := by decide +kernel
theorem dX8_rimFirst_27 : decode cX8_rimFirst 27 = .ok (.ireturn, 1) := by decide +kernel
theorem dX8_rimLast_0 : decode cX8_rimLast 0 = .ok (.iload_n 0, 1) := by decide +kernel
theorem dX8_rimLast_1 : decode cX8_rimLast 1 = .ok (.ifCond .ne 9, 3) := by decide +kernel
theorem dX8_rimLast_4 : decode cX8_rimLast 4 = .ok (.sipush 9999, 3) := by decide +kernel
theorem dX8_rimLast_7 : decode cX8_rimLast 7 = .ok (.goto 22, 3) := by decide +kernel
theorem dX8_rimLast_10 : decode cX8_rimLast 10 = .ok (.iconst 0, 1) := by decide +kernel
theorem dX8_rimLast_11 : decode cX8_rimLast 11 = .ok (.sipush 9999, 3) := by decide +kernel
theorem dX8_rimLast_14 : decode cX8_rimLast 14 = .ok (.iload_n 0, 1) := by decide +kernel
theorem dX8_rimLast_15 : decode cX8_rimLast 15 = .ok (.iconst 1, 1) := by decide +kernel
theorem dX8_rimLast_16 : decode cX8_rimLast 16 = .ok (.isub, 1) := by decide +kernel
theorem dX8_rimLast_17 : decode cX8_rimLast 17 = .ok (.iload_n 0, 1) := by decide +kernel
theorem dX8_rimLast_18 : decode cX8_rimLast 18 = .ok (.iconst 1, 1) := by decide +kernel
theorem dX8_rimLast_19 : decode cX8_rimLast 19 = .ok (.isub, 1) := by decide +kernel
theorem dX8_rimLast_20 : decode cX8_rimLast 20 = .ok (.imul, 1) := by decide +kernel
theorem dX8_rimLast_21 : decode cX8_rimLast 21 = .ok (.iload_n 1, 1) := by decide +kernel
theorem dX8_rimLast_22 : decode cX8_rimLast 22 = .ok (.invokestatic 120, 3) := by decide +kernel
theorem dX8_rimLast_25 : decode cX8_rimLast 25 = .ok (.isub, 1) := by decide +kernel
theorem dX8_rimLast_26 : decode cX8_rimLast 26 = .ok (.invokestatic 73, 3) := by decide +kernel
theorem dX8_rimLast_29 : decode cX8_rimLast 29 = .ok (.ireturn, 1) := by decide +kernel
theorem dX8_above_0 : decode cX8_above 0 = .ok (.iload_n 1, 1) := by decide +kernel
theorem dX8_above_1 : decode cX8_above 1 = .ok (.iload_n 2, 1) := by decide +kernel
theorem dX8_above_2 : decode cX8_above 2 = .ok (.if_icmp .ne 7, 3) := by decide +kernel
theorem dX8_above_5 : decode cX8_above 5 = .ok (.iconst (-1), 1) := by decide +kernel
theorem dX8_above_6 : decode cX8_above 6 = .ok (.goto 12, 3) := by decide +kernel
theorem dX8_above_9 : decode cX8_above 9 = .ok (.aload_n 0, 1) := by decide +kernel
theorem dX8_above_10 : decode cX8_above 10 = .ok (.getfield 15, 3) := by decide +kernel
theorem dX8_above_13 : decode cX8_above 13 = .ok (.getfield 123, 3) := by decide +kernel
theorem dX8_above_16 : decode cX8_above 16 = .ok (.iload_n 1, 1) := by decide +kernel
theorem dX8_above_17 : decode cX8_above 17 = .ok (.iaload, 1) := by decide +kernel
theorem dX8_above_18 : decode cX8_above 18 = .ok (.ireturn, 1) := by decide +kernel
theorem dX8_raiseStruck_0 : decode cX8_raiseStruck 0 = .ok (.iconst 0, 1) := by decide +kernel
theorem dX8_raiseStruck_1 : decode cX8_raiseStruck 1 = .ok (.istore_n 2, 1) := by decide +kernel
theorem dX8_raiseStruck_2 : decode cX8_raiseStruck 2 = .ok (.iload_n 2, 1) := by decide +kernel
theorem dX8_raiseStruck_3 : decode cX8_raiseStruck 3 = .ok (.aload_n 0, 1) := by decide +kernel
theorem dX8_raiseStruck_4 : decode cX8_raiseStruck 4 = .ok (.getfield 15, 3) := by decide +kernel
theorem dX8_raiseStruck_7 : decode cX8_raiseStruck 7 = .ok (.getfield 40, 3) := by decide +kernel
theorem dX8_raiseStruck_10 : decode cX8_raiseStruck 10 = .ok (.if_icmp .ge 56, 3) := by decide +kernel
theorem dX8_raiseStruck_13 : decode cX8_raiseStruck 13 = .ok (.aload_n 0, 1) := by decide +kernel
theorem dX8_raiseStruck_14 : decode cX8_raiseStruck 14 = .ok (.iload_n 2, 1) := by decide +kernel
theorem dX8_raiseStruck_15 : decode cX8_raiseStruck 15 = .ok (.iload_n 1, 1) := by decide +kernel
theorem dX8_raiseStruck_16 : decode cX8_raiseStruck 16 = .ok (.invokevirtual 126, 3) := by decide +kernel
theorem dX8_raiseStruck_19 : decode cX8_raiseStruck 19 = .ok (.istore_n 3, 1) := by decide +kernel
theorem dX8_raiseStruck_20 : decode cX8_raiseStruck 20 = .ok (.iconst 0, 1) := by decide +kernel
theorem dX8_raiseStruck_21 : decode cX8_raiseStruck 21 = .ok (.istore 4, 2) := by decide +kernel
theorem dX8_raiseStruck_23 : decode cX8_raiseStruck 23 = .ok (.iload_n 3, 1) := by decide +kernel
theorem dX8_raiseStruck_24 : decode cX8_raiseStruck 24 = .ok (.iconst (-1), 1) := by decide +kernel
theorem dX8_raiseStruck_25 : decode cX8_raiseStruck 25 = .ok (.if_icmp .eq 35, 3) := by decide +kernel
theorem dX8_raiseStruck_28 : decode cX8_raiseStruck 28 = .ok (.iload 4, 2) := by decide +kernel
theorem dX8_raiseStruck_30 : decode cX8_raiseStruck 30 = .ok (.bipush 12, 2) := by decide +kernel
theorem dX8_raiseStruck_32 : decode cX8_raiseStruck 32 = .ok (.if_icmp .ge 28, 3) := by decide +kernel
theorem dX8_raiseStruck_35 : decode cX8_raiseStruck 35 = .ok (.aload_n 0, 1) := by decide +kernel
theorem dX8_raiseStruck_36 : decode cX8_raiseStruck 36 = .ok (.iconst 0, 1) := by decide +kernel
theorem dX8_raiseStruck_37 : decode cX8_raiseStruck 37 = .ok (.iload_n 2, 1) := by decide +kernel
theorem dX8_raiseStruck_38 : decode cX8_raiseStruck 38 = .ok (.aload_n 0, 1) := by decide +kernel
theorem dX8_raiseStruck_39 : decode cX8_raiseStruck 39 = .ok (.iconst 0, 1) := by decide +kernel
theorem dX8_raiseStruck_40 : decode cX8_raiseStruck 40 = .ok (.iload_n 3, 1) := by decide +kernel
theorem dX8_raiseStruck_41 : decode cX8_raiseStruck 41 = .ok (.invokevirtual 114, 3) := by decide +kernel
theorem dX8_raiseStruck_44 : decode cX8_raiseStruck 44 = .ok (.invokevirtual 129, 3) := by decide +kernel
theorem dX8_raiseStruck_47 : decode cX8_raiseStruck 47 = .ok (.aload_n 0, 1) := by decide +kernel
theorem dX8_raiseStruck_48 : decode cX8_raiseStruck 48 = .ok (.iload_n 3, 1) := by decide +kernel
theorem dX8_raiseStruck_49 : decode cX8_raiseStruck 49 = .ok (.iload_n 1, 1) := by decide +kernel
theorem dX8_raiseStruck_50 : decode cX8_raiseStruck 50 = .ok (.invokevirtual 126, 3) := by decide +kernel
theorem dX8_raiseStruck_53 : decode cX8_raiseStruck 53 = .ok (.istore_n 3, 1) := by decide +kernel
theorem dX8_raiseStruck_54 : decode cX8_raiseStruck 54 = .ok (.iinc 4 1, 3) := by decide +kernel
theorem dX8_raiseStruck_57 : decode cX8_raiseStruck 57 = .ok (.goto (-34), 3) := by decide +kernel
theorem dX8_raiseStruck_60 : decode cX8_raiseStruck 60 = .ok (.iinc 2 1, 3) := by decide +kernel
theorem dX8_raiseStruck_63 : decode cX8_raiseStruck 63 = .ok (.goto (-61), 3) := by decide +kernel
theorem dX8_raiseStruck_66 : decode cX8_raiseStruck 66 = .ok (.return_, 1) := by decide +kernel
theorem dX8_raiseLaid_0 : decode cX8_raiseLaid 0 = .ok (.iconst 0, 1) := by decide +kernel
theorem dX8_raiseLaid_1 : decode cX8_raiseLaid 1 = .ok (.istore_n 1, 1) := by decide +kernel
theorem dX8_raiseLaid_2 : decode cX8_raiseLaid 2 = .ok (.iload_n 1, 1) := by decide +kernel
theorem dX8_raiseLaid_3 : decode cX8_raiseLaid 3 = .ok (.aload_n 0, 1) := by decide +kernel
theorem dX8_raiseLaid_4 : decode cX8_raiseLaid 4 = .ok (.getfield 15, 3) := by decide +kernel
theorem dX8_raiseLaid_7 : decode cX8_raiseLaid 7 = .ok (.getfield 40, 3) := by decide +kernel
theorem dX8_raiseLaid_10 : decode cX8_raiseLaid 10 = .ok (.if_icmp .ge 33, 3) := by decide +kernel
theorem dX8_raiseLaid_13 : decode cX8_raiseLaid 13 = .ok (.aload_n 0, 1) := by decide +kernel
theorem dX8_raiseLaid_14 : decode cX8_raiseLaid 14 = .ok (.iconst 2, 1) := by decide +kernel
theorem dX8_raiseLaid_15 : decode cX8_raiseLaid 15 = .ok (.iload_n 1, 1) := by decide +kernel
theorem dX8_raiseLaid_16 : decode cX8_raiseLaid 16 = .ok (.aload_n 0, 1) := by decide +kernel
theorem dX8_raiseLaid_17 : decode cX8_raiseLaid 17 = .ok (.iconst 0, 1) := by decide +kernel
theorem dX8_raiseLaid_18 : decode cX8_raiseLaid 18 = .ok (.iload_n 1, 1) := by decide +kernel
theorem dX8_raiseLaid_19 : decode cX8_raiseLaid 19 = .ok (.invokevirtual 114, 3) := by decide +kernel
theorem dX8_raiseLaid_22 : decode cX8_raiseLaid 22 = .ok (.invokevirtual 129, 3) := by decide +kernel
theorem dX8_raiseLaid_25 : decode cX8_raiseLaid 25 = .ok (.aload_n 0, 1) := by decide +kernel
theorem dX8_raiseLaid_26 : decode cX8_raiseLaid 26 = .ok (.iconst 4, 1) := by decide +kernel
theorem dX8_raiseLaid_27 : decode cX8_raiseLaid 27 = .ok (.iload_n 1, 1) := by decide +kernel
theorem dX8_raiseLaid_28 : decode cX8_raiseLaid 28 = .ok (.aload_n 0, 1) := by decide +kernel
theorem dX8_raiseLaid_29 : decode cX8_raiseLaid 29 = .ok (.iconst 2, 1) := by decide +kernel
theorem dX8_raiseLaid_30 : decode cX8_raiseLaid 30 = .ok (.iload_n 1, 1) := by decide +kernel
theorem dX8_raiseLaid_31 : decode cX8_raiseLaid 31 = .ok (.invokevirtual 114, 3) := by decide +kernel
theorem dX8_raiseLaid_34 : decode cX8_raiseLaid 34 = .ok (.invokevirtual 129, 3) := by decide +kernel
theorem dX8_raiseLaid_37 : decode cX8_raiseLaid 37 = .ok (.iinc 1 1, 3) := by decide +kernel
theorem dX8_raiseLaid_40 : decode cX8_raiseLaid 40 = .ok (.goto (-38), 3) := by decide +kernel
theorem dX8_raiseLaid_43 : decode cX8_raiseLaid 43 = .ok (.iconst 0, 1) := by decide +kernel
theorem dX8_raiseLaid_44 : decode cX8_raiseLaid 44 = .ok (.istore_n 1, 1) := by decide +kernel
theorem dX8_raiseLaid_45 : decode cX8_raiseLaid 45 = .ok (.iload_n 1, 1) := by decide +kernel
theorem dX8_raiseLaid_46 : decode cX8_raiseLaid 46 = .ok (.aload_n 0, 1) := by decide +kernel
theorem dX8_raiseLaid_47 : decode cX8_raiseLaid 47 = .ok (.getfield 15, 3) := by decide +kernel
theorem dX8_raiseLaid_50 : decode cX8_raiseLaid 50 = .ok (.getfield 40, 3) := by decide +kernel
theorem dX8_raiseLaid_53 : decode cX8_raiseLaid 53 = .ok (.if_icmp .ge 92, 3) := by decide +kernel
theorem dX8_raiseLaid_56 : decode cX8_raiseLaid 56 = .ok (.iconst 0, 1) := by decide +kernel
theorem dX8_raiseLaid_57 : decode cX8_raiseLaid 57 = .ok (.istore_n 2, 1) := by decide +kernel
theorem dX8_raiseLaid_58 : decode cX8_raiseLaid 58 = .ok (.iload_n 2, 1) := by decide +kernel
theorem dX8_raiseLaid_59 : decode cX8_raiseLaid 59 = .ok (.aload_n 0, 1) := by decide +kernel
theorem dX8_raiseLaid_60 : decode cX8_raiseLaid 60 = .ok (.getfield 15, 3) := by decide +kernel
theorem dX8_raiseLaid_63 : decode cX8_raiseLaid 63 = .ok (.getfield 40, 3) := by decide +kernel
theorem dX8_raiseLaid_66 : decode cX8_raiseLaid 66 = .ok (.if_icmp .ge 73, 3) := by decide +kernel
theorem dX8_raiseLaid_69 : decode cX8_raiseLaid 69 = .ok (.aload_n 0, 1) := by decide +kernel
theorem dX8_raiseLaid_70 : decode cX8_raiseLaid 70 = .ok (.getfield 15, 3) := by decide +kernel
theorem dX8_raiseLaid_73 : decode cX8_raiseLaid 73 = .ok (.getfield 46, 3) := by decide +kernel
theorem dX8_raiseLaid_76 : decode cX8_raiseLaid 76 = .ok (.iload_n 2, 1) := by decide +kernel
theorem dX8_raiseLaid_77 : decode cX8_raiseLaid 77 = .ok (.iaload, 1) := by decide +kernel
theorem dX8_raiseLaid_78 : decode cX8_raiseLaid 78 = .ok (.aload_n 0, 1) := by decide +kernel
theorem dX8_raiseLaid_79 : decode cX8_raiseLaid 79 = .ok (.getfield 15, 3) := by decide +kernel
theorem dX8_raiseLaid_82 : decode cX8_raiseLaid 82 = .ok (.getfield 46, 3) := by decide +kernel
theorem dX8_raiseLaid_85 : decode cX8_raiseLaid 85 = .ok (.iload_n 1, 1) := by decide +kernel
theorem dX8_raiseLaid_86 : decode cX8_raiseLaid 86 = .ok (.iaload, 1) := by decide +kernel
theorem dX8_raiseLaid_87 : decode cX8_raiseLaid 87 = .ok (.if_icmp .ne 7, 3) := by decide +kernel
theorem dX8_raiseLaid_90 : decode cX8_raiseLaid 90 = .ok (.iconst 1, 1) := by decide +kernel
theorem dX8_raiseLaid_91 : decode cX8_raiseLaid 91 = .ok (.goto 4, 3) := by decide +kernel
theorem dX8_raiseLaid_94 : decode cX8_raiseLaid 94 = .ok (.iconst 0, 1) := by decide +kernel
theorem dX8_raiseLaid_95 : decode cX8_raiseLaid 95 = .ok (.istore_n 3, 1) := by decide +kernel
theorem dX8_raiseLaid_96 : decode cX8_raiseLaid 96 = .ok (.iload_n 3, 1) := by decide +kernel
theorem dX8_raiseLaid_97 : decode cX8_raiseLaid 97 = .ok (.ifCond .eq 36, 3) := by decide +kernel
theorem dX8_raiseLaid_100 : decode cX8_raiseLaid 100 = .ok (.aload_n 0, 1) := by decide +kernel
theorem dX8_raiseLaid_101 : decode cX8_raiseLaid 101 = .ok (.getfield 15, 3) := by decide +kernel
theorem dX8_raiseLaid_104 : decode cX8_raiseLaid 104 = .ok (.getfield 132, 3) := by decide +kernel
theorem dX8_raiseLaid_107 : decode cX8_raiseLaid 107 = .ok (.iload_n 2, 1) := by decide +kernel
theorem dX8_raiseLaid_108 : decode cX8_raiseLaid 108 = .ok (.iaload, 1) := by decide +kernel
theorem dX8_raiseLaid_109 : decode cX8_raiseLaid 109 = .ok (.aload_n 0, 1) := by decide +kernel
theorem dX8_raiseLaid_110 : decode cX8_raiseLaid 110 = .ok (.getfield 15, 3) := by decide +kernel
theorem dX8_raiseLaid_113 : decode cX8_raiseLaid 113 = .ok (.getfield 132, 3) := by decide +kernel
theorem dX8_raiseLaid_116 : decode cX8_raiseLaid 116 = .ok (.iload_n 1, 1) := by decide +kernel
theorem dX8_raiseLaid_117 : decode cX8_raiseLaid 117 = .ok (.iaload, 1) := by decide +kernel
theorem dX8_raiseLaid_118 : decode cX8_raiseLaid 118 = .ok (.if_icmp .le 15, 3) := by decide +kernel
theorem dX8_raiseLaid_121 : decode cX8_raiseLaid 121 = .ok (.aload_n 0, 1) := by decide +kernel
theorem dX8_raiseLaid_122 : decode cX8_raiseLaid 122 = .ok (.iconst 4, 1) := by decide +kernel
theorem dX8_raiseLaid_123 : decode cX8_raiseLaid 123 = .ok (.iload_n 1, 1) := by decide +kernel
theorem dX8_raiseLaid_124 : decode cX8_raiseLaid 124 = .ok (.aload_n 0, 1) := by decide +kernel
theorem dX8_raiseLaid_125 : decode cX8_raiseLaid 125 = .ok (.iconst 4, 1) := by decide +kernel
theorem dX8_raiseLaid_126 : decode cX8_raiseLaid 126 = .ok (.iload_n 2, 1) := by decide +kernel
theorem dX8_raiseLaid_127 : decode cX8_raiseLaid 127 = .ok (.invokevirtual 114, 3) := by decide +kernel
theorem dX8_raiseLaid_130 : decode cX8_raiseLaid 130 = .ok (.invokevirtual 129, 3) := by decide +kernel
theorem dX8_raiseLaid_133 : decode cX8_raiseLaid 133 = .ok (.iinc 2 1, 3) := by decide +kernel
theorem dX8_raiseLaid_136 : decode cX8_raiseLaid 136 = .ok (.goto (-78), 3) := by decide +kernel
theorem dX8_raiseLaid_139 : decode cX8_raiseLaid 139 = .ok (.iinc 1 1, 3) := by decide +kernel
theorem dX8_raiseLaid_142 : decode cX8_raiseLaid 142 = .ok (.goto (-97), 3) := by decide +kernel
theorem dX8_raiseLaid_145 : decode cX8_raiseLaid 145 = .ok (.return_, 1) := by decide +kernel
theorem dX8_lowerStruck_0 : decode cX8_lowerStruck 0 = .ok (.iconst 0, 1) := by decide +kernel
theorem dX8_lowerStruck_1 : decode cX8_lowerStruck 1 = .ok (.istore_n 2, 1) := by decide +kernel
theorem dX8_lowerStruck_2 : decode cX8_lowerStruck 2 = .ok (.iload_n 2, 1) := by decide +kernel
theorem dX8_lowerStruck_3 : decode cX8_lowerStruck 3 = .ok (.aload_n 0, 1) := by decide +kernel
theorem dX8_lowerStruck_4 : decode cX8_lowerStruck 4 = .ok (.getfield 15, 3) := by decide +kernel
theorem dX8_lowerStruck_7 : decode cX8_lowerStruck 7 = .ok (.getfield 40, 3) := by decide +kernel
theorem dX8_lowerStruck_10 : decode cX8_lowerStruck 10 = .ok (.if_icmp .ge 33, 3) := by decide +kernel
theorem dX8_lowerStruck_13 : decode cX8_lowerStruck 13 = .ok (.aload_n 0, 1) := by decide +kernel
theorem dX8_lowerStruck_14 : decode cX8_lowerStruck 14 = .ok (.iconst 3, 1) := by decide +kernel
theorem dX8_lowerStruck_15 : decode cX8_lowerStruck 15 = .ok (.iload_n 2, 1) := by decide +kernel
theorem dX8_lowerStruck_16 : decode cX8_lowerStruck 16 = .ok (.aload_n 0, 1) := by decide +kernel
theorem dX8_lowerStruck_17 : decode cX8_lowerStruck 17 = .ok (.iconst 5, 1) := by decide +kernel
theorem dX8_lowerStruck_18 : decode cX8_lowerStruck 18 = .ok (.iload_n 2, 1) := by decide +kernel
theorem dX8_lowerStruck_19 : decode cX8_lowerStruck 19 = .ok (.invokevirtual 114, 3) := by decide +kernel
theorem dX8_lowerStruck_22 : decode cX8_lowerStruck 22 = .ok (.invokevirtual 135, 3) := by decide +kernel
theorem dX8_lowerStruck_25 : decode cX8_lowerStruck 25 = .ok (.aload_n 0, 1) := by decide +kernel
theorem dX8_lowerStruck_26 : decode cX8_lowerStruck 26 = .ok (.iconst 1, 1) := by decide +kernel
theorem dX8_lowerStruck_27 : decode cX8_lowerStruck 27 = .ok (.iload_n 2, 1) := by decide +kernel
theorem dX8_lowerStruck_28 : decode cX8_lowerStruck 28 = .ok (.aload_n 0, 1) := by decide +kernel
theorem dX8_lowerStruck_29 : decode cX8_lowerStruck 29 = .ok (.iconst 3, 1) := by decide +kernel
theorem dX8_lowerStruck_30 : decode cX8_lowerStruck 30 = .ok (.iload_n 2, 1) := by decide +kernel
theorem dX8_lowerStruck_31 : decode cX8_lowerStruck 31 = .ok (.invokevirtual 114, 3) := by decide +kernel
theorem dX8_lowerStruck_34 : decode cX8_lowerStruck 34 = .ok (.invokevirtual 135, 3) := by decide +kernel
theorem dX8_lowerStruck_37 : decode cX8_lowerStruck 37 = .ok (.iinc 2 1, 3) := by decide +kernel
theorem dX8_lowerStruck_40 : decode cX8_lowerStruck 40 = .ok (.goto (-38), 3) := by decide +kernel
theorem dX8_lowerStruck_43 : decode cX8_lowerStruck 43 = .ok (.iconst 0, 1) := by decide +kernel
theorem dX8_lowerStruck_44 : decode cX8_lowerStruck 44 = .ok (.istore_n 2, 1) := by decide +kernel
theorem dX8_lowerStruck_45 : decode cX8_lowerStruck 45 = .ok (.iload_n 2, 1) := by decide +kernel
theorem dX8_lowerStruck_46 : decode cX8_lowerStruck 46 = .ok (.aload_n 0, 1) := by decide +kernel
theorem dX8_lowerStruck_47 : decode cX8_lowerStruck 47 = .ok (.getfield 15, 3) := by decide +kernel
theorem dX8_lowerStruck_50 : decode cX8_lowerStruck 50 = .ok (.getfield 40, 3) := by decide +kernel
theorem dX8_lowerStruck_53 : decode cX8_lowerStruck 53 = .ok (.if_icmp .ge 56, 3) := by decide +kernel
theorem dX8_lowerStruck_56 : decode cX8_lowerStruck 56 = .ok (.aload_n 0, 1) := by decide +kernel
theorem dX8_lowerStruck_57 : decode cX8_lowerStruck 57 = .ok (.iload_n 2, 1) := by decide +kernel
theorem dX8_lowerStruck_58 : decode cX8_lowerStruck 58 = .ok (.iload_n 1, 1) := by decide +kernel
theorem dX8_lowerStruck_59 : decode cX8_lowerStruck 59 = .ok (.invokevirtual 126, 3) := by decide +kernel
theorem dX8_lowerStruck_62 : decode cX8_lowerStruck 62 = .ok (.istore_n 3, 1) := by decide +kernel
theorem dX8_lowerStruck_63 : decode cX8_lowerStruck 63 = .ok (.iconst 0, 1) := by decide +kernel
theorem dX8_lowerStruck_64 : decode cX8_lowerStruck 64 = .ok (.istore 4, 2) := by decide +kernel
theorem dX8_lowerStruck_66 : decode cX8_lowerStruck 66 = .ok (.iload_n 3, 1) := by decide +kernel
theorem dX8_lowerStruck_67 : decode cX8_lowerStruck 67 = .ok (.iconst (-1), 1) := by decide +kernel
theorem dX8_lowerStruck_68 : decode cX8_lowerStruck 68 = .ok (.if_icmp .eq 35, 3) := by decide +kernel
theorem dX8_lowerStruck_71 : decode cX8_lowerStruck 71 = .ok (.iload 4, 2) := by decide +kernel
theorem dX8_lowerStruck_73 : decode cX8_lowerStruck 73 = .ok (.bipush 12, 2) := by decide +kernel
theorem dX8_lowerStruck_75 : decode cX8_lowerStruck 75 = .ok (.if_icmp .ge 28, 3) := by decide +kernel
theorem dX8_lowerStruck_78 : decode cX8_lowerStruck 78 = .ok (.aload_n 0, 1) := by decide +kernel
theorem dX8_lowerStruck_79 : decode cX8_lowerStruck 79 = .ok (.iconst 1, 1) := by decide +kernel
theorem dX8_lowerStruck_80 : decode cX8_lowerStruck 80 = .ok (.iload_n 3, 1) := by decide +kernel
theorem dX8_lowerStruck_81 : decode cX8_lowerStruck 81 = .ok (.aload_n 0, 1) := by decide +kernel
theorem dX8_lowerStruck_82 : decode cX8_lowerStruck 82 = .ok (.iconst 1, 1) := by decide +kernel
theorem dX8_lowerStruck_83 : decode cX8_lowerStruck 83 = .ok (.iload_n 2, 1) := by decide +kernel
theorem dX8_lowerStruck_84 : decode cX8_lowerStruck 84 = .ok (.invokevirtual 114, 3) := by decide +kernel
theorem dX8_lowerStruck_87 : decode cX8_lowerStruck 87 = .ok (.invokevirtual 135, 3) := by decide +kernel
theorem dX8_lowerStruck_90 : decode cX8_lowerStruck 90 = .ok (.aload_n 0, 1) := by decide +kernel
theorem dX8_lowerStruck_91 : decode cX8_lowerStruck 91 = .ok (.iload_n 3, 1) := by decide +kernel
theorem dX8_lowerStruck_92 : decode cX8_lowerStruck 92 = .ok (.iload_n 1, 1) := by decide +kernel
theorem dX8_lowerStruck_93 : decode cX8_lowerStruck 93 = .ok (.invokevirtual 126, 3) := by decide +kernel
theorem dX8_lowerStruck_96 : decode cX8_lowerStruck 96 = .ok (.istore_n 3, 1) := by decide +kernel
theorem dX8_lowerStruck_97 : decode cX8_lowerStruck 97 = .ok (.iinc 4 1, 3) := by decide +kernel
theorem dX8_lowerStruck_100 : decode cX8_lowerStruck 100 = .ok (.goto (-34), 3) := by decide +kernel
theorem dX8_lowerStruck_103 : decode cX8_lowerStruck 103 = .ok (.iinc 2 1, 3) := by decide +kernel
theorem dX8_lowerStruck_106 : decode cX8_lowerStruck 106 = .ok (.goto (-61), 3) := by decide +kernel
theorem dX8_lowerStruck_109 : decode cX8_lowerStruck 109 = .ok (.return_, 1) := by decide +kernel
theorem dX8_hasWay_0 : decode cX8_hasWay 0 = .ok (.iconst 1, 1) := by decide +kernel
theorem dX8_hasWay_1 : decode cX8_hasWay 1 = .ok (.istore_n 1, 1) := by decide +kernel
theorem dX8_hasWay_2 : decode cX8_hasWay 2 = .ok (.iconst 0, 1) := by decide +kernel
theorem dX8_hasWay_3 : decode cX8_hasWay 3 = .ok (.istore_n 2, 1) := by decide +kernel
theorem dX8_hasWay_4 : decode cX8_hasWay 4 = .ok (.iload_n 1, 1) := by decide +kernel
theorem dX8_hasWay_5 : decode cX8_hasWay 5 = .ok (.ifCond .eq 71, 3) := by decide +kernel
theorem dX8_hasWay_8 : decode cX8_hasWay 8 = .ok (.iload_n 2, 1) := by decide +kernel
theorem dX8_hasWay_9 : decode cX8_hasWay 9 = .ok (.aload_n 0, 1) := by decide +kernel
theorem dX8_hasWay_10 : decode cX8_hasWay 10 = .ok (.getfield 15, 3) := by decide +kernel
theorem dX8_hasWay_13 : decode cX8_hasWay 13 = .ok (.getfield 40, 3) := by decide +kernel
theorem dX8_hasWay_16 : decode cX8_hasWay 16 = .ok (.if_icmp .ge 60, 3) := by decide +kernel
theorem dX8_hasWay_19 : decode cX8_hasWay 19 = .ok (.aload_n 0, 1) := by decide +kernel
theorem dX8_hasWay_20 : decode cX8_hasWay 20 = .ok (.iconst 0, 1) := by decide +kernel
theorem dX8_hasWay_21 : decode cX8_hasWay 21 = .ok (.iload_n 2, 1) := by decide +kernel
theorem dX8_hasWay_22 : decode cX8_hasWay 22 = .ok (.invokevirtual 114, 3) := by decide +kernel
theorem dX8_hasWay_25 : decode cX8_hasWay 25 = .ok (.aload_n 0, 1) := by decide +kernel
theorem dX8_hasWay_26 : decode cX8_hasWay 26 = .ok (.iconst 1, 1) := by decide +kernel
theorem dX8_hasWay_27 : decode cX8_hasWay 27 = .ok (.iload_n 2, 1) := by decide +kernel
theorem dX8_hasWay_28 : decode cX8_hasWay 28 = .ok (.invokevirtual 114, 3) := by decide +kernel
theorem dX8_hasWay_31 : decode cX8_hasWay 31 = .ok (.if_icmp .gt 37, 3) := by decide +kernel
theorem dX8_hasWay_34 : decode cX8_hasWay 34 = .ok (.aload_n 0, 1) := by decide +kernel
theorem dX8_hasWay_35 : decode cX8_hasWay 35 = .ok (.iconst 2, 1) := by decide +kernel
theorem dX8_hasWay_36 : decode cX8_hasWay 36 = .ok (.iload_n 2, 1) := by decide +kernel
theorem dX8_hasWay_37 : decode cX8_hasWay 37 = .ok (.invokevirtual 114, 3) := by decide +kernel
theorem dX8_hasWay_40 : decode cX8_hasWay 40 = .ok (.aload_n 0, 1) := by decide +kernel
theorem dX8_hasWay_41 : decode cX8_hasWay 41 = .ok (.iconst 3, 1) := by decide +kernel
theorem dX8_hasWay_42 : decode cX8_hasWay 42 = .ok (.iload_n 2, 1) := by decide +kernel
theorem dX8_hasWay_43 : decode cX8_hasWay 43 = .ok (.invokevirtual 114, 3) := by decide +kernel
theorem dX8_hasWay_46 : decode cX8_hasWay 46 = .ok (.if_icmp .gt 22, 3) := by decide +kernel
theorem dX8_hasWay_49 : decode cX8_hasWay 49 = .ok (.aload_n 0, 1) := by decide +kernel
theorem dX8_hasWay_50 : decode cX8_hasWay 50 = .ok (.iconst 4, 1) := by decide +kernel
theorem dX8_hasWay_51 : decode cX8_hasWay 51 = .ok (.iload_n 2, 1) := by decide +kernel
theorem dX8_hasWay_52 : decode cX8_hasWay 52 = .ok (.invokevirtual 114, 3) := by decide +kernel
theorem dX8_hasWay_55 : decode cX8_hasWay 55 = .ok (.aload_n 0, 1) := by decide +kernel
theorem dX8_hasWay_56 : decode cX8_hasWay 56 = .ok (.iconst 5, 1) := by decide +kernel
theorem dX8_hasWay_57 : decode cX8_hasWay 57 = .ok (.iload_n 2, 1) := by decide +kernel
theorem dX8_hasWay_58 : decode cX8_hasWay 58 = .ok (.invokevirtual 114, 3) := by decide +kernel
theorem dX8_hasWay_61 : decode cX8_hasWay 61 = .ok (.if_icmp .gt 7, 3) := by decide +kernel
theorem dX8_hasWay_64 : decode cX8_hasWay 64 = .ok (.iconst 1, 1) := by decide +kernel
theorem dX8_hasWay_65 : decode cX8_hasWay 65 = .ok (.goto 4, 3) := by decide +kernel
theorem dX8_hasWay_68 : decode cX8_hasWay 68 = .ok (.iconst 0, 1) := by decide +kernel
theorem dX8_hasWay_69 : decode cX8_hasWay 69 = .ok (.istore_n 1, 1) := by decide +kernel
theorem dX8_hasWay_70 : decode cX8_hasWay 70 = .ok (.iinc 2 1, 3) := by decide +kernel
theorem dX8_hasWay_73 : decode cX8_hasWay 73 = .ok (.goto (-69), 3) := by decide +kernel
theorem dX8_hasWay_76 : decode cX8_hasWay 76 = .ok (.iload_n 1, 1) := by decide +kernel
theorem dX8_hasWay_77 : decode cX8_hasWay 77 = .ok (.ireturn, 1) := by decide +kernel
end
section
theorem dX9_init_0 : decode cX9_init 0 = .ok (.aload_n 0, 1) := by decide +kernel
theorem dX9_init_1 : decode cX9_init 1 = .ok (.invokespecial 3, 3) := by decide +kernel
theorem dX9_init_4 : decode cX9_init 4 = .ok (.aload_n 0, 1) := by decide +kernel
theorem dX9_init_5 : decode cX9_init 5 = .ok (.new 9, 3) := by decide +kernel
theorem dX9_init_8 : decode cX9_init 8 = .ok (.dup, 1) := by decide +kernel
theorem dX9_init_9 : decode cX9_init 9 = .ok (.invokespecial 11, 3) := by decide +kernel
theorem dX9_init_12 : decode cX9_init 12 = .ok (.putfield 12, 3) := by decide +kernel
theorem dX9_init_15 : decode cX9_init 15 = .ok (.aload_n 0, 1) := by decide +kernel
theorem dX9_init_16 : decode cX9_init 16 = .ok (.new 16, 3) := by decide +kernel
theorem dX9_init_19 : decode cX9_init 19 = .ok (.dup, 1) := by decide +kernel
theorem dX9_init_20 : decode cX9_init 20 = .ok (.invokespecial 18, 3) := by decide +kernel
theorem dX9_init_23 : decode cX9_init 23 = .ok (.putfield 19, 3) := by decide +kernel
theorem dX9_init_26 : decode cX9_init 26 = .ok (.aload_n 0, 1) := by decide +kernel
theorem dX9_init_27 : decode cX9_init 27 = .ok (.new 23, 3) := by decide +kernel
theorem dX9_init_30 : decode cX9_init 30 = .ok (.dup, 1) := by decide +kernel
theorem dX9_init_31 : decode cX9_init 31 = .ok (.invokespecial 25, 3) := by decide +kernel
theorem dX9_init_34 : decode cX9_init 34 = .ok (.putfield 26, 3) := by decide +kernel
theorem dX9_init_37 : decode cX9_init 37 = .ok (.aload_n 0, 1) := by decide +kernel
theorem dX9_init_38 : decode cX9_init 38 = .ok (.new 30, 3) := by decide +kernel
theorem dX9_init_41 : decode cX9_init 41 = .ok (.dup, 1) := by decide +kernel
theorem dX9_init_42 : decode cX9_init 42 = .ok (.aload_n 0, 1) := by decide +kernel
theorem dX9_init_43 : decode cX9_init 43 = .ok (.getfield 19, 3) := by decide +kernel
theorem dX9_init_46 : decode cX9_init 46 = .ok (.aload_n 0, 1) := by decide +kernel
theorem dX9_init_47 : decode cX9_init 47 = .ok (.getfield 26, 3) := by decide +kernel
theorem dX9_init_50 : decode cX9_init 50 = .ok (.invokespecial 32, 3) := by decide +kernel
theorem dX9_init_53 : decode cX9_init 53 = .ok (.putfield 35, 3) := by decide +kernel
theorem dX9_init_56 : decode cX9_init 56 = .ok (.aload_n 0, 1) := by decide +kernel
theorem dX9_init_57 : decode cX9_init 57 = .ok (.new 39, 3) := by decide +kernel
theorem dX9_init_60 : decode cX9_init 60 = .ok (.dup, 1) := by decide +kernel
theorem dX9_init_61 : decode cX9_init 61 = .ok (.aload_n 0, 1) := by decide +kernel
theorem dX9_init_62 : decode cX9_init 62 = .ok (.getfield 19, 3) := by decide +kernel
theorem dX9_init_65 : decode cX9_init 65 = .ok (.aload_n 0, 1) := by decide +kernel
theorem dX9_init_66 : decode cX9_init 66 = .ok (.getfield 26, 3) := by decide +kernel
theorem dX9_init_69 : decode cX9_init 69 = .ok (.aload_n 0, 1) := by decide +kernel
theorem dX9_init_70 : decode cX9_init 70 = .ok (.getfield 35, 3) := by decide +kernel
theorem dX9_init_73 : decode cX9_init 73 = .ok (.invokespecial 41, 3) := by decide +kernel
theorem dX9_init_76 : decode cX9_init 76 = .ok (.putfield 44, 3) := by decide +kernel
theorem dX9_init_79 : decode cX9_init 79 = .ok (.aload_n 0, 1) := by decide +kernel
theorem dX9_init_80 : decode cX9_init 80 = .ok (.new 48, 3) := by decide +kernel
theorem dX9_init_83 : decode cX9_init 83 = .ok (.dup, 1) := by decide +kernel
theorem dX9_init_84 : decode cX9_init 84 = .ok (.aload_n 0, 1) := by decide +kernel
theorem dX9_init_85 : decode cX9_init 85 = .ok (.getfield 26, 3) := by decide +kernel
theorem dX9_init_88 : decode cX9_init 88 = .ok (.aload_n 0, 1) := by decide +kernel
theorem dX9_init_89 : decode cX9_init 89 = .ok (.getfield 44, 3) := by decide +kernel
theorem dX9_init_92 : decode cX9_init 92 = .ok (.invokespecial 50, 3) := by decide +kernel
theorem dX9_init_95 : decode cX9_init 95 = .ok (.putfield 53, 3) := by decide +kernel
theorem dX9_init_98 : decode cX9_init 98 = .ok (.aload_n 0, 1) := by decide +kernel
theorem dX9_init_99 : decode cX9_init 99 = .ok (.new 57, 3) := by decide +kernel
theorem dX9_init_102 : decode cX9_init 102 = .ok (.dup, 1) := by decide +kernel
theorem dX9_init_103 : decode cX9_init 103 = .ok (.aload_n 0, 1) := by decide +kernel
theorem dX9_init_104 : decode cX9_init 104 = .ok (.getfield 19, 3) := by decide +kernel
theorem dX9_init_107 : decode cX9_init 107 = .ok (.aload_n 0, 1) := by decide +kernel
theorem dX9_init_108 : decode cX9_init 108 = .ok (.getfield 26, 3) := by decide +kernel
theorem dX9_init_111 : decode cX9_init 111 = .ok (.aload_n 0, 1) := by decide +kernel
theorem dX9_init_112 : decode cX9_init 112 = .ok (.getfield 44, 3) := by decide +kernel
theorem dX9_init_115 : decode cX9_init 115 = .ok (.invokespecial 59, 3) := by decide +kernel
theorem dX9_init_118 : decode cX9_init 118 = .ok (.putfield 62, 3) := by decide +kernel
theorem dX9_init_121 : decode cX9_init 121 = .ok (.aload_n 0, 1) := by decide +kernel
theorem dX9_init_122 : decode cX9_init 122 = .ok (.new 66, 3) := by decide +kernel
theorem dX9_init_125 : decode cX9_init 125 = .ok (.dup, 1) := by decide +kernel
theorem dX9_init_126 : decode cX9_init 126 = .ok (.aload_n 0, 1) := by decide +kernel
theorem dX9_init_127 : decode cX9_init 127 = .ok (.getfield 19, 3) := by decide +kernel
theorem dX9_init_130 : decode cX9_init 130 = .ok (.aload_n 0, 1) := by decide +kernel
theorem dX9_init_131 : decode cX9_init 131 = .ok (.getfield 62, 3) := by decide +kernel
theorem dX9_init_134 : decode cX9_init 134 = .ok (.invokespecial 68, 3) := by decide +kernel
theorem dX9_init_137 : decode cX9_init 137 = .ok (.putfield 71, 3) := by decide +kernel
theorem dX9_init_140 : decode cX9_init 140 = .ok (.aload_n 0, 1) := by decide +kernel
theorem dX9_init_141 : decode cX9_init 141 = .ok (.new 75, 3) := by decide +kernel
theorem dX9_init_144 : decode cX9_init 144 = .ok (.dup, 1) := by decide +kernel
theorem dX9_init_145 : decode cX9_init 145 = .ok (.aload_n 0, 1) := by decide +kernel
theorem dX9_init_146 : decode cX9_init 146 = .ok (.getfield 26, 3) := by decide +kernel
theorem dX9_init_149 : decode cX9_init 149 = .ok (.invokespecial 77, 3) := by decide +kernel
theorem dX9_init_152 : decode cX9_init 152 = .ok (.putfield 80, 3) := by decide +kernel
theorem dX9_init_155 : decode cX9_init 155 = .ok (.return_, 1) := by decide +kernel
theorem dX9_write_0 : decode cX9_write 0 = .ok (.iload_n 3, 1) := by decide +kernel
theorem dX9_write_1 : decode cX9_write 1 = .ok (.iconst 1, 1) := by decide +kernel
theorem dX9_write_2 : decode cX9_write 2 = .ok (.bipush 8, 2) := by decide +kernel
theorem dX9_write_4 : decode cX9_write 4 = .ok (.invokestatic 84, 3) := by decide +kernel
theorem dX9_write_7 : decode cX9_write 7 = .ok (.ifCond .ne 6, 3) := by decide +kernel
theorem dX9_write_10 : decode cX9_write 10 = .ok (.bipush (-3), 2) := by decide +kernel
theorem dX9_write_12 : decode cX9_write 12 = .ok (.ireturn, 1) := by decide +kernel
theorem dX9_write_13 : decode cX9_write 13 = .ok (.aload_n 0, 1) := by decide +kernel
theorem dX9_write_14 : decode cX9_write 14 = .ok (.getfield 12, 3) := by decide +kernel
theorem dX9_write_17 : decode cX9_write 17 = .ok (.iload_n 3, 1) := by decide +kernel
theorem dX9_write_18 : decode cX9_write 18 = .ok (.invokevirtual 88, 3) := by decide +kernel
theorem dX9_write_21 : decode cX9_write 21 = .ok (.ifCond .eq 15, 3) := by decide +kernel
theorem dX9_write_24 : decode cX9_write 24 = .ok (.aload_n 0, 1) := by decide +kernel
theorem dX9_write_25 : decode cX9_write 25 = .ok (.getfield 12, 3) := by decide +kernel
theorem dX9_write_28 : decode cX9_write 28 = .ok (.lload_n 1, 1) := by decide +kernel
theorem dX9_write_29 : decode cX9_write 29 = .ok (.iload_n 3, 1) := by decide +kernel
theorem dX9_write_30 : decode cX9_write 30 = .ok (.invokevirtual 92, 3) := by decide +kernel
theorem dX9_write_33 : decode cX9_write 33 = .ok (.goto 5, 3) := by decide +kernel
theorem dX9_write_36 : decode cX9_write 36 = .ok (.bipush (-5), 2) := by decide +kernel
theorem dX9_write_38 : decode cX9_write 38 = .ok (.ireturn, 1) := by decide +kernel
theorem dX9_erase_0 : decode cX9_erase 0 = .ok (.aload_n 0, 1) := by decide +kernel
theorem dX9_erase_1 : decode cX9_erase 1 = .ok (.getfield 12, 3) := by decide +kernel
theorem dX9_erase_4 : decode cX9_erase 4 = .ok (.invokevirtual 96, 3) := by decide +kernel
theorem dX9_erase_7 : decode cX9_erase 7 = .ok (.ireturn, 1) := by decide +kernel
theorem dX9_fault_0 : decode cX9_fault 0 = .ok (.aload_n 0, 1) := by decide +kernel
theorem dX9_fault_1 : decode cX9_fault 1 = .ok (.getfield 12, 3) := by decide +kernel
theorem dX9_fault_4 : decode cX9_fault 4 = .ok (.invokevirtual 100, 3) := by decide +kernel
theorem dX9_fault_7 : decode cX9_fault 7 = .ok (.ireturn, 1) := by decide +kernel
theorem dX9_land_0 : decode cX9_land 0 = .ok (.aload_n 0, 1) := by decide +kernel
theorem dX9_land_1 : decode cX9_land 1 = .ok (.getfield 12, 3) := by decide +kernel
theorem dX9_land_4 : decode cX9_land 4 = .ok (.invokevirtual 100, 3) := by decide +kernel
theorem dX9_land_7 : decode cX9_land 7 = .ok (.iconst (-1), 1) := by decide +kernel
theorem dX9_land_8 : decode cX9_land 8 = .ok (.if_icmp .eq 6, 3) := by decide +kernel
theorem dX9_land_11 : decode cX9_land 11 = .ok (.bipush (-4), 2) := by decide +kernel
theorem dX9_land_13 : decode cX9_land 13 = .ok (.ireturn, 1) := by decide +kernel
theorem dX9_land_14 : decode cX9_land 14 = .ok (.aload_n 0, 1) := by decide +kernel
theorem dX9_land_15 : decode cX9_land 15 = .ok (.getfield 12, 3) := by decide +kernel
theorem dX9_land_18 : decode cX9_land 18 = .ok (.getfield 103, 3) := by decide +kernel
theorem dX9_land_21 : decode cX9_land 21 = .ok (.istore_n 1, 1) := by decide +kernel
theorem dX9_land_22 : decode cX9_land 22 = .ok (.iconst 0, 1) := by decide +kernel
theorem dX9_land_23 : decode cX9_land 23 = .ok (.istore_n 2, 1) := by decide +kernel
theorem dX9_land_24 : decode cX9_land 24 = .ok (.iload_n 2, 1) := by decide +kernel
theorem dX9_land_25 : decode cX9_land 25 = .ok (.iload_n 1, 1) := by decide +kernel
theorem dX9_land_26 : decode cX9_land 26 = .ok (.if_icmp .ge 27, 3) := by decide +kernel
theorem dX9_land_29 : decode cX9_land 29 = .ok (.aload_n 0, 1) := by decide +kernel
theorem dX9_land_30 : decode cX9_land 30 = .ok (.getfield 19, 3) := by decide +kernel
theorem dX9_land_33 : decode cX9_land 33 = .ok (.aload_n 0, 1) := by decide +kernel
theorem dX9_land_34 : decode cX9_land 34 = .ok (.getfield 12, 3) := by decide +kernel
theorem dX9_land_37 : decode cX9_land 37 = .ok (.getfield 107, 3) := by decide +kernel
theorem dX9_land_40 : decode cX9_land 40 = .ok (.iload_n 2, 1) := by decide +kernel
theorem dX9_land_41 : decode cX9_land 41 = .ok (.bipush 8, 2) := by decide +kernel
theorem dX9_land_43 : decode cX9_land 43 = .ok (.imul, 1) := by decide +kernel
theorem dX9_land_44 : decode cX9_land 44 = .ok (.invokevirtual 111, 3) := by decide +kernel
theorem dX9_land_47 : decode cX9_land 47 = .ok (.iinc 2 1, 3) := by decide +kernel
theorem dX9_land_50 : decode cX9_land 50 = .ok (.goto (-26), 3) := by decide +kernel
theorem dX9_land_53 : decode cX9_land 53 = .ok (.aload_n 0, 1) := by decide +kernel
theorem dX9_land_54 : decode cX9_land 54 = .ok (.getfield 12, 3) := by decide +kernel
theorem dX9_land_57 : decode cX9_land 57 = .ok (.invokevirtual 96, 3) := by decide +kernel
theorem dX9_land_60 : decode cX9_land 60 = .ok (.pop, 1) := by decide +kernel
theorem dX9_land_61 : decode cX9_land 61 = .ok (.iload_n 1, 1) := by decide +kernel
theorem dX9_land_62 : decode cX9_land 62 = .ok (.ireturn, 1) := by decide +kernel
theorem dX9_place_0 : decode cX9_place 0 = .ok (.iload_n 1, 1) := by decide +kernel
theorem dX9_place_1 : decode cX9_place 1 = .ok (.invokestatic 115, 3) := by decide +kernel
theorem dX9_place_4 : decode cX9_place 4 = .ok (.ifCond .ne 6, 3) := by decide +kernel
theorem dX9_place_7 : decode cX9_place 7 = .ok (.bipush (-2), 2) := by decide +kernel
theorem dX9_place_9 : decode cX9_place 9 = .ok (.ireturn, 1) := by decide +kernel
theorem dX9_place_10 : decode cX9_place 10 = .ok (.iload_n 2, 1) := by decide +kernel
theorem dX9_place_11 : decode cX9_place 11 = .ok (.tableswitch 55 0 2 #[25, 35, 45], 25) := by decide +kernel
theorem dX9_place_36 : decode cX9_place 36 = .ok (.aload_n 0, 1) := by decide +kernel
theorem dX9_place_37 : decode cX9_place 37 = .ok (.getfield 19, 3) := by decide +kernel
theorem dX9_place_40 : decode cX9_place 40 = .ok (.getfield 118, 3) := by decide +kernel
theorem dX9_place_43 : decode cX9_place 43 = .ok (.iload_n 1, 1) := by decide +kernel
theorem dX9_place_44 : decode cX9_place 44 = .ok (.iaload, 1) := by decide +kernel
theorem dX9_place_45 : decode cX9_place 45 = .ok (.ireturn, 1) := by decide +kernel
theorem dX9_place_46 : decode cX9_place 46 = .ok (.aload_n 0, 1) := by decide +kernel
theorem dX9_place_47 : decode cX9_place 47 = .ok (.getfield 19, 3) := by decide +kernel
theorem dX9_place_50 : decode cX9_place 50 = .ok (.getfield 121, 3) := by decide +kernel
theorem dX9_place_53 : decode cX9_place 53 = .ok (.iload_n 1, 1) := by decide +kernel
theorem dX9_place_54 : decode cX9_place 54 = .ok (.iaload, 1) := by decide +kernel
theorem dX9_place_55 : decode cX9_place 55 = .ok (.ireturn, 1) := by decide +kernel
theorem dX9_place_56 : decode cX9_place 56 = .ok (.aload_n 0, 1) := by decide +kernel
theorem dX9_place_57 : decode cX9_place 57 = .ok (.getfield 19, 3) := by decide +kernel
theorem dX9_place_60 : decode cX9_place 60 = .ok (.getfield 124, 3) := by decide +kernel
theorem dX9_place_63 : decode cX9_place 63 = .ok (.iload_n 1, 1) := by decide +kernel
theorem dX9_place_64 : decode cX9_place 64 = .ok (.iaload, 1) := by decide +kernel
theorem dX9_place_65 : decode cX9_place 65 = .ok (.ireturn, 1) := by decide +kernel
theorem dX9_place_66 : decode cX9_place 66 = .ok (.bipush (-3), 2) := by decide +kernel
theorem dX9_place_68 : decode cX9_place 68 = .ok (.ireturn, 1) := by decide +kernel
theorem dX9_flow_0 : decode cX9_flow 0 = .ok (.aload_n 0, 1) := by decide +kernel
theorem dX9_flow_1 : decode cX9_flow 1 = .ok (.getfield 19, 3) := by decide +kernel
theorem dX9_flow_4 : decode cX9_flow 4 = .ok (.iload_n 1, 1) := by decide +kernel
theorem dX9_flow_5 : decode cX9_flow 5 = .ok (.invokevirtual 127, 3) := by decide +kernel
theorem dX9_flow_8 : decode cX9_flow 8 = .ok (.ifCond .ne 6, 3) := by decide +kernel
theorem dX9_flow_11 : decode cX9_flow 11 = .ok (.bipush (-2), 2) := by decide +kernel
theorem dX9_flow_13 : decode cX9_flow 13 = .ok (.ireturn, 1) := by decide +kernel
theorem dX9_flow_14 : decode cX9_flow 14 = .ok (.iload_n 2, 1) := by decide +kernel
theorem dX9_flow_15 : decode cX9_flow 15 = .ok (.tableswitch 83 0 5 #[37, 47, 57, 57, 57, 73], 37) := by decide +kernel
theorem dX9_flow_52 : decode cX9_flow 52 = .ok (.aload_n 0, 1) := by decide +kernel
theorem dX9_flow_53 : decode cX9_flow 53 = .ok (.getfield 19, 3) := by decide +kernel
theorem dX9_flow_56 : decode cX9_flow 56 = .ok (.getfield 130, 3) := by decide +kernel
theorem dX9_flow_59 : decode cX9_flow 59 = .ok (.iload_n 1, 1) := by decide +kernel
theorem dX9_flow_60 : decode cX9_flow 60 = .ok (.iaload, 1) := by decide +kernel
theorem dX9_flow_61 : decode cX9_flow 61 = .ok (.ireturn, 1) := by decide +kernel
theorem dX9_flow_62 : decode cX9_flow 62 = .ok (.aload_n 0, 1) := by decide +kernel
theorem dX9_flow_63 : decode cX9_flow 63 = .ok (.getfield 19, 3) := by decide +kernel
theorem dX9_flow_66 : decode cX9_flow 66 = .ok (.getfield 133, 3) := by decide +kernel
theorem dX9_flow_69 : decode cX9_flow 69 = .ok (.iload_n 1, 1) := by decide +kernel
theorem dX9_flow_70 : decode cX9_flow 70 = .ok (.iaload, 1) := by decide +kernel
theorem dX9_flow_71 : decode cX9_flow 71 = .ok (.ireturn, 1) := by decide +kernel
theorem dX9_flow_72 : decode cX9_flow 72 = .ok (.aload_n 0, 1) := by decide +kernel
theorem dX9_flow_73 : decode cX9_flow 73 = .ok (.getfield 19, 3) := by decide +kernel
theorem dX9_flow_76 : decode cX9_flow 76 = .ok (.getfield 136, 3) := by decide +kernel
theorem dX9_flow_79 : decode cX9_flow 79 = .ok (.iload_n 1, 1) := by decide +kernel
theorem dX9_flow_80 : decode cX9_flow 80 = .ok (.iconst 3, 1) := by decide +kernel
theorem dX9_flow_81 : decode cX9_flow 81 = .ok (.imul, 1) := by decide +kernel
theorem dX9_flow_82 : decode cX9_flow 82 = .ok (.iload_n 2, 1) := by decide +kernel
theorem dX9_flow_83 : decode cX9_flow 83 = .ok (.iadd, 1) := by decide +kernel
theorem dX9_flow_84 : decode cX9_flow 84 = .ok (.iconst 2, 1) := by decide +kernel
theorem dX9_flow_85 : decode cX9_flow 85 = .ok (.isub, 1) := by decide +kernel
theorem dX9_flow_86 : decode cX9_flow 86 = .ok (.iaload, 1) := by decide +kernel
theorem dX9_flow_87 : decode cX9_flow 87 = .ok (.ireturn, 1) := by decide +kernel
theorem dX9_flow_88 : decode cX9_flow 88 = .ok (.aload_n 0, 1) := by decide +kernel
theorem dX9_flow_89 : decode cX9_flow 89 = .ok (.getfield 19, 3) := by decide +kernel
theorem dX9_flow_92 : decode cX9_flow 92 = .ok (.getfield 139, 3) := by decide +kernel
theorem dX9_flow_95 : decode cX9_flow 95 = .ok (.iload_n 1, 1) := by decide +kernel
theorem dX9_flow_96 : decode cX9_flow 96 = .ok (.iaload, 1) := by decide +kernel
theorem dX9_flow_97 : decode cX9_flow 97 = .ok (.ireturn, 1) := by decide +kernel
theorem dX9_flow_98 : decode cX9_flow 98 = .ok (.bipush (-3), 2) := by decide +kernel
theorem dX9_flow_100 : decode cX9_flow 100 = .ok (.ireturn, 1) := by decide +kernel
theorem dX9_way_0 : decode cX9_way 0 = .ok (.iload_n 1, 1) := by decide +kernel
theorem dX9_way_1 : decode cX9_way 1 = .ok (.invokestatic 115, 3) := by decide +kernel
theorem dX9_way_4 : decode cX9_way 4 = .ok (.ifCond .eq 15, 3) := by decide +kernel
theorem dX9_way_7 : decode cX9_way 7 = .ok (.iload_n 2, 1) := by decide +kernel
theorem dX9_way_8 : decode cX9_way 8 = .ok (.invokestatic 115, 3) := by decide +kernel
theorem dX9_way_11 : decode cX9_way 11 = .ok (.ifCond .eq 8, 3) := by decide +kernel
theorem dX9_way_14 : decode cX9_way 14 = .ok (.iload_n 1, 1) := by decide +kernel
theorem dX9_way_15 : decode cX9_way 15 = .ok (.iload_n 2, 1) := by decide +kernel
theorem dX9_way_16 : decode cX9_way 16 = .ok (.if_icmp .ne 6, 3) := by decide +kernel
theorem dX9_way_19 : decode cX9_way 19 = .ok (.bipush (-2), 2) := by decide +kernel
theorem dX9_way_21 : decode cX9_way 21 = .ok (.ireturn, 1) := by decide +kernel
theorem dX9_way_22 : decode cX9_way 22 = .ok (.iload_n 3, 1) := by decide +kernel
theorem dX9_way_23 : decode cX9_way 23 = .ok (.lookupswitch 55 #[(0, 25), (1, 40)], 25) := by decide +kernel
theorem dX9_way_48 : decode cX9_way 48 = .ok (.aload_n 0, 1) := by decide +kernel
theorem dX9_way_49 : decode cX9_way 49 = .ok (.getfield 19, 3) := by decide +kernel
theorem dX9_way_52 : decode cX9_way 52 = .ok (.getfield 142, 3) := by decide +kernel
theorem dX9_way_55 : decode cX9_way 55 = .ok (.iload_n 1, 1) := by decide +kernel
theorem dX9_way_56 : decode cX9_way 56 = .ok (.bipush 10, 2) := by decide +kernel
theorem dX9_way_58 : decode cX9_way 58 = .ok (.imul, 1) := by decide +kernel
theorem dX9_way_59 : decode cX9_way 59 = .ok (.iload_n 2, 1) := by decide +kernel
theorem dX9_way_60 : decode cX9_way 60 = .ok (.iadd, 1) := by decide +kernel
theorem dX9_way_61 : decode cX9_way 61 = .ok (.iaload, 1) := by decide +kernel
theorem dX9_way_62 : decode cX9_way 62 = .ok (.ireturn, 1) := by decide +kernel
theorem dX9_way_63 : decode cX9_way 63 = .ok (.aload_n 0, 1) := by decide +kernel
theorem dX9_way_64 : decode cX9_way 64 = .ok (.getfield 19, 3) := by decide +kernel
theorem dX9_way_67 : decode cX9_way 67 = .ok (.getfield 145, 3) := by decide +kernel
theorem dX9_way_70 : decode cX9_way 70 = .ok (.iload_n 1, 1) := by decide +kernel
theorem dX9_way_71 : decode cX9_way 71 = .ok (.bipush 10, 2) := by decide +kernel
theorem dX9_way_73 : decode cX9_way 73 = .ok (.imul, 1) := by decide +kernel
theorem dX9_way_74 : decode cX9_way 74 = .ok (.iload_n 2, 1) := by decide +kernel
theorem dX9_way_75 : decode cX9_way 75 = .ok (.iadd, 1) := by decide +kernel
theorem dX9_way_76 : decode cX9_way 76 = .ok (.iaload, 1) := by decide +kernel
theorem dX9_way_77 : decode cX9_way 77 = .ok (.ireturn, 1) := by decide +kernel
theorem dX9_way_78 : decode cX9_way 78 = .ok (.bipush (-3), 2) := by decide +kernel
theorem dX9_way_80 : decode cX9_way 80 = .ok (.ireturn, 1) := by decide +kernel
theorem dX9_blade_0 : decode cX9_blade 0 = .ok (.iload_n 1, 1) := by decide +kernel
theorem dX9_blade_1 : decode cX9_blade 1 = .ok (.invokestatic 115, 3) := by decide +kernel
theorem dX9_blade_4 : decode cX9_blade 4 = .ok (.ifCond .ne 6, 3) := by decide +kernel
theorem dX9_blade_7 : decode cX9_blade 7 = .ok (.bipush (-2), 2) := by decide +kernel
theorem dX9_blade_9 : decode cX9_blade 9 = .ok (.ireturn, 1) := by decide +kernel
theorem dX9_blade_10 : decode cX9_blade 10 = .ok (.iload_n 2, 1) := by decide +kernel
theorem dX9_blade_11 : decode cX9_blade 11 = .ok (.iload_n 3, 1) := by decide +kernel
theorem dX9_blade_12 : decode cX9_blade 12 = .ok (.invokestatic 148, 3) := by decide +kernel
theorem dX9_blade_15 : decode cX9_blade 15 = .ok (.ifCond .eq 26, 3) := by decide +kernel
theorem dX9_blade_18 : decode cX9_blade 18 = .ok (.iload 4, 2) := by decide +kernel
theorem dX9_blade_20 : decode cX9_blade 20 = .ok (.iconst 1, 1) := by decide +kernel
theorem dX9_blade_21 : decode cX9_blade 21 = .ok (.sipush 999, 3) := by decide +kernel
theorem dX9_blade_24 : decode cX9_blade 24 = .ok (.invokestatic 84, 3) := by decide +kernel
theorem dX9_blade_27 : decode cX9_blade 27 = .ok (.ifCond .eq 14, 3) := by decide +kernel
theorem dX9_blade_30 : decode cX9_blade 30 = .ok (.iload 5, 2) := by decide +kernel
theorem dX9_blade_32 : decode cX9_blade 32 = .ok (.iconst 0, 1) := by decide +kernel
theorem dX9_blade_33 : decode cX9_blade 33 = .ok (.bipush 99, 2) := by decide +kernel
theorem dX9_blade_35 : decode cX9_blade 35 = .ok (.invokestatic 84, 3) := by decide +kernel
theorem dX9_blade_38 : decode cX9_blade 38 = .ok (.ifCond .ne 6, 3) := by decide +kernel
theorem dX9_blade_41 : decode cX9_blade 41 = .ok (.bipush (-3), 2) := by decide +kernel
theorem dX9_blade_43 : decode cX9_blade 43 = .ok (.ireturn, 1) := by decide +kernel
theorem dX9_blade_44 : decode cX9_blade 44 = .ok (.aload_n 0, 1) := by decide +kernel
theorem dX9_blade_45 : decode cX9_blade 45 = .ok (.getfield 26, 3) := by decide +kernel
theorem dX9_blade_48 : decode cX9_blade 48 = .ok (.getfield 152, 3) := by decide +kernel
theorem dX9_blade_51 : decode cX9_blade 51 = .ok (.bipush 12, 2) := by decide +kernel
theorem dX9_blade_53 : decode cX9_blade 53 = .ok (.if_icmp .lt 6, 3) := by decide +kernel
theorem dX9_blade_56 : decode cX9_blade 56 = .ok (.bipush (-5), 2) := by decide +kernel
theorem dX9_blade_58 : decode cX9_blade 58 = .ok (.ireturn, 1) := by decide +kernel
theorem dX9_blade_59 : decode cX9_blade 59 = .ok (.aload_n 0, 1) := by decide +kernel
theorem dX9_blade_60 : decode cX9_blade 60 = .ok (.getfield 26, 3) := by decide +kernel
theorem dX9_blade_63 : decode cX9_blade 63 = .ok (.iload_n 1, 1) := by decide +kernel
theorem dX9_blade_64 : decode cX9_blade 64 = .ok (.iload 4, 2) := by decide +kernel
theorem dX9_blade_66 : decode cX9_blade 66 = .ok (.iload 5, 2) := by decide +kernel
theorem dX9_blade_68 : decode cX9_blade 68 = .ok (.invokevirtual 155, 3) := by decide +kernel
theorem dX9_blade_71 : decode cX9_blade 71 = .ok (.istore 6, 2) := by decide +kernel
theorem dX9_blade_73 : decode cX9_blade 73 = .ok (.aload_n 0, 1) := by decide +kernel
theorem dX9_blade_74 : decode cX9_blade 74 = .ok (.getfield 26, 3) := by decide +kernel
theorem dX9_blade_77 : decode cX9_blade 77 = .ok (.iload 6, 2) := by decide +kernel
theorem dX9_blade_79 : decode cX9_blade 79 = .ok (.iload_n 2, 1) := by decide +kernel
theorem dX9_blade_80 : decode cX9_blade 80 = .ok (.iload_n 3, 1) := by decide +kernel
theorem dX9_blade_81 : decode cX9_blade 81 = .ok (.invokevirtual 159, 3) := by decide +kernel
theorem dX9_blade_84 : decode cX9_blade 84 = .ok (.iload 6, 2) := by decide +kernel
theorem dX9_blade_86 : decode cX9_blade 86 = .ok (.ireturn, 1) := by decide +kernel
theorem dX9_rim_0 : decode cX9_rim 0 = .ok (.aload_n 0, 1) := by decide +kernel
theorem dX9_rim_1 : decode cX9_rim 1 = .ok (.getfield 26, 3) := by decide +kernel
theorem dX9_rim_4 : decode cX9_rim 4 = .ok (.iload_n 1, 1) := by decide +kernel
theorem dX9_rim_5 : decode cX9_rim 5 = .ok (.invokevirtual 163, 3) := by decide +kernel
theorem dX9_rim_8 : decode cX9_rim 8 = .ok (.ifCond .ne 6, 3) := by decide +kernel
theorem dX9_rim_11 : decode cX9_rim 11 = .ok (.bipush (-2), 2) := by decide +kernel
theorem dX9_rim_13 : decode cX9_rim 13 = .ok (.ireturn, 1) := by decide +kernel
theorem dX9_rim_14 : decode cX9_rim 14 = .ok (.iload_n 3, 1) := by decide +kernel
theorem dX9_rim_15 : decode cX9_rim 15 = .ok (.ifCond .eq 14, 3) := by decide +kernel
theorem dX9_rim_18 : decode cX9_rim 18 = .ok (.iload_n 3, 1) := by decide +kernel
theorem dX9_rim_19 : decode cX9_rim 19 = .ok (.iconst 1, 1) := by decide +kernel
theorem dX9_rim_20 : decode cX9_rim 20 = .ok (.iload_n 2, 1) := by decide +kernel
theorem dX9_rim_21 : decode cX9_rim 21 = .ok (.iconst 1, 1) := by decide +kernel
theorem dX9_rim_22 : decode cX9_rim 22 = .ok (.isub, 1) := by decide +kernel
theorem dX9_rim_23 : decode cX9_rim 23 = .ok (.invokestatic 84, 3) := by decide +kernel
theorem dX9_rim_26 : decode cX9_rim 26 = .ok (.ifCond .eq 7, 3) := by decide +kernel
theorem dX9_rim_29 : decode cX9_rim 29 = .ok (.iconst 1, 1) := by decide +kernel
theorem dX9_rim_30 : decode cX9_rim 30 = .ok (.goto 4, 3) := by decide +kernel
theorem dX9_rim_33 : decode cX9_rim 33 = .ok (.iconst 0, 1) := by decide +kernel
theorem dX9_rim_34 : decode cX9_rim 34 = .ok (.istore 4, 2) := by decide +kernel
theorem dX9_rim_36 : decode cX9_rim 36 = .ok (.iload_n 2, 1) := by decide +kernel
theorem dX9_rim_37 : decode cX9_rim 37 = .ok (.iconst 0, 1) := by decide +kernel
theorem dX9_rim_38 : decode cX9_rim 38 = .ok (.sipush 999, 3) := by decide +kernel
theorem dX9_rim_41 : decode cX9_rim 41 = .ok (.invokestatic 84, 3) := by decide +kernel
theorem dX9_rim_44 : decode cX9_rim 44 = .ok (.ifCond .eq 8, 3) := by decide +kernel
theorem dX9_rim_47 : decode cX9_rim 47 = .ok (.iload 4, 2) := by decide +kernel
theorem dX9_rim_49 : decode cX9_rim 49 = .ok (.ifCond .ne 6, 3) := by decide +kernel
theorem dX9_rim_52 : decode cX9_rim 52 = .ok (.bipush (-3), 2) := by decide +kernel
theorem dX9_rim_54 : decode cX9_rim 54 = .ok (.ireturn, 1) := by decide +kernel
theorem dX9_rim_55 : decode cX9_rim 55 = .ok (.aload_n 0, 1) := by decide +kernel
theorem dX9_rim_56 : decode cX9_rim 56 = .ok (.getfield 26, 3) := by decide +kernel
theorem dX9_rim_59 : decode cX9_rim 59 = .ok (.getfield 166, 3) := by decide +kernel
theorem dX9_rim_62 : decode cX9_rim 62 = .ok (.iload_n 1, 1) := by decide +kernel
theorem dX9_rim_63 : decode cX9_rim 63 = .ok (.iload_n 2, 1) := by decide +kernel
theorem dX9_rim_64 : decode cX9_rim 64 = .ok (.iastore, 1) := by decide +kernel
theorem dX9_rim_65 : decode cX9_rim 65 = .ok (.aload_n 0, 1) := by decide +kernel
theorem dX9_rim_66 : decode cX9_rim 66 = .ok (.getfield 26, 3) := by decide +kernel
theorem dX9_rim_69 : decode cX9_rim 69 = .ok (.getfield 169, 3) := by decide +kernel
theorem dX9_rim_72 : decode cX9_rim 72 = .ok (.iload_n 1, 1) := by decide +kernel
theorem dX9_rim_73 : decode cX9_rim 73 = .ok (.iload_n 3, 1) := by decide +kernel
theorem dX9_rim_74 : decode cX9_rim 74 = .ok (.iastore, 1) := by decide +kernel
theorem dX9_rim_75 : decode cX9_rim 75 = .ok (.iconst 1, 1) := by decide +kernel
theorem dX9_rim_76 : decode cX9_rim 76 = .ok (.ireturn, 1) := by decide +kernel
theorem dX9_measure_0 : decode cX9_measure 0 = .ok (.aload_n 0, 1) := by decide +kernel
theorem dX9_measure_1 : decode cX9_measure 1 = .ok (.getfield 26, 3) := by decide +kernel
theorem dX9_measure_4 : decode cX9_measure 4 = .ok (.iload_n 1, 1) := by decide +kernel
theorem dX9_measure_5 : decode cX9_measure 5 = .ok (.invokevirtual 163, 3) := by decide +kernel
theorem dX9_measure_8 : decode cX9_measure 8 = .ok (.ifCond .ne 6, 3) := by decide +kernel
theorem dX9_measure_11 : decode cX9_measure 11 = .ok (.bipush (-2), 2) := by decide +kernel
theorem dX9_measure_13 : decode cX9_measure 13 = .ok (.ireturn, 1) := by decide +kernel
theorem dX9_measure_14 : decode cX9_measure 14 = .ok (.iload_n 2, 1) := by decide +kernel
theorem dX9_measure_15 : decode cX9_measure 15 = .ok (.iload_n 3, 1) := by decide +kernel
theorem dX9_measure_16 : decode cX9_measure 16 = .ok (.invokestatic 148, 3) := by decide +kernel
theorem dX9_measure_19 : decode cX9_measure 19 = .ok (.ifCond .ne 6, 3) := by decide +kernel
theorem dX9_measure_22 : decode cX9_measure 22 = .ok (.bipush (-3), 2) := by decide +kernel
theorem dX9_measure_24 : decode cX9_measure 24 = .ok (.ireturn, 1) := by decide +kernel
theorem dX9_measure_25 : decode cX9_measure 25 = .ok (.aload_n 0, 1) := by decide +kernel
theorem dX9_measure_26 : decode cX9_measure 26 = .ok (.getfield 26, 3) := by decide +kernel
theorem dX9_measure_29 : decode cX9_measure 29 = .ok (.getfield 172, 3) := by decide +kernel
theorem dX9_measure_32 : decode cX9_measure 32 = .ok (.iload_n 1, 1) := by decide +kernel
theorem dX9_measure_33 : decode cX9_measure 33 = .ok (.iaload, 1) := by decide +kernel
theorem dX9_measure_34 : decode cX9_measure 34 = .ok (.istore 4, 2) := by decide +kernel
theorem dX9_measure_36 : decode cX9_measure 36 = .ok (.aload_n 0, 1) := by decide +kernel
theorem dX9_measure_37 : decode cX9_measure 37 = .ok (.getfield 26, 3) := by decide +kernel
theorem dX9_measure_40 : decode cX9_measure 40 = .ok (.iload_n 1, 1) := by decide +kernel
theorem dX9_measure_41 : decode cX9_measure 41 = .ok (.iload_n 2, 1) := by decide +kernel
theorem dX9_measure_42 : decode cX9_measure 42 = .ok (.iload_n 3, 1) := by decide +kernel
theorem dX9_measure_43 : decode cX9_measure 43 = .ok (.invokevirtual 159, 3) := by decide +kernel
theorem dX9_measure_46 : decode cX9_measure 46 = .ok (.iload 4, 2) := by decide +kernel
theorem dX9_measure_48 : decode cX9_measure 48 = .ok (.ireturn, 1) := by decide +kernel
theorem dX9_of_0 : decode cX9_of 0 = .ok (.aload_n 0, 1) := by decide +kernel
theorem dX9_of_1 : decode cX9_of 1 = .ok (.getfield 26, 3) := by decide +kernel
theorem dX9_of_4 : decode cX9_of 4 = .ok (.iload_n 1, 1) := by decide +kernel
theorem dX9_of_5 : decode cX9_of 5 = .ok (.invokevirtual 163, 3) := by decide +kernel
theorem dX9_of_8 : decode cX9_of 8 = .ok (.ifCond .ne 6, 3) := by decide +kernel
theorem dX9_of_11 : decode cX9_of 11 = .ok (.bipush (-2), 2) := by decide +kernel
theorem dX9_of_13 : decode cX9_of 13 = .ok (.ireturn, 1) := by decide +kernel
theorem dX9_of_14 : decode cX9_of 14 = .ok (.iload_n 2, 1) := by decide +kernel
theorem dX9_of_15 : decode cX9_of 15 = .ok (.tableswitch 139 0 9 #[53, 63, 63, 63, 79, 89, 99, 109, 119, 129], 53) := by decide +kernel
theorem dX9_of_68 : decode cX9_of 68 = .ok (.aload_n 0, 1) := by decide +kernel
theorem dX9_of_69 : decode cX9_of 69 = .ok (.getfield 26, 3) := by decide +kernel
theorem dX9_of_72 : decode cX9_of 72 = .ok (.getfield 175, 3) := by decide +kernel
theorem dX9_of_75 : decode cX9_of 75 = .ok (.iload_n 1, 1) := by decide +kernel
theorem dX9_of_76 : decode cX9_of 76 = .ok (.iaload, 1) := by decide +kernel
theorem dX9_of_77 : decode cX9_of 77 = .ok (.ireturn, 1) := by decide +kernel
theorem dX9_of_78 : decode cX9_of 78 = .ok (.aload_n 0, 1) := by decide +kernel
theorem dX9_of_79 : decode cX9_of 79 = .ok (.getfield 26, 3) := by decide +kernel
theorem dX9_of_82 : decode cX9_of 82 = .ok (.getfield 178, 3) := by decide +kernel
theorem dX9_of_85 : decode cX9_of 85 = .ok (.iload_n 1, 1) := by decide +kernel
theorem dX9_of_86 : decode cX9_of 86 = .ok (.iconst 3, 1) := by decide +kernel
theorem dX9_of_87 : decode cX9_of 87 = .ok (.imul, 1) := by decide +kernel
theorem dX9_of_88 : decode cX9_of 88 = .ok (.iload_n 2, 1) := by decide +kernel
theorem dX9_of_89 : decode cX9_of 89 = .ok (.iadd, 1) := by decide +kernel
theorem dX9_of_90 : decode cX9_of 90 = .ok (.iconst 1, 1) := by decide +kernel
theorem dX9_of_91 : decode cX9_of 91 = .ok (.isub, 1) := by decide +kernel
theorem dX9_of_92 : decode cX9_of 92 = .ok (.iaload, 1) := by decide +kernel
theorem dX9_of_93 : decode cX9_of 93 = .ok (.ireturn, 1) := by decide +kernel
theorem dX9_of_94 : decode cX9_of 94 = .ok (.aload_n 0, 1) := by decide +kernel
theorem dX9_of_95 : decode cX9_of 95 = .ok (.getfield 26, 3) := by decide +kernel
theorem dX9_of_98 : decode cX9_of 98 = .ok (.getfield 172, 3) := by decide +kernel
theorem dX9_of_101 : decode cX9_of 101 = .ok (.iload_n 1, 1) := by decide +kernel
theorem dX9_of_102 : decode cX9_of 102 = .ok (.iaload, 1) := by decide +kernel
theorem dX9_of_103 : decode cX9_of 103 = .ok (.ireturn, 1) := by decide +kernel
theorem dX9_of_104 : decode cX9_of 104 = .ok (.aload_n 0, 1) := by decide +kernel
theorem dX9_of_105 : decode cX9_of 105 = .ok (.getfield 26, 3) := by decide +kernel
theorem dX9_of_108 : decode cX9_of 108 = .ok (.getfield 181, 3) := by decide +kernel
theorem dX9_of_111 : decode cX9_of 111 = .ok (.iload_n 1, 1) := by decide +kernel
theorem dX9_of_112 : decode cX9_of 112 = .ok (.iaload, 1) := by decide +kernel
theorem dX9_of_113 : decode cX9_of 113 = .ok (.ireturn, 1) := by decide +kernel
theorem dX9_of_114 : decode cX9_of 114 = .ok (.aload_n 0, 1) := by decide +kernel
theorem dX9_of_115 : decode cX9_of 115 = .ok (.getfield 26, 3) := by decide +kernel
theorem dX9_of_118 : decode cX9_of 118 = .ok (.getfield 184, 3) := by decide +kernel
theorem dX9_of_121 : decode cX9_of 121 = .ok (.iload_n 1, 1) := by decide +kernel
theorem dX9_of_122 : decode cX9_of 122 = .ok (.iaload, 1) := by decide +kernel
theorem dX9_of_123 : decode cX9_of 123 = .ok (.ireturn, 1) := by decide +kernel
theorem dX9_of_124 : decode cX9_of 124 = .ok (.aload_n 0, 1) := by decide +kernel
theorem dX9_of_125 : decode cX9_of 125 = .ok (.getfield 26, 3) := by decide +kernel
theorem dX9_of_128 : decode cX9_of 128 = .ok (.getfield 166, 3) := by decide +kernel
theorem dX9_of_131 : decode cX9_of 131 = .ok (.iload_n 1, 1) := by decide +kernel
theorem dX9_of_132 : decode cX9_of 132 = .ok (.iaload, 1) := by decide +kernel
theorem dX9_of_133 : decode cX9_of 133 = .ok (.ireturn, 1) := by decide +kernel
theorem dX9_of_134 : decode cX9_of 134 = .ok (.aload_n 0, 1) := by decide +kernel
theorem dX9_of_135 : decode cX9_of 135 = .ok (.getfield 26, 3) := by decide +kernel
theorem dX9_of_138 : decode cX9_of 138 = .ok (.getfield 169, 3) := by decide +kernel
theorem dX9_of_141 : decode cX9_of 141 = .ok (.iload_n 1, 1) := by decide +kernel
theorem dX9_of_142 : decode cX9_of 142 = .ok (.iaload, 1) := by decide +kernel
theorem dX9_of_143 : decode cX9_of 143 = .ok (.ireturn, 1) := by decide +kernel
theorem dX9_of_144 : decode cX9_of 144 = .ok (.aload_n 0, 1) := by decide +kernel
theorem dX9_of_145 : decode cX9_of 145 = .ok (.getfield 26, 3) := by decide +kernel
theorem dX9_of_148 : decode cX9_of 148 = .ok (.getfield 187, 3) := by decide +kernel
theorem dX9_of_151 : decode cX9_of 151 = .ok (.iload_n 1, 1) := by decide +kernel
theorem dX9_of_152 : decode cX9_of 152 = .ok (.iaload, 1) := by decide +kernel
theorem dX9_of_153 : decode cX9_of 153 = .ok (.ireturn, 1) := by decide +kernel
theorem dX9_of_154 : decode cX9_of 154 = .ok (.bipush (-3), 2) := by decide +kernel
theorem dX9_of_156 : decode cX9_of 156 = .ok (.ireturn, 1) := by decide +kernel
theorem dX9_off_0 : decode cX9_off 0 = .ok (.aload_n 0, 1) := by decide +kernel
theorem dX9_off_1 : decode cX9_off 1 = .ok (.getfield 26, 3) := by decide +kernel
theorem dX9_off_4 : decode cX9_off 4 = .ok (.iload_n 1, 1) := by decide +kernel
theorem dX9_off_5 : decode cX9_off 5 = .ok (.invokevirtual 163, 3) := by decide +kernel
theorem dX9_off_8 : decode cX9_off 8 = .ok (.ifCond .eq 14, 3) := by decide +kernel
theorem dX9_off_11 : decode cX9_off 11 = .ok (.aload_n 0, 1) := by decide +kernel
theorem dX9_off_12 : decode cX9_off 12 = .ok (.getfield 19, 3) := by decide +kernel
theorem dX9_off_15 : decode cX9_off 15 = .ok (.iload_n 2, 1) := by decide +kernel
theorem dX9_off_16 : decode cX9_off 16 = .ok (.invokevirtual 127, 3) := by decide +kernel
theorem dX9_off_19 : decode cX9_off 19 = .ok (.ifCond .ne 6, 3) := by decide +kernel
theorem dX9_off_22 : decode cX9_off 22 = .ok (.bipush (-2), 2) := by decide +kernel
theorem dX9_off_24 : decode cX9_off 24 = .ok (.ireturn, 1) := by decide +kernel
theorem dX9_off_25 : decode cX9_off 25 = .ok (.aload_n 0, 1) := by decide +kernel
theorem dX9_off_26 : decode cX9_off 26 = .ok (.getfield 35, 3) := by decide +kernel
theorem dX9_off_29 : decode cX9_off 29 = .ok (.iload_n 1, 1) := by decide +kernel
theorem dX9_off_30 : decode cX9_off 30 = .ok (.iload_n 2, 1) := by decide +kernel
theorem dX9_off_31 : decode cX9_off 31 = .ok (.invokevirtual 190, 3) := by decide +kernel
theorem dX9_off_34 : decode cX9_off 34 = .ok (.ireturn, 1) := by decide +kernel
theorem dX9_can_0 : decode cX9_can 0 = .ok (.aload_n 0, 1) := by decide +kernel
theorem dX9_can_1 : decode cX9_can 1 = .ok (.getfield 26, 3) := by decide +kernel
theorem dX9_can_4 : decode cX9_can 4 = .ok (.iload_n 1, 1) := by decide +kernel
theorem dX9_can_5 : decode cX9_can 5 = .ok (.invokevirtual 163, 3) := by decide +kernel
theorem dX9_can_8 : decode cX9_can 8 = .ok (.ifCond .eq 14, 3) := by decide +kernel
theorem dX9_can_11 : decode cX9_can 11 = .ok (.aload_n 0, 1) := by decide +kernel
theorem dX9_can_12 : decode cX9_can 12 = .ok (.getfield 35, 3) := by decide +kernel
theorem dX9_can_15 : decode cX9_can 15 = .ok (.iload_n 1, 1) := by decide +kernel
theorem dX9_can_16 : decode cX9_can 16 = .ok (.invokevirtual 194, 3) := by decide +kernel
theorem dX9_can_19 : decode cX9_can 19 = .ok (.goto 5, 3) := by decide +kernel
theorem dX9_can_22 : decode cX9_can 22 = .ok (.bipush (-2), 2) := by decide +kernel
theorem dX9_can_24 : decode cX9_can 24 = .ok (.ireturn, 1) := by decide +kernel
theorem dX9_named_0 : decode cX9_named 0 = .ok (.aload_n 0, 1) := by decide +kernel
theorem dX9_named_1 : decode cX9_named 1 = .ok (.getfield 26, 3) := by decide +kernel
theorem dX9_named_4 : decode cX9_named 4 = .ok (.iload_n 1, 1) := by decide +kernel
theorem dX9_named_5 : decode cX9_named 5 = .ok (.invokevirtual 163, 3) := by decide +kernel
theorem dX9_named_8 : decode cX9_named 8 = .ok (.ifCond .eq 14, 3) := by decide +kernel
theorem dX9_named_11 : decode cX9_named 11 = .ok (.aload_n 0, 1) := by decide +kernel
theorem dX9_named_12 : decode cX9_named 12 = .ok (.getfield 35, 3) := by decide +kernel
theorem dX9_named_15 : decode cX9_named 15 = .ok (.iload_n 1, 1) := by decide +kernel
theorem dX9_named_16 : decode cX9_named 16 = .ok (.invokevirtual 198, 3) := by decide +kernel
theorem dX9_named_19 : decode cX9_named 19 = .ok (.goto 5, 3) := by decide +kernel
theorem dX9_named_22 : decode cX9_named 22 = .ok (.bipush (-2), 2) := by decide +kernel
theorem dX9_named_24 : decode cX9_named 24 = .ok (.ireturn, 1) := by decide +kernel
theorem dX9_strike_0 : decode cX9_strike 0 = .ok (.aload_n 0, 1) := by decide +kernel
theorem dX9_strike_1 : decode cX9_strike 1 = .ok (.getfield 26, 3) := by decide +kernel
theorem dX9_strike_4 : decode cX9_strike 4 = .ok (.iload_n 1, 1) := by decide +kernel
theorem dX9_strike_5 : decode cX9_strike 5 = .ok (.invokevirtual 163, 3) := by decide +kernel
theorem dX9_strike_8 : decode cX9_strike 8 = .ok (.ifCond .eq 19, 3) := by decide +kernel
theorem dX9_strike_11 : decode cX9_strike 11 = .ok (.aload_n 0, 1) := by decide +kernel
theorem dX9_strike_12 : decode cX9_strike 12 = .ok (.getfield 26, 3) := by decide +kernel
theorem dX9_strike_15 : decode cX9_strike 15 = .ok (.iload_n 2, 1) := by decide +kernel
theorem dX9_strike_16 : decode cX9_strike 16 = .ok (.invokevirtual 163, 3) := by decide +kernel
theorem dX9_strike_19 : decode cX9_strike 19 = .ok (.ifCond .eq 8, 3) := by decide +kernel
theorem dX9_strike_22 : decode cX9_strike 22 = .ok (.iload_n 1, 1) := by decide +kernel
theorem dX9_strike_23 : decode cX9_strike 23 = .ok (.iload_n 2, 1) := by decide +kernel
theorem dX9_strike_24 : decode cX9_strike 24 = .ok (.if_icmp .ne 6, 3) := by decide +kernel
theorem dX9_strike_27 : decode cX9_strike 27 = .ok (.bipush (-2), 2) := by decide +kernel
theorem dX9_strike_29 : decode cX9_strike 29 = .ok (.ireturn, 1) := by decide +kernel
theorem dX9_strike_30 : decode cX9_strike 30 = .ok (.aload_n 0, 1) := by decide +kernel
theorem dX9_strike_31 : decode cX9_strike 31 = .ok (.getfield 26, 3) := by decide +kernel
theorem dX9_strike_34 : decode cX9_strike 34 = .ok (.getfield 187, 3) := by decide +kernel
theorem dX9_strike_37 : decode cX9_strike 37 = .ok (.iload_n 1, 1) := by decide +kernel
theorem dX9_strike_38 : decode cX9_strike 38 = .ok (.iaload, 1) := by decide +kernel
theorem dX9_strike_39 : decode cX9_strike 39 = .ok (.iconst (-1), 1) := by decide +kernel
theorem dX9_strike_40 : decode cX9_strike 40 = .ok (.if_icmp .ne 15, 3) := by decide +kernel
theorem dX9_strike_43 : decode cX9_strike 43 = .ok (.aload_n 0, 1) := by decide +kernel
theorem dX9_strike_44 : decode cX9_strike 44 = .ok (.getfield 26, 3) := by decide +kernel
theorem dX9_strike_47 : decode cX9_strike 47 = .ok (.iload_n 2, 1) := by decide +kernel
theorem dX9_strike_48 : decode cX9_strike 48 = .ok (.iload_n 1, 1) := by decide +kernel
theorem dX9_strike_49 : decode cX9_strike 49 = .ok (.invokevirtual 201, 3) := by decide +kernel
theorem dX9_strike_52 : decode cX9_strike 52 = .ok (.ifCond .eq 6, 3) := by decide +kernel
theorem dX9_strike_55 : decode cX9_strike 55 = .ok (.bipush (-4), 2) := by decide +kernel
theorem dX9_strike_57 : decode cX9_strike 57 = .ok (.ireturn, 1) := by decide +kernel
theorem dX9_strike_58 : decode cX9_strike 58 = .ok (.aload_n 0, 1) := by decide +kernel
theorem dX9_strike_59 : decode cX9_strike 59 = .ok (.getfield 26, 3) := by decide +kernel
theorem dX9_strike_62 : decode cX9_strike 62 = .ok (.getfield 187, 3) := by decide +kernel
theorem dX9_strike_65 : decode cX9_strike 65 = .ok (.iload_n 1, 1) := by decide +kernel
theorem dX9_strike_66 : decode cX9_strike 66 = .ok (.iload_n 2, 1) := by decide +kernel
theorem dX9_strike_67 : decode cX9_strike 67 = .ok (.iastore, 1) := by decide +kernel
theorem dX9_strike_68 : decode cX9_strike 68 = .ok (.iconst 1, 1) := by decide +kernel
theorem dX9_strike_69 : decode cX9_strike 69 = .ok (.ireturn, 1) := by decide +kernel
theorem dX9_undo_0 : decode cX9_undo 0 = .ok (.aload_n 0, 1) := by decide +kernel
theorem dX9_undo_1 : decode cX9_undo 1 = .ok (.getfield 26, 3) := by decide +kernel
theorem dX9_undo_4 : decode cX9_undo 4 = .ok (.iload_n 1, 1) := by decide +kernel
theorem dX9_undo_5 : decode cX9_undo 5 = .ok (.invokevirtual 163, 3) := by decide +kernel
theorem dX9_undo_8 : decode cX9_undo 8 = .ok (.ifCond .ne 6, 3) := by decide +kernel
theorem dX9_undo_11 : decode cX9_undo 11 = .ok (.bipush (-2), 2) := by decide +kernel
theorem dX9_undo_13 : decode cX9_undo 13 = .ok (.ireturn, 1) := by decide +kernel
theorem dX9_undo_14 : decode cX9_undo 14 = .ok (.aload_n 0, 1) := by decide +kernel
theorem dX9_undo_15 : decode cX9_undo 15 = .ok (.getfield 26, 3) := by decide +kernel
theorem dX9_undo_18 : decode cX9_undo 18 = .ok (.getfield 187, 3) := by decide +kernel
theorem dX9_undo_21 : decode cX9_undo 21 = .ok (.iload_n 1, 1) := by decide +kernel
theorem dX9_undo_22 : decode cX9_undo 22 = .ok (.iaload, 1) := by decide +kernel
theorem dX9_undo_23 : decode cX9_undo 23 = .ok (.istore_n 2, 1) := by decide +kernel
theorem dX9_undo_24 : decode cX9_undo 24 = .ok (.aload_n 0, 1) := by decide +kernel
theorem dX9_undo_25 : decode cX9_undo 25 = .ok (.getfield 26, 3) := by decide +kernel
theorem dX9_undo_28 : decode cX9_undo 28 = .ok (.getfield 187, 3) := by decide +kernel
theorem dX9_undo_31 : decode cX9_undo 31 = .ok (.iload_n 1, 1) := by decide +kernel
theorem dX9_undo_32 : decode cX9_undo 32 = .ok (.iconst (-1), 1) := by decide +kernel
theorem dX9_undo_33 : decode cX9_undo 33 = .ok (.iastore, 1) := by decide +kernel
theorem dX9_undo_34 : decode cX9_undo 34 = .ok (.iload_n 2, 1) := by decide +kernel
theorem dX9_undo_35 : decode cX9_undo 35 = .ok (.ireturn, 1) := by decide +kernel
theorem dX9_span_0 : decode cX9_span 0 = .ok (.aload_n 0, 1) := by decide +kernel
theorem dX9_span_1 : decode cX9_span 1 = .ok (.getfield 26, 3) := by decide +kernel
theorem dX9_span_4 : decode cX9_span 4 = .ok (.iload_n 1, 1) := by decide +kernel
theorem dX9_span_5 : decode cX9_span 5 = .ok (.invokevirtual 163, 3) := by decide +kernel
theorem dX9_span_8 : decode cX9_span 8 = .ok (.ifCond .ne 6, 3) := by decide +kernel
theorem dX9_span_11 : decode cX9_span 11 = .ok (.bipush (-2), 2) := by decide +kernel
theorem dX9_span_13 : decode cX9_span 13 = .ok (.ireturn, 1) := by decide +kernel
theorem dX9_span_14 : decode cX9_span 14 = .ok (.iload_n 2, 1) := by decide +kernel
theorem dX9_span_15 : decode cX9_span 15 = .ok (.iconst 0, 1) := by decide +kernel
theorem dX9_span_16 : decode cX9_span 16 = .ok (.iconst 5, 1) := by decide +kernel
theorem dX9_span_17 : decode cX9_span 17 = .ok (.invokestatic 84, 3) := by decide +kernel
theorem dX9_span_20 : decode cX9_span 20 = .ok (.ifCond .ne 6, 3) := by decide +kernel
theorem dX9_span_23 : decode cX9_span 23 = .ok (.bipush (-3), 2) := by decide +kernel
theorem dX9_span_25 : decode cX9_span 25 = .ok (.ireturn, 1) := by decide +kernel
theorem dX9_span_26 : decode cX9_span 26 = .ok (.iload_n 2, 1) := by decide +kernel
theorem dX9_span_27 : decode cX9_span 27 = .ok (.iconst 2, 1) := by decide +kernel
theorem dX9_span_28 : decode cX9_span 28 = .ok (.if_icmp .eq 8, 3) := by decide +kernel
theorem dX9_span_31 : decode cX9_span 31 = .ok (.iload_n 2, 1) := by decide +kernel
theorem dX9_span_32 : decode cX9_span 32 = .ok (.iconst 3, 1) := by decide +kernel
theorem dX9_span_33 : decode cX9_span 33 = .ok (.if_icmp .ne 7, 3) := by decide +kernel
theorem dX9_span_36 : decode cX9_span 36 = .ok (.iconst 1, 1) := by decide +kernel
theorem dX9_span_37 : decode cX9_span 37 = .ok (.goto 4, 3) := by decide +kernel
theorem dX9_span_40 : decode cX9_span 40 = .ok (.iconst 0, 1) := by decide +kernel
theorem dX9_span_41 : decode cX9_span 41 = .ok (.istore_n 3, 1) := by decide +kernel
theorem dX9_span_42 : decode cX9_span 42 = .ok (.iload_n 3, 1) := by decide +kernel
theorem dX9_span_43 : decode cX9_span 43 = .ok (.ifCond .eq 16, 3) := by decide +kernel
theorem dX9_span_46 : decode cX9_span 46 = .ok (.aload_n 0, 1) := by decide +kernel
theorem dX9_span_47 : decode cX9_span 47 = .ok (.getfield 26, 3) := by decide +kernel
theorem dX9_span_50 : decode cX9_span 50 = .ok (.iload_n 1, 1) := by decide +kernel
theorem dX9_span_51 : decode cX9_span 51 = .ok (.invokevirtual 204, 3) := by decide +kernel
theorem dX9_span_54 : decode cX9_span 54 = .ok (.ifCond .ne 5, 3) := by decide +kernel
theorem dX9_span_57 : decode cX9_span 57 = .ok (.iconst (-1), 1) := by decide +kernel
theorem dX9_span_58 : decode cX9_span 58 = .ok (.ireturn, 1) := by decide +kernel
theorem dX9_span_59 : decode cX9_span 59 = .ok (.aload_n 0, 1) := by decide +kernel
theorem dX9_span_60 : decode cX9_span 60 = .ok (.getfield 44, 3) := by decide +kernel
theorem dX9_span_63 : decode cX9_span 63 = .ok (.invokevirtual 207, 3) := by decide +kernel
theorem dX9_span_66 : decode cX9_span 66 = .ok (.ifCond .eq 15, 3) := by decide +kernel
theorem dX9_span_69 : decode cX9_span 69 = .ok (.aload_n 0, 1) := by decide +kernel
theorem dX9_span_70 : decode cX9_span 70 = .ok (.getfield 44, 3) := by decide +kernel
theorem dX9_span_73 : decode cX9_span 73 = .ok (.iload_n 2, 1) := by decide +kernel
theorem dX9_span_74 : decode cX9_span 74 = .ok (.iload_n 1, 1) := by decide +kernel
theorem dX9_span_75 : decode cX9_span 75 = .ok (.invokevirtual 211, 3) := by decide +kernel
theorem dX9_span_78 : decode cX9_span 78 = .ok (.goto 4, 3) := by decide +kernel
theorem dX9_span_81 : decode cX9_span 81 = .ok (.iconst (-1), 1) := by decide +kernel
theorem dX9_span_82 : decode cX9_span 82 = .ok (.ireturn, 1) := by decide +kernel
theorem dX9_heirloom_0 : decode cX9_heirloom 0 = .ok (.aload_n 0, 1) := by decide +kernel
theorem dX9_heirloom_1 : decode cX9_heirloom 1 = .ok (.getfield 26, 3) := by decide +kernel
theorem dX9_heirloom_4 : decode cX9_heirloom 4 = .ok (.iload_n 1, 1) := by decide +kernel
theorem dX9_heirloom_5 : decode cX9_heirloom 5 = .ok (.invokevirtual 163, 3) := by decide +kernel
theorem dX9_heirloom_8 : decode cX9_heirloom 8 = .ok (.ifCond .ne 6, 3) := by decide +kernel
theorem dX9_heirloom_11 : decode cX9_heirloom 11 = .ok (.bipush (-2), 2) := by decide +kernel
theorem dX9_heirloom_13 : decode cX9_heirloom 13 = .ok (.ireturn, 1) := by decide +kernel
theorem dX9_heirloom_14 : decode cX9_heirloom 14 = .ok (.aload_n 0, 1) := by decide +kernel
theorem dX9_heirloom_15 : decode cX9_heirloom 15 = .ok (.getfield 44, 3) := by decide +kernel
theorem dX9_heirloom_18 : decode cX9_heirloom 18 = .ok (.invokevirtual 207, 3) := by decide +kernel
theorem dX9_heirloom_21 : decode cX9_heirloom 21 = .ok (.ifCond .eq 14, 3) := by decide +kernel
theorem dX9_heirloom_24 : decode cX9_heirloom 24 = .ok (.aload_n 0, 1) := by decide +kernel
theorem dX9_heirloom_25 : decode cX9_heirloom 25 = .ok (.getfield 44, 3) := by decide +kernel
theorem dX9_heirloom_28 : decode cX9_heirloom 28 = .ok (.iload_n 1, 1) := by decide +kernel
theorem dX9_heirloom_29 : decode cX9_heirloom 29 = .ok (.invokevirtual 214, 3) := by decide +kernel
theorem dX9_heirloom_32 : decode cX9_heirloom 32 = .ok (.goto 4, 3) := by decide +kernel
theorem dX9_heirloom_35 : decode cX9_heirloom 35 = .ok (.iconst (-1), 1) := by decide +kernel
theorem dX9_heirloom_36 : decode cX9_heirloom 36 = .ok (.ireturn, 1) := by decide +kernel
theorem dX9_from_0 : decode cX9_from 0 = .ok (.aload_n 0, 1) := by decide +kernel
theorem dX9_from_1 : decode cX9_from 1 = .ok (.getfield 26, 3) := by decide +kernel
theorem dX9_from_4 : decode cX9_from 4 = .ok (.iload_n 1, 1) := by decide +kernel
theorem dX9_from_5 : decode cX9_from 5 = .ok (.invokevirtual 163, 3) := by decide +kernel
theorem dX9_from_8 : decode cX9_from 8 = .ok (.ifCond .eq 14, 3) := by decide +kernel
theorem dX9_from_11 : decode cX9_from 11 = .ok (.aload_n 0, 1) := by decide +kernel
theorem dX9_from_12 : decode cX9_from 12 = .ok (.getfield 53, 3) := by decide +kernel
theorem dX9_from_15 : decode cX9_from 15 = .ok (.iload_n 1, 1) := by decide +kernel
theorem dX9_from_16 : decode cX9_from 16 = .ok (.invokevirtual 217, 3) := by decide +kernel
theorem dX9_from_19 : decode cX9_from 19 = .ok (.goto 5, 3) := by decide +kernel
theorem dX9_from_22 : decode cX9_from 22 = .ok (.bipush (-2), 2) := by decide +kernel
theorem dX9_from_24 : decode cX9_from 24 = .ok (.ireturn, 1) := by decide +kernel
theorem dX9_chain_0 : decode cX9_chain 0 = .ok (.iload_n 1, 1) := by decide +kernel
theorem dX9_chain_1 : decode cX9_chain 1 = .ok (.bipush (-2), 2) := by decide +kernel
theorem dX9_chain_3 : decode cX9_chain 3 = .ok (.if_icmp .ge 8, 3) := by decide +kernel
theorem dX9_chain_6 : decode cX9_chain 6 = .ok (.bipush (-3), 2) := by decide +kernel
theorem dX9_chain_8 : decode cX9_chain 8 = .ok (.goto 11, 3) := by decide +kernel
theorem dX9_chain_11 : decode cX9_chain 11 = .ok (.aload_n 0, 1) := by decide +kernel
theorem dX9_chain_12 : decode cX9_chain 12 = .ok (.getfield 53, 3) := by decide +kernel
theorem dX9_chain_15 : decode cX9_chain 15 = .ok (.iload_n 1, 1) := by decide +kernel
theorem dX9_chain_16 : decode cX9_chain 16 = .ok (.invokevirtual 220, 3) := by decide +kernel
theorem dX9_chain_19 : decode cX9_chain 19 = .ok (.ireturn, 1) := by decide +kernel
theorem dX9_legs_0 : decode cX9_legs 0 = .ok (.aload_n 0, 1) := by decide +kernel
theorem dX9_legs_1 : decode cX9_legs 1 = .ok (.getfield 26, 3) := by decide +kernel
theorem dX9_legs_4 : decode cX9_legs 4 = .ok (.iload_n 1, 1) := by decide +kernel
theorem dX9_legs_5 : decode cX9_legs 5 = .ok (.invokevirtual 163, 3) := by decide +kernel
theorem dX9_legs_8 : decode cX9_legs 8 = .ok (.ifCond .eq 14, 3) := by decide +kernel
theorem dX9_legs_11 : decode cX9_legs 11 = .ok (.aload_n 0, 1) := by decide +kernel
theorem dX9_legs_12 : decode cX9_legs 12 = .ok (.getfield 19, 3) := by decide +kernel
theorem dX9_legs_15 : decode cX9_legs 15 = .ok (.iload_n 2, 1) := by decide +kernel
theorem dX9_legs_16 : decode cX9_legs 16 = .ok (.invokevirtual 127, 3) := by decide +kernel
theorem dX9_legs_19 : decode cX9_legs 19 = .ok (.ifCond .ne 6, 3) := by decide +kernel
theorem dX9_legs_22 : decode cX9_legs 22 = .ok (.bipush (-2), 2) := by decide +kernel
theorem dX9_legs_24 : decode cX9_legs 24 = .ok (.ireturn, 1) := by decide +kernel
theorem dX9_legs_25 : decode cX9_legs 25 = .ok (.iload_n 3, 1) := by decide +kernel
theorem dX9_legs_26 : decode cX9_legs 26 = .ok (.iconst 0, 1) := by decide +kernel
theorem dX9_legs_27 : decode cX9_legs 27 = .ok (.sipush 9999, 3) := by decide +kernel
theorem dX9_legs_30 : decode cX9_legs 30 = .ok (.invokestatic 84, 3) := by decide +kernel
theorem dX9_legs_33 : decode cX9_legs 33 = .ok (.ifCond .eq 13, 3) := by decide +kernel
theorem dX9_legs_36 : decode cX9_legs 36 = .ok (.iload 5, 2) := by decide +kernel
theorem dX9_legs_38 : decode cX9_legs 38 = .ok (.iconst 0, 1) := by decide +kernel
theorem dX9_legs_39 : decode cX9_legs 39 = .ok (.iconst 1, 1) := by decide +kernel
theorem dX9_legs_40 : decode cX9_legs 40 = .ok (.invokestatic 84, 3) := by decide +kernel
theorem dX9_legs_43 : decode cX9_legs 43 = .ok (.ifCond .ne 6, 3) := by decide +kernel
theorem dX9_legs_46 : decode cX9_legs 46 = .ok (.bipush (-3), 2) := by decide +kernel
theorem dX9_legs_48 : decode cX9_legs 48 = .ok (.ireturn, 1) := by decide +kernel
theorem dX9_legs_49 : decode cX9_legs 49 = .ok (.aload_n 0, 1) := by decide +kernel
theorem dX9_legs_50 : decode cX9_legs 50 = .ok (.getfield 19, 3) := by decide +kernel
theorem dX9_legs_53 : decode cX9_legs 53 = .ok (.getfield 130, 3) := by decide +kernel
theorem dX9_legs_56 : decode cX9_legs 56 = .ok (.iload_n 2, 1) := by decide +kernel
theorem dX9_legs_57 : decode cX9_legs 57 = .ok (.iaload, 1) := by decide +kernel
theorem dX9_legs_58 : decode cX9_legs 58 = .ok (.istore 6, 2) := by decide +kernel
theorem dX9_legs_60 : decode cX9_legs 60 = .ok (.aload_n 0, 1) := by decide +kernel
theorem dX9_legs_61 : decode cX9_legs 61 = .ok (.getfield 26, 3) := by decide +kernel
theorem dX9_legs_64 : decode cX9_legs 64 = .ok (.getfield 175, 3) := by decide +kernel
theorem dX9_legs_67 : decode cX9_legs 67 = .ok (.iload_n 1, 1) := by decide +kernel
theorem dX9_legs_68 : decode cX9_legs 68 = .ok (.iaload, 1) := by decide +kernel
theorem dX9_legs_69 : decode cX9_legs 69 = .ok (.istore 7, 2) := by decide +kernel
theorem dX9_legs_71 : decode cX9_legs 71 = .ok (.aload_n 0, 1) := by decide +kernel
theorem dX9_legs_72 : decode cX9_legs 72 = .ok (.getfield 19, 3) := by decide +kernel
theorem dX9_legs_75 : decode cX9_legs 75 = .ok (.iload_n 3, 1) := by decide +kernel
theorem dX9_legs_76 : decode cX9_legs 76 = .ok (.invokevirtual 223, 3) := by decide +kernel
theorem dX9_legs_79 : decode cX9_legs 79 = .ok (.istore 8, 2) := by decide +kernel
theorem dX9_legs_81 : decode cX9_legs 81 = .ok (.iload 5, 2) := by decide +kernel
theorem dX9_legs_83 : decode cX9_legs 83 = .ok (.ifCond .ne 19, 3) := by decide +kernel
theorem dX9_legs_86 : decode cX9_legs 86 = .ok (.aload_n 0, 1) := by decide +kernel
theorem dX9_legs_87 : decode cX9_legs 87 = .ok (.getfield 62, 3) := by decide +kernel
theorem dX9_legs_90 : decode cX9_legs 90 = .ok (.iload 6, 2) := by decide +kernel
theorem dX9_legs_92 : decode cX9_legs 92 = .ok (.iload 7, 2) := by decide +kernel
theorem dX9_legs_94 : decode cX9_legs 94 = .ok (.iload 8, 2) := by decide +kernel
theorem dX9_legs_96 : decode cX9_legs 96 = .ok (.iload 4, 2) := by decide +kernel
theorem dX9_legs_98 : decode cX9_legs 98 = .ok (.invokevirtual 226, 3) := by decide +kernel
theorem dX9_legs_101 : decode cX9_legs 101 = .ok (.ireturn, 1) := by decide +kernel
theorem dX9_legs_102 : decode cX9_legs 102 = .ok (.aload_n 0, 1) := by decide +kernel
theorem dX9_legs_103 : decode cX9_legs 103 = .ok (.getfield 62, 3) := by decide +kernel
theorem dX9_legs_106 : decode cX9_legs 106 = .ok (.iload 6, 2) := by decide +kernel
theorem dX9_legs_108 : decode cX9_legs 108 = .ok (.iload 8, 2) := by decide +kernel
theorem dX9_legs_110 : decode cX9_legs 110 = .ok (.iload 4, 2) := by decide +kernel
theorem dX9_legs_112 : decode cX9_legs 112 = .ok (.invokevirtual 230, 3) := by decide +kernel
theorem dX9_legs_115 : decode cX9_legs 115 = .ok (.aload_n 0, 1) := by decide +kernel
theorem dX9_legs_116 : decode cX9_legs 116 = .ok (.getfield 62, 3) := by decide +kernel
theorem dX9_legs_119 : decode cX9_legs 119 = .ok (.getfield 234, 3) := by decide +kernel
theorem dX9_legs_122 : decode cX9_legs 122 = .ok (.iload 7, 2) := by decide +kernel
theorem dX9_legs_124 : decode cX9_legs 124 = .ok (.iaload, 1) := by decide +kernel
theorem dX9_legs_125 : decode cX9_legs 125 = .ok (.ireturn, 1) := by decide +kernel
theorem dX9_reach_0 : decode cX9_reach 0 = .ok (.aload_n 0, 1) := by decide +kernel
theorem dX9_reach_1 : decode cX9_reach 1 = .ok (.getfield 26, 3) := by decide +kernel
theorem dX9_reach_4 : decode cX9_reach 4 = .ok (.iload_n 1, 1) := by decide +kernel
theorem dX9_reach_5 : decode cX9_reach 5 = .ok (.invokevirtual 163, 3) := by decide +kernel
theorem dX9_reach_8 : decode cX9_reach 8 = .ok (.ifCond .eq 14, 3) := by decide +kernel
theorem dX9_reach_11 : decode cX9_reach 11 = .ok (.aload_n 0, 1) := by decide +kernel
theorem dX9_reach_12 : decode cX9_reach 12 = .ok (.getfield 19, 3) := by decide +kernel
theorem dX9_reach_15 : decode cX9_reach 15 = .ok (.iload_n 2, 1) := by decide +kernel
theorem dX9_reach_16 : decode cX9_reach 16 = .ok (.invokevirtual 127, 3) := by decide +kernel
theorem dX9_reach_19 : decode cX9_reach 19 = .ok (.ifCond .ne 6, 3) := by decide +kernel
theorem dX9_reach_22 : decode cX9_reach 22 = .ok (.bipush (-2), 2) := by decide +kernel
theorem dX9_reach_24 : decode cX9_reach 24 = .ok (.ireturn, 1) := by decide +kernel
theorem dX9_reach_25 : decode cX9_reach 25 = .ok (.iload 4, 2) := by decide +kernel
theorem dX9_reach_27 : decode cX9_reach 27 = .ok (.iconst 0, 1) := by decide +kernel
theorem dX9_reach_28 : decode cX9_reach 28 = .ok (.iconst 1, 1) := by decide +kernel
theorem dX9_reach_29 : decode cX9_reach 29 = .ok (.invokestatic 84, 3) := by decide +kernel
theorem dX9_reach_32 : decode cX9_reach 32 = .ok (.ifCond .ne 6, 3) := by decide +kernel
theorem dX9_reach_35 : decode cX9_reach 35 = .ok (.bipush (-3), 2) := by decide +kernel
theorem dX9_reach_37 : decode cX9_reach 37 = .ok (.ireturn, 1) := by decide +kernel
theorem dX9_reach_38 : decode cX9_reach 38 = .ok (.aload_n 0, 1) := by decide +kernel
theorem dX9_reach_39 : decode cX9_reach 39 = .ok (.getfield 44, 3) := by decide +kernel
theorem dX9_reach_42 : decode cX9_reach 42 = .ok (.invokevirtual 207, 3) := by decide +kernel
theorem dX9_reach_45 : decode cX9_reach 45 = .ok (.ifCond .ne 5, 3) := by decide +kernel
theorem dX9_reach_48 : decode cX9_reach 48 = .ok (.iconst (-1), 1) := by decide +kernel
theorem dX9_reach_49 : decode cX9_reach 49 = .ok (.ireturn, 1) := by decide +kernel
theorem dX9_reach_50 : decode cX9_reach 50 = .ok (.iload 4, 2) := by decide +kernel
theorem dX9_reach_52 : decode cX9_reach 52 = .ok (.ifCond .ne 16, 3) := by decide +kernel
theorem dX9_reach_55 : decode cX9_reach 55 = .ok (.aload_n 0, 1) := by decide +kernel
theorem dX9_reach_56 : decode cX9_reach 56 = .ok (.getfield 62, 3) := by decide +kernel
theorem dX9_reach_59 : decode cX9_reach 59 = .ok (.iload_n 1, 1) := by decide +kernel
theorem dX9_reach_60 : decode cX9_reach 60 = .ok (.iload_n 2, 1) := by decide +kernel
theorem dX9_reach_61 : decode cX9_reach 61 = .ok (.iload_n 3, 1) := by decide +kernel
theorem dX9_reach_62 : decode cX9_reach 62 = .ok (.invokevirtual 237, 3) := by decide +kernel
theorem dX9_reach_65 : decode cX9_reach 65 = .ok (.goto 13, 3) := by decide +kernel
theorem dX9_reach_68 : decode cX9_reach 68 = .ok (.aload_n 0, 1) := by decide +kernel
theorem dX9_reach_69 : decode cX9_reach 69 = .ok (.getfield 62, 3) := by decide +kernel
theorem dX9_reach_72 : decode cX9_reach 72 = .ok (.iload_n 1, 1) := by decide +kernel
theorem dX9_reach_73 : decode cX9_reach 73 = .ok (.iload_n 2, 1) := by decide +kernel
theorem dX9_reach_74 : decode cX9_reach 74 = .ok (.iload_n 3, 1) := by decide +kernel
theorem dX9_reach_75 : decode cX9_reach 75 = .ok (.invokevirtual 241, 3) := by decide +kernel
theorem dX9_reach_78 : decode cX9_reach 78 = .ok (.ireturn, 1) := by decide +kernel
theorem dX9_boats_0 : decode cX9_boats 0 = .ok (.aload_n 0, 1) := by decide +kernel
theorem dX9_boats_1 : decode cX9_boats 1 = .ok (.getfield 62, 3) := by decide +kernel
theorem dX9_boats_4 : decode cX9_boats 4 = .ok (.invokevirtual 244, 3) := by decide +kernel
theorem dX9_boats_7 : decode cX9_boats 7 = .ok (.ireturn, 1) := by decide +kernel
theorem dX9_sea_0 : decode cX9_sea 0 = .ok (.aload_n 0, 1) := by decide +kernel
theorem dX9_sea_1 : decode cX9_sea 1 = .ok (.getfield 62, 3) := by decide +kernel
theorem dX9_sea_4 : decode cX9_sea 4 = .ok (.invokevirtual 244, 3) := by decide +kernel
theorem dX9_sea_7 : decode cX9_sea 7 = .ok (.istore_n 1, 1) := by decide +kernel
theorem dX9_sea_8 : decode cX9_sea 8 = .ok (.iconst (-1), 1) := by decide +kernel
theorem dX9_sea_9 : decode cX9_sea 9 = .ok (.istore_n 2, 1) := by decide +kernel
theorem dX9_sea_10 : decode cX9_sea 10 = .ok (.iconst 0, 1) := by decide +kernel
theorem dX9_sea_11 : decode cX9_sea 11 = .ok (.istore_n 3, 1) := by decide +kernel
theorem dX9_sea_12 : decode cX9_sea 12 = .ok (.iload_n 3, 1) := by decide +kernel
theorem dX9_sea_13 : decode cX9_sea 13 = .ok (.aload_n 0, 1) := by decide +kernel
theorem dX9_sea_14 : decode cX9_sea 14 = .ok (.getfield 26, 3) := by decide +kernel
theorem dX9_sea_17 : decode cX9_sea 17 = .ok (.getfield 152, 3) := by decide +kernel
theorem dX9_sea_20 : decode cX9_sea 20 = .ok (.if_icmp .ge 31, 3) := by decide +kernel
theorem dX9_sea_23 : decode cX9_sea 23 = .ok (.iload_n 1, 1) := by decide +kernel
theorem dX9_sea_24 : decode cX9_sea 24 = .ok (.iload_n 3, 1) := by decide +kernel
theorem dX9_sea_25 : decode cX9_sea 25 = .ok (.invokestatic 247, 3) := by decide +kernel
theorem dX9_sea_28 : decode cX9_sea 28 = .ok (.ifCond .eq 17, 3) := by decide +kernel
theorem dX9_sea_31 : decode cX9_sea 31 = .ok (.iload_n 2, 1) := by decide +kernel
theorem dX9_sea_32 : decode cX9_sea 32 = .ok (.aload_n 0, 1) := by decide +kernel
theorem dX9_sea_33 : decode cX9_sea 33 = .ok (.getfield 44, 3) := by decide +kernel
theorem dX9_sea_36 : decode cX9_sea 36 = .ok (.iconst 5, 1) := by decide +kernel
theorem dX9_sea_37 : decode cX9_sea 37 = .ok (.iload_n 3, 1) := by decide +kernel
theorem dX9_sea_38 : decode cX9_sea 38 = .ok (.invokevirtual 211, 3) := by decide +kernel
theorem dX9_sea_41 : decode cX9_sea 41 = .ok (.invokestatic 250, 3) := by decide +kernel
theorem dX9_sea_44 : decode cX9_sea 44 = .ok (.istore_n 2, 1) := by decide +kernel
theorem dX9_sea_45 : decode cX9_sea 45 = .ok (.iinc 3 1, 3) := by decide +kernel
theorem dX9_sea_48 : decode cX9_sea 48 = .ok (.goto (-36), 3) := by decide +kernel
theorem dX9_sea_51 : decode cX9_sea 51 = .ok (.iload_n 2, 1) := by decide +kernel
theorem dX9_sea_52 : decode cX9_sea 52 = .ok (.ireturn, 1) := by decide +kernel
theorem dX9_next_0 : decode cX9_next 0 = .ok (.aload_n 0, 1) := by decide +kernel
theorem dX9_next_1 : decode cX9_next 1 = .ok (.getfield 35, 3) := by decide +kernel
theorem dX9_next_4 : decode cX9_next 4 = .ok (.invokevirtual 253, 3) := by decide +kernel
theorem dX9_next_7 : decode cX9_next 7 = .ok (.ireturn, 1) := by decide +kernel
theorem dX9_counts_0 : decode cX9_counts 0 = .ok (.iload_n 1, 1) := by decide +kernel
theorem dX9_counts_1 : decode cX9_counts 1 = .ok (.invokestatic 115, 3) := by decide +kernel
theorem dX9_counts_4 : decode cX9_counts 4 = .ok (.ifCond .eq 14, 3) := by decide +kernel
theorem dX9_counts_7 : decode cX9_counts 7 = .ok (.aload_n 0, 1) := by decide +kernel
theorem dX9_counts_8 : decode cX9_counts 8 = .ok (.getfield 19, 3) := by decide +kernel
theorem dX9_counts_11 : decode cX9_counts 11 = .ok (.iload_n 2, 1) := by decide +kernel
theorem dX9_counts_12 : decode cX9_counts 12 = .ok (.invokevirtual 127, 3) := by decide +kernel
theorem dX9_counts_15 : decode cX9_counts 15 = .ok (.ifCond .ne 6, 3) := by decide +kernel
theorem dX9_counts_18 : decode cX9_counts 18 = .ok (.bipush (-2), 2) := by decide +kernel
theorem dX9_counts_20 : decode cX9_counts 20 = .ok (.ireturn, 1) := by decide +kernel
theorem dX9_counts_21 : decode cX9_counts 21 = .ok (.iload 4, 2) := by decide +kernel
theorem dX9_counts_23 : decode cX9_counts 23 = .ok (.iconst 1, 1) := by decide +kernel
theorem dX9_counts_24 : decode cX9_counts 24 = .ok (.sipush 999, 3) := by decide +kernel
theorem dX9_counts_27 : decode cX9_counts 27 = .ok (.invokestatic 84, 3) := by decide +kernel
theorem dX9_counts_30 : decode cX9_counts 30 = .ok (.ifCond .eq 13, 3) := by decide +kernel
theorem dX9_counts_33 : decode cX9_counts 33 = .ok (.iload_n 3, 1) := by decide +kernel
theorem dX9_counts_34 : decode cX9_counts 34 = .ok (.iconst 0, 1) := by decide +kernel
theorem dX9_counts_35 : decode cX9_counts 35 = .ok (.iload 4, 2) := by decide +kernel
theorem dX9_counts_37 : decode cX9_counts 37 = .ok (.invokestatic 84, 3) := by decide +kernel
theorem dX9_counts_40 : decode cX9_counts 40 = .ok (.ifCond .ne 6, 3) := by decide +kernel
theorem dX9_counts_43 : decode cX9_counts 43 = .ok (.bipush (-3), 2) := by decide +kernel
theorem dX9_counts_45 : decode cX9_counts 45 = .ok (.ireturn, 1) := by decide +kernel
theorem dX9_counts_46 : decode cX9_counts 46 = .ok (.aload_n 0, 1) := by decide +kernel
theorem dX9_counts_47 : decode cX9_counts 47 = .ok (.getfield 71, 3) := by decide +kernel
theorem dX9_counts_50 : decode cX9_counts 50 = .ok (.iload_n 1, 1) := by decide +kernel
theorem dX9_counts_51 : decode cX9_counts 51 = .ok (.iload_n 2, 1) := by decide +kernel
theorem dX9_counts_52 : decode cX9_counts 52 = .ok (.iload_n 3, 1) := by decide +kernel
theorem dX9_counts_53 : decode cX9_counts 53 = .ok (.iload 4, 2) := by decide +kernel
theorem dX9_counts_55 : decode cX9_counts 55 = .ok (.invokevirtual 256, 3) := by decide +kernel
theorem dX9_counts_58 : decode cX9_counts 58 = .ok (.iconst 1, 1) := by decide +kernel
theorem dX9_counts_59 : decode cX9_counts 59 = .ok (.ireturn, 1) := by decide +kernel
theorem dX9_miss_0 : decode cX9_miss 0 = .ok (.aload_n 0, 1) := by decide +kernel
theorem dX9_miss_1 : decode cX9_miss 1 = .ok (.getfield 19, 3) := by decide +kernel
theorem dX9_miss_4 : decode cX9_miss 4 = .ok (.iload_n 1, 1) := by decide +kernel
theorem dX9_miss_5 : decode cX9_miss 5 = .ok (.invokevirtual 127, 3) := by decide +kernel
theorem dX9_miss_8 : decode cX9_miss 8 = .ok (.ifCond .ne 6, 3) := by decide +kernel
theorem dX9_miss_11 : decode cX9_miss 11 = .ok (.bipush (-2), 2) := by decide +kernel
theorem dX9_miss_13 : decode cX9_miss 13 = .ok (.ireturn, 1) := by decide +kernel
theorem dX9_miss_14 : decode cX9_miss 14 = .ok (.iload_n 2, 1) := by decide +kernel
theorem dX9_miss_15 : decode cX9_miss 15 = .ok (.iconst 0, 1) := by decide +kernel
theorem dX9_miss_16 : decode cX9_miss 16 = .ok (.iconst 2, 1) := by decide +kernel
theorem dX9_miss_17 : decode cX9_miss 17 = .ok (.invokestatic 84, 3) := by decide +kernel
theorem dX9_miss_20 : decode cX9_miss 20 = .ok (.ifCond .eq 13, 3) := by decide +kernel
theorem dX9_miss_23 : decode cX9_miss 23 = .ok (.iload_n 3, 1) := by decide +kernel
theorem dX9_miss_24 : decode cX9_miss 24 = .ok (.iconst 1, 1) := by decide +kernel
theorem dX9_miss_25 : decode cX9_miss 25 = .ok (.bipush 99, 2) := by decide +kernel
theorem dX9_miss_27 : decode cX9_miss 27 = .ok (.invokestatic 84, 3) := by decide +kernel
theorem dX9_miss_30 : decode cX9_miss 30 = .ok (.ifCond .ne 6, 3) := by decide +kernel
theorem dX9_miss_33 : decode cX9_miss 33 = .ok (.bipush (-3), 2) := by decide +kernel
theorem dX9_miss_35 : decode cX9_miss 35 = .ok (.ireturn, 1) := by decide +kernel
theorem dX9_miss_36 : decode cX9_miss 36 = .ok (.aload_n 0, 1) := by decide +kernel
theorem dX9_miss_37 : decode cX9_miss 37 = .ok (.getfield 71, 3) := by decide +kernel
theorem dX9_miss_40 : decode cX9_miss 40 = .ok (.iload_n 1, 1) := by decide +kernel
theorem dX9_miss_41 : decode cX9_miss 41 = .ok (.invokevirtual 260, 3) := by decide +kernel
theorem dX9_miss_44 : decode cX9_miss 44 = .ok (.aload_n 0, 1) := by decide +kernel
theorem dX9_miss_45 : decode cX9_miss 45 = .ok (.getfield 71, 3) := by decide +kernel
theorem dX9_miss_48 : decode cX9_miss 48 = .ok (.iload_n 2, 1) := by decide +kernel
theorem dX9_miss_49 : decode cX9_miss 49 = .ok (.iload_n 3, 1) := by decide +kernel
theorem dX9_miss_50 : decode cX9_miss 50 = .ok (.invokevirtual 264, 3) := by decide +kernel
theorem dX9_miss_53 : decode cX9_miss 53 = .ok (.ireturn, 1) := by decide +kernel
theorem dX9_law_0 : decode cX9_law 0 = .ok (.aload_n 0, 1) := by decide +kernel
theorem dX9_law_1 : decode cX9_law 1 = .ok (.getfield 19, 3) := by decide +kernel
theorem dX9_law_4 : decode cX9_law 4 = .ok (.iload_n 1, 1) := by decide +kernel
theorem dX9_law_5 : decode cX9_law 5 = .ok (.invokevirtual 127, 3) := by decide +kernel
theorem dX9_law_8 : decode cX9_law 8 = .ok (.ifCond .ne 6, 3) := by decide +kernel
theorem dX9_law_11 : decode cX9_law 11 = .ok (.bipush (-2), 2) := by decide +kernel
theorem dX9_law_13 : decode cX9_law 13 = .ok (.ireturn, 1) := by decide +kernel
theorem dX9_law_14 : decode cX9_law 14 = .ok (.iload_n 2, 1) := by decide +kernel
theorem dX9_law_15 : decode cX9_law 15 = .ok (.iconst 0, 1) := by decide +kernel
theorem dX9_law_16 : decode cX9_law 16 = .ok (.iconst 1, 1) := by decide +kernel
theorem dX9_law_17 : decode cX9_law 17 = .ok (.invokestatic 84, 3) := by decide +kernel
theorem dX9_law_20 : decode cX9_law 20 = .ok (.ifCond .ne 6, 3) := by decide +kernel
theorem dX9_law_23 : decode cX9_law 23 = .ok (.bipush (-3), 2) := by decide +kernel
theorem dX9_law_25 : decode cX9_law 25 = .ok (.ireturn, 1) := by decide +kernel
theorem dX9_law_26 : decode cX9_law 26 = .ok (.aload_n 0, 1) := by decide +kernel
theorem dX9_law_27 : decode cX9_law 27 = .ok (.getfield 71, 3) := by decide +kernel
theorem dX9_law_30 : decode cX9_law 30 = .ok (.iload_n 1, 1) := by decide +kernel
theorem dX9_law_31 : decode cX9_law 31 = .ok (.invokevirtual 260, 3) := by decide +kernel
theorem dX9_law_34 : decode cX9_law 34 = .ok (.aload_n 0, 1) := by decide +kernel
theorem dX9_law_35 : decode cX9_law 35 = .ok (.getfield 71, 3) := by decide +kernel
theorem dX9_law_38 : decode cX9_law 38 = .ok (.iload_n 2, 1) := by decide +kernel
theorem dX9_law_39 : decode cX9_law 39 = .ok (.invokevirtual 267, 3) := by decide +kernel
theorem dX9_law_42 : decode cX9_law 42 = .ok (.ireturn, 1) := by decide +kernel
theorem dX9_dated_0 : decode cX9_dated 0 = .ok (.aload_n 0, 1) := by decide +kernel
theorem dX9_dated_1 : decode cX9_dated 1 = .ok (.getfield 26, 3) := by decide +kernel
theorem dX9_dated_4 : decode cX9_dated 4 = .ok (.iload_n 1, 1) := by decide +kernel
theorem dX9_dated_5 : decode cX9_dated 5 = .ok (.invokevirtual 163, 3) := by decide +kernel
theorem dX9_dated_8 : decode cX9_dated 8 = .ok (.ifCond .ne 6, 3) := by decide +kernel
theorem dX9_dated_11 : decode cX9_dated 11 = .ok (.bipush (-2), 2) := by decide +kernel
theorem dX9_dated_13 : decode cX9_dated 13 = .ok (.ireturn, 1) := by decide +kernel
theorem dX9_dated_14 : decode cX9_dated 14 = .ok (.iload_n 2, 1) := by decide +kernel
theorem dX9_dated_15 : decode cX9_dated 15 = .ok (.iconst (-1), 1) := by decide +kernel
theorem dX9_dated_16 : decode cX9_dated 16 = .ok (.sipush 9999, 3) := by decide +kernel
theorem dX9_dated_19 : decode cX9_dated 19 = .ok (.invokestatic 84, 3) := by decide +kernel
theorem dX9_dated_22 : decode cX9_dated 22 = .ok (.ifCond .ne 6, 3) := by decide +kernel
theorem dX9_dated_25 : decode cX9_dated 25 = .ok (.bipush (-3), 2) := by decide +kernel
theorem dX9_dated_27 : decode cX9_dated 27 = .ok (.ireturn, 1) := by decide +kernel
theorem dX9_dated_28 : decode cX9_dated 28 = .ok (.aload_n 0, 1) := by decide +kernel
theorem dX9_dated_29 : decode cX9_dated 29 = .ok (.getfield 26, 3) := by decide +kernel
theorem dX9_dated_32 : decode cX9_dated 32 = .ok (.getfield 270, 3) := by decide +kernel
theorem dX9_dated_35 : decode cX9_dated 35 = .ok (.iload_n 1, 1) := by decide +kernel
theorem dX9_dated_36 : decode cX9_dated 36 = .ok (.iload_n 2, 1) := by decide +kernel
theorem dX9_dated_37 : decode cX9_dated 37 = .ok (.iastore, 1) := by decide +kernel
theorem dX9_dated_38 : decode cX9_dated 38 = .ok (.iconst 1, 1) := by decide +kernel
theorem dX9_dated_39 : decode cX9_dated 39 = .ok (.ireturn, 1) := by decide +kernel
theorem dX9_learnt_0 : decode cX9_learnt 0 = .ok (.iload_n 1, 1) := by decide +kernel
theorem dX9_learnt_1 : decode cX9_learnt 1 = .ok (.invokestatic 115, 3) := by decide +kernel
theorem dX9_learnt_4 : decode cX9_learnt 4 = .ok (.ifCond .ne 6, 3) := by decide +kernel
theorem dX9_learnt_7 : decode cX9_learnt 7 = .ok (.bipush (-2), 2) := by decide +kernel
theorem dX9_learnt_9 : decode cX9_learnt 9 = .ok (.ireturn, 1) := by decide +kernel
theorem dX9_learnt_10 : decode cX9_learnt 10 = .ok (.iload_n 2, 1) := by decide +kernel
theorem dX9_learnt_11 : decode cX9_learnt 11 = .ok (.iconst 0, 1) := by decide +kernel
theorem dX9_learnt_12 : decode cX9_learnt 12 = .ok (.iconst 1, 1) := by decide +kernel
theorem dX9_learnt_13 : decode cX9_learnt 13 = .ok (.invokestatic 84, 3) := by decide +kernel
theorem dX9_learnt_16 : decode cX9_learnt 16 = .ok (.ifCond .ne 6, 3) := by decide +kernel
theorem dX9_learnt_19 : decode cX9_learnt 19 = .ok (.bipush (-3), 2) := by decide +kernel
theorem dX9_learnt_21 : decode cX9_learnt 21 = .ok (.ireturn, 1) := by decide +kernel
theorem dX9_learnt_22 : decode cX9_learnt 22 = .ok (.aload_n 0, 1) := by decide +kernel
theorem dX9_learnt_23 : decode cX9_learnt 23 = .ok (.getfield 80, 3) := by decide +kernel
theorem dX9_learnt_26 : decode cX9_learnt 26 = .ok (.iload_n 1, 1) := by decide +kernel
theorem dX9_learnt_27 : decode cX9_learnt 27 = .ok (.iload_n 2, 1) := by decide +kernel
theorem dX9_learnt_28 : decode cX9_learnt 28 = .ok (.invokevirtual 273, 3) := by decide +kernel
theorem dX9_learnt_31 : decode cX9_learnt 31 = .ok (.ireturn, 1) := by decide +kernel
theorem dX9_count_0 : decode cX9_count 0 = .ok (.iload_n 1, 1) := by decide +kernel
theorem dX9_count_1 : decode cX9_count 1 = .ok (.tableswitch 87 0 5 #[39, 47, 55, 63, 71, 79], 39) := by decide +kernel
theorem dX9_count_40 : decode cX9_count 40 = .ok (.aload_n 0, 1) := by decide +kernel
theorem dX9_count_41 : decode cX9_count 41 = .ok (.getfield 19, 3) := by decide +kernel
theorem dX9_count_44 : decode cX9_count 44 = .ok (.invokevirtual 276, 3) := by decide +kernel
theorem dX9_count_47 : decode cX9_count 47 = .ok (.ireturn, 1) := by decide +kernel
theorem dX9_count_48 : decode cX9_count 48 = .ok (.aload_n 0, 1) := by decide +kernel
theorem dX9_count_49 : decode cX9_count 49 = .ok (.getfield 12, 3) := by decide +kernel
theorem dX9_count_52 : decode cX9_count 52 = .ok (.getfield 279, 3) := by decide +kernel
theorem dX9_count_55 : decode cX9_count 55 = .ok (.ireturn, 1) := by decide +kernel
theorem dX9_count_56 : decode cX9_count 56 = .ok (.aload_n 0, 1) := by decide +kernel
theorem dX9_count_57 : decode cX9_count 57 = .ok (.getfield 26, 3) := by decide +kernel
theorem dX9_count_60 : decode cX9_count 60 = .ok (.getfield 152, 3) := by decide +kernel
theorem dX9_count_63 : decode cX9_count 63 = .ok (.ireturn, 1) := by decide +kernel
theorem dX9_count_64 : decode cX9_count 64 = .ok (.aload_n 0, 1) := by decide +kernel
theorem dX9_count_65 : decode cX9_count 65 = .ok (.getfield 19, 3) := by decide +kernel
theorem dX9_count_68 : decode cX9_count 68 = .ok (.getfield 282, 3) := by decide +kernel
theorem dX9_count_71 : decode cX9_count 71 = .ok (.ireturn, 1) := by decide +kernel
theorem dX9_count_72 : decode cX9_count 72 = .ok (.aload_n 0, 1) := by decide +kernel
theorem dX9_count_73 : decode cX9_count 73 = .ok (.getfield 19, 3) := by decide +kernel
theorem dX9_count_76 : decode cX9_count 76 = .ok (.getfield 285, 3) := by decide +kernel
theorem dX9_count_79 : decode cX9_count 79 = .ok (.ireturn, 1) := by decide +kernel
theorem dX9_count_80 : decode cX9_count 80 = .ok (.aload_n 0, 1) := by decide +kernel
theorem dX9_count_81 : decode cX9_count 81 = .ok (.getfield 26, 3) := by decide +kernel
theorem dX9_count_84 : decode cX9_count 84 = .ok (.invokevirtual 288, 3) := by decide +kernel
theorem dX9_count_87 : decode cX9_count 87 = .ok (.ireturn, 1) := by decide +kernel
theorem dX9_count_88 : decode cX9_count 88 = .ok (.bipush (-3), 2) := by decide +kernel
theorem dX9_count_90 : decode cX9_count 90 = .ok (.ireturn, 1) := by decide +kernel
theorem dX9_isPlace_0 : decode cX9_isPlace 0 = .ok (.iload_n 0, 1) := by decide +kernel
theorem dX9_isPlace_1 : decode cX9_isPlace 1 = .ok (.iconst 0, 1) := by decide +kernel
theorem dX9_isPlace_2 : decode cX9_isPlace 2 = .ok (.bipush 9, 2) := by decide +kernel
theorem dX9_isPlace_4 : decode cX9_isPlace 4 = .ok (.invokestatic 84, 3) := by decide +kernel
theorem dX9_isPlace_7 : decode cX9_isPlace 7 = .ok (.ireturn, 1) := by decide +kernel
theorem dX9_areMeasured_0 : decode cX9_areMeasured 0 = .ok (.iload_n 1, 1) := by decide +kernel
theorem dX9_areMeasured_1 : decode cX9_areMeasured 1 = .ok (.iconst 1, 1) := by decide +kernel
theorem dX9_areMeasured_2 : decode cX9_areMeasured 2 = .ok (.bipush 99, 2) := by decide +kernel
theorem dX9_areMeasured_4 : decode cX9_areMeasured 4 = .ok (.invokestatic 84, 3) := by decide +kernel
theorem dX9_areMeasured_7 : decode cX9_areMeasured 7 = .ok (.istore_n 2, 1) := by decide +kernel
theorem dX9_areMeasured_8 : decode cX9_areMeasured 8 = .ok (.iconst 0, 1) := by decide +kernel
theorem dX9_areMeasured_9 : decode cX9_areMeasured 9 = .ok (.istore_n 3, 1) := by decide +kernel
theorem dX9_areMeasured_10 : decode cX9_areMeasured 10 = .ok (.iload_n 3, 1) := by decide +kernel
theorem dX9_areMeasured_11 : decode cX9_areMeasured 11 = .ok (.iconst 3, 1) := by decide +kernel
theorem dX9_areMeasured_12 : decode cX9_areMeasured 12 = .ok (.if_icmp .ge 30, 3) := by decide +kernel
theorem dX9_areMeasured_15 : decode cX9_areMeasured 15 = .ok (.iload_n 2, 1) := by decide +kernel
theorem dX9_areMeasured_16 : decode cX9_areMeasured 16 = .ok (.ifCond .eq 18, 3) := by decide +kernel
theorem dX9_areMeasured_19 : decode cX9_areMeasured 19 = .ok (.iload_n 0, 1) := by decide +kernel
theorem dX9_areMeasured_20 : decode cX9_areMeasured 20 = .ok (.iload_n 3, 1) := by decide +kernel
theorem dX9_areMeasured_21 : decode cX9_areMeasured 21 = .ok (.invokestatic 291, 3) := by decide +kernel
theorem dX9_areMeasured_24 : decode cX9_areMeasured 24 = .ok (.sipush 999, 3) := by decide +kernel
theorem dX9_areMeasured_27 : decode cX9_areMeasured 27 = .ok (.if_icmp .gt 7, 3) := by decide +kernel
theorem dX9_areMeasured_30 : decode cX9_areMeasured 30 = .ok (.iconst 1, 1) := by decide +kernel
theorem dX9_areMeasured_31 : decode cX9_areMeasured 31 = .ok (.goto 4, 3) := by decide +kernel
theorem dX9_areMeasured_34 : decode cX9_areMeasured 34 = .ok (.iconst 0, 1) := by decide +kernel
theorem dX9_areMeasured_35 : decode cX9_areMeasured 35 = .ok (.istore_n 2, 1) := by decide +kernel
theorem dX9_areMeasured_36 : decode cX9_areMeasured 36 = .ok (.iinc 3 1, 3) := by decide +kernel
theorem dX9_areMeasured_39 : decode cX9_areMeasured 39 = .ok (.goto (-29), 3) := by decide +kernel
theorem dX9_areMeasured_42 : decode cX9_areMeasured 42 = .ok (.iload_n 2, 1) := by decide +kernel
theorem dX9_areMeasured_43 : decode cX9_areMeasured 43 = .ok (.ireturn, 1) := by decide +kernel
theorem dX9_numberAt_0 : decode cX9_numberAt 0 = .ok (.iload_n 0, 1) := by decide +kernel
theorem dX9_numberAt_1 : decode cX9_numberAt 1 = .ok (.bipush 10, 2) := by decide +kernel
theorem dX9_numberAt_3 : decode cX9_numberAt 3 = .ok (.iload_n 1, 1) := by decide +kernel
theorem dX9_numberAt_4 : decode cX9_numberAt 4 = .ok (.imul, 1) := by decide +kernel
theorem dX9_numberAt_5 : decode cX9_numberAt 5 = .ok (.ishr, 1) := by decide +kernel
theorem dX9_numberAt_6 : decode cX9_numberAt 6 = .ok (.sipush 1023, 3) := by decide +kernel
theorem dX9_numberAt_9 : decode cX9_numberAt 9 = .ok (.iand, 1) := by decide +kernel
theorem dX9_numberAt_10 : decode cX9_numberAt 10 = .ok (.ireturn, 1) := by decide +kernel
theorem dX9_isWithin_0 : decode cX9_isWithin 0 = .ok (.iload_n 0, 1) := by decide +kernel
theorem dX9_isWithin_1 : decode cX9_isWithin 1 = .ok (.iload_n 1, 1) := by decide +kernel
theorem dX9_isWithin_2 : decode cX9_isWithin 2 = .ok (.if_icmp .lt 12, 3) := by decide +kernel
theorem dX9_isWithin_5 : decode cX9_isWithin 5 = .ok (.iload_n 0, 1) := by decide +kernel
theorem dX9_isWithin_6 : decode cX9_isWithin 6 = .ok (.iload_n 2, 1) := by decide +kernel
theorem dX9_isWithin_7 : decode cX9_isWithin 7 = .ok (.if_icmp .gt 7, 3) := by decide +kernel
theorem dX9_isWithin_10 : decode cX9_isWithin 10 = .ok (.iconst 1, 1) := by decide +kernel
theorem dX9_isWithin_11 : decode cX9_isWithin 11 = .ok (.goto 4, 3) := by decide +kernel
theorem dX9_isWithin_14 : decode cX9_isWithin 14 = .ok (.iconst 0, 1) := by decide +kernel
theorem dX9_isWithin_15 : decode cX9_isWithin 15 = .ok (.ireturn, 1) := by decide +kernel
theorem dX9_hasBit_0 : decode cX9_hasBit 0 = .ok (.iload_n 0, 1) := by decide +kernel
theorem dX9_hasBit_1 : decode cX9_hasBit 1 = .ok (.iload_n 1, 1) := by decide +kernel
theorem dX9_hasBit_2 : decode cX9_hasBit 2 = .ok (.ishr, 1) := by decide +kernel
theorem dX9_hasBit_3 : decode cX9_hasBit 3 = .ok (.iconst 1, 1) := by decide +kernel
theorem dX9_hasBit_4 : decode cX9_hasBit 4 = .ok (.iand, 1) := by decide +kernel
theorem dX9_hasBit_5 : decode cX9_hasBit 5 = .ok (.ifCond .eq 7, 3) := by decide +kernel
theorem dX9_hasBit_8 : decode cX9_hasBit 8 = .ok (.iconst 1, 1) := by decide +kernel
theorem dX9_hasBit_9 : decode cX9_hasBit 9 = .ok (.goto 4, 3) := by decide +kernel
theorem dX9_hasBit_12 : decode cX9_hasBit 12 = .ok (.iconst 0, 1) := by decide +kernel
theorem dX9_hasBit_13 : decode cX9_hasBit 13 = .ok (.ireturn, 1) := by decide +kernel
theorem dX9_cut_0 : decode cX9_cut 0 = .ok (.iload_n 1, 1) := by decide +kernel
theorem dX9_cut_1 : decode cX9_cut 1 = .ok (.ifCond .le 9, 3) := by decide +kernel
theorem dX9_cut_4 : decode cX9_cut 4 = .ok (.iload_n 0, 1) := by decide +kernel
theorem dX9_cut_5 : decode cX9_cut 5 = .ok (.iload_n 1, 1) := by decide +kernel
theorem dX9_cut_6 : decode cX9_cut 6 = .ok (.idiv, 1) := by decide +kernel
theorem dX9_cut_7 : decode cX9_cut 7 = .ok (.goto 4, 3) := by decide +kernel
theorem dX9_cut_10 : decode cX9_cut 10 = .ok (.iconst 0, 1) := by decide +kernel
theorem dX9_cut_11 : decode cX9_cut 11 = .ok (.ireturn, 1) := by decide +kernel
theorem dX9_lesser_0 : decode cX9_lesser 0 = .ok (.iload_n 0, 1) := by decide +kernel
theorem dX9_lesser_1 : decode cX9_lesser 1 = .ok (.iconst (-1), 1) := by decide +kernel
theorem dX9_lesser_2 : decode cX9_lesser 2 = .ok (.if_icmp .ne 7, 3) := by decide +kernel
theorem dX9_lesser_5 : decode cX9_lesser 5 = .ok (.iload_n 1, 1) := by decide +kernel
theorem dX9_lesser_6 : decode cX9_lesser 6 = .ok (.goto 8, 3) := by decide +kernel
theorem dX9_lesser_9 : decode cX9_lesser 9 = .ok (.iload_n 0, 1) := by decide +kernel
theorem dX9_lesser_10 : decode cX9_lesser 10 = .ok (.iload_n 1, 1) := by decide +kernel
theorem dX9_lesser_11 : decode cX9_lesser 11 = .ok (.invokestatic 294, 3) := by decide +kernel
theorem dX9_lesser_14 : decode cX9_lesser 14 = .ok (.ireturn, 1) := by decide +kernel
theorem dJ6_bitCount_0f7a4_0 : decode cJ6_bitCount_0f7a4 0 = .ok (.iload_n 0, 1) := by decide +kernel
theorem dJ6_bitCount_0f7a4_1 : decode cJ6_bitCount_0f7a4 1 = .ok (.iload_n 0, 1) := by decide +kernel
theorem dJ6_bitCount_0f7a4_2 : decode cJ6_bitCount_0f7a4 2 = .ok (.iconst 1, 1) := by decide +kernel
theorem dJ6_bitCount_0f7a4_3 : decode cJ6_bitCount_0f7a4 3 = .ok (.iushr, 1) := by decide +kernel
theorem dJ6_bitCount_0f7a4_4 : decode cJ6_bitCount_0f7a4 4 = .ok (.ldc_w 265, 3) := by decide +kernel
theorem dJ6_bitCount_0f7a4_7 : decode cJ6_bitCount_0f7a4 7 = .ok (.iand, 1) := by decide +kernel
theorem dJ6_bitCount_0f7a4_8 : decode cJ6_bitCount_0f7a4 8 = .ok (.isub, 1) := by decide +kernel
theorem dJ6_bitCount_0f7a4_9 : decode cJ6_bitCount_0f7a4 9 = .ok (.istore_n 0, 1) := by decide +kernel
theorem dJ6_bitCount_0f7a4_10 : decode cJ6_bitCount_0f7a4 10 = .ok (.iload_n 0, 1) := by decide +kernel
theorem dJ6_bitCount_0f7a4_11 : decode cJ6_bitCount_0f7a4 11 = .ok (.ldc_w 266, 3) := by decide +kernel
theorem dJ6_bitCount_0f7a4_14 : decode cJ6_bitCount_0f7a4 14 = .ok (.iand, 1) := by decide +kernel
theorem dJ6_bitCount_0f7a4_15 : decode cJ6_bitCount_0f7a4 15 = .ok (.iload_n 0, 1) := by decide +kernel
theorem dJ6_bitCount_0f7a4_16 : decode cJ6_bitCount_0f7a4 16 = .ok (.iconst 2, 1) := by decide +kernel
theorem dJ6_bitCount_0f7a4_17 : decode cJ6_bitCount_0f7a4 17 = .ok (.iushr, 1) := by decide +kernel
theorem dJ6_bitCount_0f7a4_18 : decode cJ6_bitCount_0f7a4 18 = .ok (.ldc_w 266, 3) := by decide +kernel
theorem dJ6_bitCount_0f7a4_21 : decode cJ6_bitCount_0f7a4 21 = .ok (.iand, 1) := by decide +kernel
theorem dJ6_bitCount_0f7a4_22 : decode cJ6_bitCount_0f7a4 22 = .ok (.iadd, 1) := by decide +kernel
theorem dJ6_bitCount_0f7a4_23 : decode cJ6_bitCount_0f7a4 23 = .ok (.istore_n 0, 1) := by decide +kernel
theorem dJ6_bitCount_0f7a4_24 : decode cJ6_bitCount_0f7a4 24 = .ok (.iload_n 0, 1) := by decide +kernel
theorem dJ6_bitCount_0f7a4_25 : decode cJ6_bitCount_0f7a4 25 = .ok (.iload_n 0, 1) := by decide +kernel
theorem dJ6_bitCount_0f7a4_26 : decode cJ6_bitCount_0f7a4 26 = .ok (.iconst 4, 1) := by decide +kernel
theorem dJ6_bitCount_0f7a4_27 : decode cJ6_bitCount_0f7a4 27 = .ok (.iushr, 1) := by decide +kernel
theorem dJ6_bitCount_0f7a4_28 : decode cJ6_bitCount_0f7a4 28 = .ok (.iadd, 1) := by decide +kernel
theorem dJ6_bitCount_0f7a4_29 : decode cJ6_bitCount_0f7a4 29 = .ok (.ldc_w 267, 3) := by decide +kernel
theorem dJ6_bitCount_0f7a4_32 : decode cJ6_bitCount_0f7a4 32 = .ok (.iand, 1) := by decide +kernel
theorem dJ6_bitCount_0f7a4_33 : decode cJ6_bitCount_0f7a4 33 = .ok (.istore_n 0, 1) := by decide +kernel
theorem dJ6_bitCount_0f7a4_34 : decode cJ6_bitCount_0f7a4 34 = .ok (.iload_n 0, 1) := by decide +kernel
theorem dJ6_bitCount_0f7a4_35 : decode cJ6_bitCount_0f7a4 35 = .ok (.iload_n 0, 1) := by decide +kernel
theorem dJ6_bitCount_0f7a4_36 : decode cJ6_bitCount_0f7a4 36 = .ok (.bipush 8, 2) := by decide +kernel
theorem dJ6_bitCount_0f7a4_38 : decode cJ6_bitCount_0f7a4 38 = .ok (.iushr, 1) := by decide +kernel
theorem dJ6_bitCount_0f7a4_39 : decode cJ6_bitCount_0f7a4 39 = .ok (.iadd, 1) := by decide +kernel
theorem dJ6_bitCount_0f7a4_40 : decode cJ6_bitCount_0f7a4 40 = .ok (.istore_n 0, 1) := by decide +kernel
theorem dJ6_bitCount_0f7a4_41 : decode cJ6_bitCount_0f7a4 41 = .ok (.iload_n 0, 1) := by decide +kernel
theorem dJ6_bitCount_0f7a4_42 : decode cJ6_bitCount_0f7a4 42 = .ok (.iload_n 0, 1) := by decide +kernel
theorem dJ6_bitCount_0f7a4_43 : decode cJ6_bitCount_0f7a4 43 = .ok (.bipush 16, 2) := by decide +kernel
theorem dJ6_bitCount_0f7a4_45 : decode cJ6_bitCount_0f7a4 45 = .ok (.iushr, 1) := by decide +kernel
theorem dJ6_bitCount_0f7a4_46 : decode cJ6_bitCount_0f7a4 46 = .ok (.iadd, 1) := by decide +kernel
theorem dJ6_bitCount_0f7a4_47 : decode cJ6_bitCount_0f7a4 47 = .ok (.istore_n 0, 1) := by decide +kernel
theorem dJ6_bitCount_0f7a4_48 : decode cJ6_bitCount_0f7a4 48 = .ok (.iload_n 0, 1) := by decide +kernel
theorem dJ6_bitCount_0f7a4_49 : decode cJ6_bitCount_0f7a4 49 = .ok (.bipush 63, 2) := by decide +kernel
theorem dJ6_bitCount_0f7a4_51 : decode cJ6_bitCount_0f7a4 51 = .ok (.iand, 1) := by decide +kernel
theorem dJ6_bitCount_0f7a4_52 : decode cJ6_bitCount_0f7a4 52 = .ok (.ireturn, 1) := by decide +kernel
theorem dJ9_abs_0f7a4_0 : decode cJ9_abs_0f7a4 0 = .ok (.iload_n 0, 1) := by decide +kernel
theorem dJ9_abs_0f7a4_1 : decode cJ9_abs_0f7a4 1 = .ok (.ifCond .ge 8, 3) := by decide +kernel
theorem dJ9_abs_0f7a4_4 : decode cJ9_abs_0f7a4 4 = .ok (.iload_n 0, 1) := by decide +kernel
theorem dJ9_abs_0f7a4_5 : decode cJ9_abs_0f7a4 5 = .ok (.ineg, 1) := by decide +kernel
theorem dJ9_abs_0f7a4_6 : decode cJ9_abs_0f7a4 6 = .ok (.goto 4, 3) := by decide +kernel
theorem dJ9_abs_0f7a4_9 : decode cJ9_abs_0f7a4 9 = .ok (.iload_n 0, 1) := by decide +kernel
theorem dJ9_abs_0f7a4_10 : decode cJ9_abs_0f7a4 10 = .ok (.ireturn, 1) := by decide +kernel
theorem dJ9_max_7cf53_0 : decode cJ9_max_7cf53 0 = .ok (.iload_n 0, 1) := by decide +kernel
theorem dJ9_max_7cf53_1 : decode cJ9_max_7cf53 1 = .ok (.iload_n 1, 1) := by decide +kernel
theorem dJ9_max_7cf53_2 : decode cJ9_max_7cf53 2 = .ok (.if_icmp .lt 7, 3) := by decide +kernel
theorem dJ9_max_7cf53_5 : decode cJ9_max_7cf53 5 = .ok (.iload_n 0, 1) := by decide +kernel
theorem dJ9_max_7cf53_6 : decode cJ9_max_7cf53 6 = .ok (.goto 4, 3) := by decide +kernel
theorem dJ9_max_7cf53_9 : decode cJ9_max_7cf53 9 = .ok (.iload_n 1, 1) := by decide +kernel
theorem dJ9_max_7cf53_10 : decode cJ9_max_7cf53 10 = .ok (.ireturn, 1) := by decide +kernel
theorem dJ9_min_7cf53_0 : decode cJ9_min_7cf53 0 = .ok (.iload_n 0, 1) := by decide +kernel
theorem dJ9_min_7cf53_1 : decode cJ9_min_7cf53 1 = .ok (.iload_n 1, 1) := by decide +kernel
theorem dJ9_min_7cf53_2 : decode cJ9_min_7cf53 2 = .ok (.if_icmp .gt 7, 3) := by decide +kernel
theorem dJ9_min_7cf53_5 : decode cJ9_min_7cf53 5 = .ok (.iload_n 0, 1) := by decide +kernel
theorem dJ9_min_7cf53_6 : decode cJ9_min_7cf53 6 = .ok (.goto 4, 3) := by decide +kernel
theorem dJ9_min_7cf53_9 : decode cJ9_min_7cf53 9 = .ok (.iload_n 1, 1) := by decide +kernel
theorem dJ9_min_7cf53_10 : decode cJ9_min_7cf53 10 = .ok (.ireturn, 1) := by decide +kernel
theorem dJ0_length_8abf5_0 : decode cJ0_length_8abf5 0 = .ok (.aload_n 0, 1) := by decide +kernel
theorem dJ0_length_8abf5_1 : decode cJ0_length_8abf5 1 = .ok (.getfield 9, 3) := by decide +kernel
theorem dJ0_length_8abf5_4 : decode cJ0_length_8abf5 4 = .ok (.arraylength, 1) := by decide +kernel
theorem dJ0_length_8abf5_5 : decode cJ0_length_8abf5 5 = .ok (.aload_n 0, 1) := by decide +kernel
theorem dJ0_length_8abf5_6 : decode cJ0_length_8abf5 6 = .ok (.invokevirtual 335, 3) := by decide +kernel
theorem dJ0_length_8abf5_9 : decode cJ0_length_8abf5 9 = .ok (.ishr, 1) := by decide +kernel
theorem dJ0_length_8abf5_10 : decode cJ0_length_8abf5 10 = .ok (.ireturn, 1) := by decide +kernel
theorem dJ0_charAt_5068e_0 : decode cJ0_charAt_5068e 0 = .ok (.aload_n 0, 1) := by decide +kernel
theorem dJ0_charAt_5068e_1 : decode cJ0_charAt_5068e 1 = .ok (.invokevirtual 492, 3) := by decide +kernel
theorem dJ0_charAt_5068e_4 : decode cJ0_charAt_5068e 4 = .ok (.ifCond .eq 12, 3) := by decide +kernel
theorem dJ0_charAt_5068e_7 : decode cJ0_charAt_5068e 7 = .ok (.aload_n 0, 1) := by decide +kernel
theorem dJ0_charAt_5068e_8 : decode cJ0_charAt_5068e 8 = .ok (.getfield 9, 3) := by decide +kernel
theorem dJ0_charAt_5068e_11 : decode cJ0_charAt_5068e 11 = .ok (.iload_n 1, 1) := by decide +kernel
theorem dJ0_charAt_5068e_12 : decode cJ0_charAt_5068e 12 = .ok (.invokestatic 495, 3) := by decide +kernel
theorem dJ0_charAt_5068e_15 : decode cJ0_charAt_5068e 15 = .ok (.ireturn, 1) := by decide +kernel
theorem dJ0_charAt_5068e_16 : decode cJ0_charAt_5068e 16 = .ok (.aload_n 0, 1) := by decide +kernel
theorem dJ0_charAt_5068e_17 : decode cJ0_charAt_5068e 17 = .ok (.getfield 9, 3) := by decide +kernel
theorem dJ0_charAt_5068e_20 : decode cJ0_charAt_5068e 20 = .ok (.iload_n 1, 1) := by decide +kernel
theorem dJ0_charAt_5068e_21 : decode cJ0_charAt_5068e 21 = .ok (.invokestatic 498, 3) := by decide +kernel
theorem dJ0_charAt_5068e_24 : decode cJ0_charAt_5068e 24 = .ok (.ireturn, 1) := by decide +kernel
theorem dJ0_coder_7d493_0 : decode cJ0_coder_7d493 0 = .ok (.getstatic 38, 3) := by decide +kernel
theorem dJ0_coder_7d493_3 : decode cJ0_coder_7d493 3 = .ok (.ifCond .eq 10, 3) := by decide +kernel
theorem dJ0_coder_7d493_6 : decode cJ0_coder_7d493 6 = .ok (.aload_n 0, 1) := by decide +kernel
theorem dJ0_coder_7d493_7 : decode cJ0_coder_7d493 7 = .ok (.getfield 15, 3) := by decide +kernel
theorem dJ0_coder_7d493_10 : decode cJ0_coder_7d493 10 = .ok (.goto 4, 3) := by decide +kernel
theorem dJ0_coder_7d493_13 : decode cJ0_coder_7d493 13 = .ok (.iconst 1, 1) := by decide +kernel
theorem dJ0_coder_7d493_14 : decode cJ0_coder_7d493 14 = .ok (.ireturn, 1) := by decide +kernel
theorem dJ0_isLatin1_aae02_0 : decode cJ0_isLatin1_aae02 0 = .ok (.getstatic 38, 3) := by decide +kernel
theorem dJ0_isLatin1_aae02_3 : decode cJ0_isLatin1_aae02 3 = .ok (.ifCond .eq 14, 3) := by decide +kernel
theorem dJ0_isLatin1_aae02_6 : decode cJ0_isLatin1_aae02 6 = .ok (.aload_n 0, 1) := by decide +kernel
theorem dJ0_isLatin1_aae02_7 : decode cJ0_isLatin1_aae02 7 = .ok (.getfield 15, 3) := by decide +kernel
theorem dJ0_isLatin1_aae02_10 : decode cJ0_isLatin1_aae02 10 = .ok (.ifCond .ne 7, 3) := by decide +kernel
theorem dJ0_isLatin1_aae02_13 : decode cJ0_isLatin1_aae02 13 = .ok (.iconst 1, 1) := by decide +kernel
theorem dJ0_isLatin1_aae02_14 : decode cJ0_isLatin1_aae02 14 = .ok (.goto 4, 3) := by decide +kernel
theorem dJ0_isLatin1_aae02_17 : decode cJ0_isLatin1_aae02 17 = .ok (.iconst 0, 1) := by decide +kernel
theorem dJ0_isLatin1_aae02_18 : decode cJ0_isLatin1_aae02 18 = .ok (.ireturn, 1) := by decide +kernel
theorem dJ0_checkIndex_df160_0 : decode cJ0_checkIndex_df160 0 = .ok (.iload_n 0, 1) := by decide +kernel
theorem dJ0_checkIndex_df160_1 : decode cJ0_checkIndex_df160 1 = .ok (.iload_n 1, 1) := by decide +kernel
theorem dJ0_checkIndex_df160_2 : decode cJ0_checkIndex_df160 2 = .ok (.getstatic 1053, 3) := by decide +kernel
theorem dJ0_checkIndex_df160_5 : decode cJ0_checkIndex_df160 5 = .ok (.invokestatic 1059, 3) := by decide +kernel
theorem dJ0_checkIndex_df160_8 : decode cJ0_checkIndex_df160 8 = .ok (.pop, 1) := by decide +kernel
theorem dJ0_checkIndex_df160_9 : decode cJ0_checkIndex_df160 9 = .ok (.return_, 1) := by decide +kernel
theorem dJ1_charAt_3b067_0 : decode cJ1_charAt_3b067 0 = .ok (.iload_n 1, 1) := by decide +kernel
theorem dJ1_charAt_3b067_1 : decode cJ1_charAt_3b067 1 = .ok (.aload_n 0, 1) := by decide +kernel
theorem dJ1_charAt_3b067_2 : decode cJ1_charAt_3b067 2 = .ok (.arraylength, 1) := by decide +kernel
theorem dJ1_charAt_3b067_3 : decode cJ1_charAt_3b067 3 = .ok (.invokestatic 9, 3) := by decide +kernel
theorem dJ1_charAt_3b067_6 : decode cJ1_charAt_3b067 6 = .ok (.aload_n 0, 1) := by decide +kernel
theorem dJ1_charAt_3b067_7 : decode cJ1_charAt_3b067 7 = .ok (.iload_n 1, 1) := by decide +kernel
theorem dJ1_charAt_3b067_8 : decode cJ1_charAt_3b067 8 = .ok (.baload, 1) := by decide +kernel
theorem dJ1_charAt_3b067_9 : decode cJ1_charAt_3b067 9 = .ok (.sipush 255, 3) := by decide +kernel
theorem dJ1_charAt_3b067_12 : decode cJ1_charAt_3b067 12 = .ok (.iand, 1) := by decide +kernel
theorem dJ1_charAt_3b067_13 : decode cJ1_charAt_3b067 13 = .ok (.i2c, 1) := by decide +kernel
theorem dJ1_charAt_3b067_14 : decode cJ1_charAt_3b067 14 = .ok (.ireturn, 1) := by decide +kernel
theorem dJ2_getChar_3b067_0 : decode cJ2_getChar_3b067 0 = .ok (.getstatic 44, 3) := by decide +kernel
theorem dJ2_getChar_3b067_3 : decode cJ2_getChar_3b067 3 = .ok (.ifCond .ne 25, 3) := by decide +kernel
theorem dJ2_getChar_3b067_6 : decode cJ2_getChar_3b067 6 = .ok (.iload_n 1, 1) := by decide +kernel
theorem dJ2_getChar_3b067_7 : decode cJ2_getChar_3b067 7 = .ok (.ifCond .lt 11, 3) := by decide +kernel
theorem dJ2_getChar_3b067_10 : decode cJ2_getChar_3b067 10 = .ok (.iload_n 1, 1) := by decide +kernel
theorem dJ2_getChar_3b067_11 : decode cJ2_getChar_3b067 11 = .ok (.aload_n 0, 1) := by decide +kernel
theorem dJ2_getChar_3b067_12 : decode cJ2_getChar_3b067 12 = .ok (.invokestatic 48, 3) := by decide +kernel
theorem dJ2_getChar_3b067_15 : decode cJ2_getChar_3b067 15 = .ok (.if_icmp .lt 13, 3) := by decide +kernel
theorem dJ2_getChar_3b067_18 : decode cJ2_getChar_3b067 18 = .ok (.new 52, 3) := by decide +kernel
theorem dJ2_getChar_3b067_21 : decode cJ2_getChar_3b067 21 = .ok (.dup, 1) := by decide +kernel
theorem dJ2_getChar_3b067_22 : decode cJ2_getChar_3b067 22 = .ok (.ldc 54, 2) := by decide +kernel
theorem dJ2_getChar_3b067_24 : decode cJ2_getChar_3b067 24 = .ok (.invokespecial 56, 3) := by decide +kernel
theorem dJ2_getChar_3b067_27 : decode cJ2_getChar_3b067 27 = .ok (.athrow, 1) := by decide +kernel
theorem dJ2_getChar_3b067_28 : decode cJ2_getChar_3b067 28 = .ok (.iload_n 1, 1) := by decide +kernel
theorem dJ2_getChar_3b067_29 : decode cJ2_getChar_3b067 29 = .ok (.iconst 1, 1) := by decide +kernel
theorem dJ2_getChar_3b067_30 : decode cJ2_getChar_3b067 30 = .ok (.ishl, 1) := by decide +kernel
theorem dJ2_getChar_3b067_31 : decode cJ2_getChar_3b067 31 = .ok (.istore_n 1, 1) := by decide +kernel
theorem dJ2_getChar_3b067_32 : decode cJ2_getChar_3b067 32 = .ok (.aload_n 0, 1) := by decide +kernel
theorem dJ2_getChar_3b067_33 : decode cJ2_getChar_3b067 33 = .ok (.iload_n 1, 1) := by decide +kernel
theorem dJ2_getChar_3b067_34 : decode cJ2_getChar_3b067 34 = .ok (.iinc 1 1, 3) := by decide +kernel
theorem dJ2_getChar_3b067_37 : decode cJ2_getChar_3b067 37 = .ok (.baload, 1) := by decide +kernel
theorem dJ2_getChar_3b067_38 : decode cJ2_getChar_3b067 38 = .ok (.sipush 255, 3) := by decide +kernel
theorem dJ2_getChar_3b067_41 : decode cJ2_getChar_3b067 41 = .ok (.iand, 1) := by decide +kernel
theorem dJ2_getChar_3b067_42 : decode cJ2_getChar_3b067 42 = .ok (.getstatic 59, 3) := by decide +kernel
theorem dJ2_getChar_3b067_45 : decode cJ2_getChar_3b067 45 = .ok (.ishl, 1) := by decide +kernel
theorem dJ2_getChar_3b067_46 : decode cJ2_getChar_3b067 46 = .ok (.aload_n 0, 1) := by decide +kernel
theorem dJ2_getChar_3b067_47 : decode cJ2_getChar_3b067 47 = .ok (.iload_n 1, 1) := by decide +kernel
theorem dJ2_getChar_3b067_48 : decode cJ2_getChar_3b067 48 = .ok (.baload, 1) := by decide +kernel
theorem dJ2_getChar_3b067_49 : decode cJ2_getChar_3b067 49 = .ok (.sipush 255, 3) := by decide +kernel
theorem dJ2_getChar_3b067_52 : decode cJ2_getChar_3b067 52 = .ok (.iand, 1) := by decide +kernel
theorem dJ2_getChar_3b067_53 : decode cJ2_getChar_3b067 53 = .ok (.getstatic 63, 3) := by decide +kernel
theorem dJ2_getChar_3b067_56 : decode cJ2_getChar_3b067 56 = .ok (.ishl, 1) := by decide +kernel
theorem dJ2_getChar_3b067_57 : decode cJ2_getChar_3b067 57 = .ok (.ior, 1) := by decide +kernel
theorem dJ2_getChar_3b067_58 : decode cJ2_getChar_3b067 58 = .ok (.i2c, 1) := by decide +kernel
theorem dJ2_getChar_3b067_59 : decode cJ2_getChar_3b067 59 = .ok (.ireturn, 1) := by decide +kernel
theorem dJ2_length_9d52b_0 : decode cJ2_length_9d52b 0 = .ok (.aload_n 0, 1) := by decide +kernel
theorem dJ2_length_9d52b_1 : decode cJ2_length_9d52b 1 = .ok (.arraylength, 1) := by decide +kernel
theorem dJ2_length_9d52b_2 : decode cJ2_length_9d52b 2 = .ok (.iconst 1, 1) := by decide +kernel
theorem dJ2_length_9d52b_3 : decode cJ2_length_9d52b 3 = .ok (.ishr, 1) := by decide +kernel
theorem dJ2_length_9d52b_4 : decode cJ2_length_9d52b 4 = .ok (.ireturn, 1) := by decide +kernel
theorem dJ2_charAt_3b067_0 : decode cJ2_charAt_3b067 0 = .ok (.iload_n 1, 1) := by decide +kernel
theorem dJ2_charAt_3b067_1 : decode cJ2_charAt_3b067 1 = .ok (.aload_n 0, 1) := by decide +kernel
theorem dJ2_charAt_3b067_2 : decode cJ2_charAt_3b067 2 = .ok (.invokestatic 67, 3) := by decide +kernel
theorem dJ2_charAt_3b067_5 : decode cJ2_charAt_3b067 5 = .ok (.aload_n 0, 1) := by decide +kernel
theorem dJ2_charAt_3b067_6 : decode cJ2_charAt_3b067 6 = .ok (.iload_n 1, 1) := by decide +kernel
theorem dJ2_charAt_3b067_7 : decode cJ2_charAt_3b067 7 = .ok (.invokestatic 71, 3) := by decide +kernel
theorem dJ2_charAt_3b067_10 : decode cJ2_charAt_3b067 10 = .ok (.ireturn, 1) := by decide +kernel
theorem dJ2_checkIndex_2214a_0 : decode cJ2_checkIndex_2214a 0 = .ok (.iload_n 0, 1) := by decide +kernel
theorem dJ2_checkIndex_2214a_1 : decode cJ2_checkIndex_2214a 1 = .ok (.aload_n 1, 1) := by decide +kernel
theorem dJ2_checkIndex_2214a_2 : decode cJ2_checkIndex_2214a 2 = .ok (.invokestatic 48, 3) := by decide +kernel
theorem dJ2_checkIndex_2214a_5 : decode cJ2_checkIndex_2214a 5 = .ok (.invokestatic 414, 3) := by decide +kernel
theorem dJ2_checkIndex_2214a_8 : decode cJ2_checkIndex_2214a 8 = .ok (.return_, 1) := by decide +kernel
theorem dJ3_checkIndex_8e157_0 : decode cJ3_checkIndex_8e157 0 = .ok (.iload_n 0, 1) := by decide +kernel
theorem dJ3_checkIndex_8e157_1 : decode cJ3_checkIndex_8e157 1 = .ok (.ifCond .lt 8, 3) := by decide +kernel
theorem dJ3_checkIndex_8e157_4 : decode cJ3_checkIndex_8e157 4 = .ok (.iload_n 0, 1) := by decide +kernel
theorem dJ3_checkIndex_8e157_5 : decode cJ3_checkIndex_8e157 5 = .ok (.iload_n 1, 1) := by decide +kernel
theorem dJ3_checkIndex_8e157_6 : decode cJ3_checkIndex_8e157 6 = .ok (.if_icmp .lt 10, 3) := by decide +kernel
theorem dJ3_checkIndex_8e157_9 : decode cJ3_checkIndex_8e157 9 = .ok (.aload_n 2, 1) := by decide +kernel
theorem dJ3_checkIndex_8e157_10 : decode cJ3_checkIndex_8e157 10 = .ok (.iload_n 0, 1) := by decide +kernel
theorem dJ3_checkIndex_8e157_11 : decode cJ3_checkIndex_8e157 11 = .ok (.iload_n 1, 1) := by decide +kernel
theorem dJ3_checkIndex_8e157_12 : decode cJ3_checkIndex_8e157 12 = .ok (.invokestatic 95, 3) := by decide +kernel
theorem dJ3_checkIndex_8e157_15 : decode cJ3_checkIndex_8e157 15 = .ok (.athrow, 1) := by decide +kernel
theorem dJ3_checkIndex_8e157_16 : decode cJ3_checkIndex_8e157 16 = .ok (.iload_n 0, 1) := by decide +kernel
theorem dJ3_checkIndex_8e157_17 : decode cJ3_checkIndex_8e157 17 = .ok (.ireturn, 1) := by decide +kernel
end
section
theorem dX10_init_0 : decode cX10_init 0 = .ok (.aload_n 0, 1) := by decide +kernel
theorem dX10_init_1 : decode cX10_init 1 = .ok (.invokespecial 1, 3) := by decide +kernel
theorem dX10_init_4 : decode cX10_init 4 = .ok (.aload_n 0, 1) := by decide +kernel
theorem dX10_init_5 : decode cX10_init 5 = .ok (.bipush 30, 2) := by decide +kernel
theorem dX10_init_7 : decode cX10_init 7 = .ok (.newarray .int, 2) := by decide +kernel
theorem dX10_init_9 : decode cX10_init 9 = .ok (.putfield 7, 3) := by decide +kernel
theorem dX10_init_12 : decode cX10_init 12 = .ok (.aload_n 0, 1) := by decide +kernel
theorem dX10_init_13 : decode cX10_init 13 = .ok (.sipush 200, 3) := by decide +kernel
theorem dX10_init_16 : decode cX10_init 16 = .ok (.newarray .int, 2) := by decide +kernel
theorem dX10_init_18 : decode cX10_init 18 = .ok (.putfield 13, 3) := by decide +kernel
theorem dX10_init_21 : decode cX10_init 21 = .ok (.aload_n 0, 1) := by decide +kernel
theorem dX10_init_22 : decode cX10_init 22 = .ok (.bipush 54, 2) := by decide +kernel
theorem dX10_init_24 : decode cX10_init 24 = .ok (.newarray .int, 2) := by decide +kernel
theorem dX10_init_26 : decode cX10_init 26 = .ok (.putfield 16, 3) := by decide +kernel
theorem dX10_init_29 : decode cX10_init 29 = .ok (.aload_n 0, 1) := by decide +kernel
theorem dX10_init_30 : decode cX10_init 30 = .ok (.bipush 20, 2) := by decide +kernel
theorem dX10_init_32 : decode cX10_init 32 = .ok (.putfield 19, 3) := by decide +kernel
theorem dX10_init_35 : decode cX10_init 35 = .ok (.aload_n 0, 1) := by decide +kernel
theorem dX10_init_36 : decode cX10_init 36 = .ok (.bipush 30, 2) := by decide +kernel
theorem dX10_init_38 : decode cX10_init 38 = .ok (.putfield 23, 3) := by decide +kernel
theorem dX10_init_41 : decode cX10_init 41 = .ok (.aload_n 0, 1) := by decide +kernel
theorem dX10_init_42 : decode cX10_init 42 = .ok (.sipush 200, 3) := by decide +kernel
theorem dX10_init_45 : decode cX10_init 45 = .ok (.newarray .int, 2) := by decide +kernel
theorem dX10_init_47 : decode cX10_init 47 = .ok (.putfield 26, 3) := by decide +kernel
theorem dX10_init_50 : decode cX10_init 50 = .ok (.aload_n 0, 1) := by decide +kernel
theorem dX10_init_51 : decode cX10_init 51 = .ok (.bipush 64, 2) := by decide +kernel
theorem dX10_init_53 : decode cX10_init 53 = .ok (.newarray .int, 2) := by decide +kernel
theorem dX10_init_55 : decode cX10_init 55 = .ok (.putfield 29, 3) := by decide +kernel
theorem dX10_init_58 : decode cX10_init 58 = .ok (.aload_n 0, 1) := by decide +kernel
theorem dX10_init_59 : decode cX10_init 59 = .ok (.sipush 132, 3) := by decide +kernel
theorem dX10_init_62 : decode cX10_init 62 = .ok (.newarray .int, 2) := by decide +kernel
theorem dX10_init_64 : decode cX10_init 64 = .ok (.putfield 32, 3) := by decide +kernel
theorem dX10_init_67 : decode cX10_init 67 = .ok (.aload_n 0, 1) := by decide +kernel
theorem dX10_init_68 : decode cX10_init 68 = .ok (.bipush 12, 2) := by decide +kernel
theorem dX10_init_70 : decode cX10_init 70 = .ok (.newarray .int, 2) := by decide +kernel
theorem dX10_init_72 : decode cX10_init 72 = .ok (.putfield 35, 3) := by decide +kernel
theorem dX10_init_75 : decode cX10_init 75 = .ok (.aload_n 0, 1) := by decide +kernel
theorem dX10_init_76 : decode cX10_init 76 = .ok (.bipush 12, 2) := by decide +kernel
theorem dX10_init_78 : decode cX10_init 78 = .ok (.newarray .int, 2) := by decide +kernel
theorem dX10_init_80 : decode cX10_init 80 = .ok (.putfield 38, 3) := by decide +kernel
theorem dX10_init_83 : decode cX10_init 83 = .ok (.aload_n 0, 1) := by decide +kernel
theorem dX10_init_84 : decode cX10_init 84 = .ok (.bipush 12, 2) := by decide +kernel
theorem dX10_init_86 : decode cX10_init 86 = .ok (.newarray .int, 2) := by decide +kernel
theorem dX10_init_88 : decode cX10_init 88 = .ok (.putfield 41, 3) := by decide +kernel
theorem dX10_init_91 : decode cX10_init 91 = .ok (.aload_n 0, 1) := by decide +kernel
theorem dX10_init_92 : decode cX10_init 92 = .ok (.bipush 12, 2) := by decide +kernel
theorem dX10_init_94 : decode cX10_init 94 = .ok (.newarray .int, 2) := by decide +kernel
theorem dX10_init_96 : decode cX10_init 96 = .ok (.putfield 44, 3) := by decide +kernel
theorem dX10_init_99 : decode cX10_init 99 = .ok (.aload_n 0, 1) := by decide +kernel
theorem dX10_init_100 : decode cX10_init 100 = .ok (.bipush 12, 2) := by decide +kernel
theorem dX10_init_102 : decode cX10_init 102 = .ok (.newarray .int, 2) := by decide +kernel
theorem dX10_init_104 : decode cX10_init 104 = .ok (.putfield 47, 3) := by decide +kernel
theorem dX10_init_107 : decode cX10_init 107 = .ok (.aload_n 0, 1) := by decide +kernel
theorem dX10_init_108 : decode cX10_init 108 = .ok (.bipush 12, 2) := by decide +kernel
theorem dX10_init_110 : decode cX10_init 110 = .ok (.newarray .int, 2) := by decide +kernel
theorem dX10_init_112 : decode cX10_init 112 = .ok (.putfield 50, 3) := by decide +kernel
theorem dX10_init_115 : decode cX10_init 115 = .ok (.aload_n 0, 1) := by decide +kernel
theorem dX10_init_116 : decode cX10_init 116 = .ok (.bipush 12, 2) := by decide +kernel
theorem dX10_init_118 : decode cX10_init 118 = .ok (.newarray .int, 2) := by decide +kernel
theorem dX10_init_120 : decode cX10_init 120 = .ok (.putfield 53, 3) := by decide +kernel
theorem dX10_init_123 : decode cX10_init 123 = .ok (.aload_n 0, 1) := by decide +kernel
theorem dX10_init_124 : decode cX10_init 124 = .ok (.bipush 12, 2) := by decide +kernel
theorem dX10_init_126 : decode cX10_init 126 = .ok (.newarray .int, 2) := by decide +kernel
theorem dX10_init_128 : decode cX10_init 128 = .ok (.putfield 56, 3) := by decide +kernel
theorem dX10_init_131 : decode cX10_init 131 = .ok (.aload_n 0, 1) := by decide +kernel
theorem dX10_init_132 : decode cX10_init 132 = .ok (.bipush 10, 2) := by decide +kernel
theorem dX10_init_134 : decode cX10_init 134 = .ok (.newarray .int, 2) := by decide +kernel
theorem dX10_init_136 : decode cX10_init 136 = .ok (.putfield 59, 3) := by decide +kernel
theorem dX10_init_139 : decode cX10_init 139 = .ok (.aload_n 0, 1) := by decide +kernel
theorem dX10_init_140 : decode cX10_init 140 = .ok (.bipush 10, 2) := by decide +kernel
theorem dX10_init_142 : decode cX10_init 142 = .ok (.newarray .int, 2) := by decide +kernel
theorem dX10_init_144 : decode cX10_init 144 = .ok (.putfield 62, 3) := by decide +kernel
theorem dX10_init_147 : decode cX10_init 147 = .ok (.aload_n 0, 1) := by decide +kernel
theorem dX10_init_148 : decode cX10_init 148 = .ok (.bipush 90, 2) := by decide +kernel
theorem dX10_init_150 : decode cX10_init 150 = .ok (.newarray .int, 2) := by decide +kernel
theorem dX10_init_152 : decode cX10_init 152 = .ok (.putfield 65, 3) := by decide +kernel
theorem dX10_init_155 : decode cX10_init 155 = .ok (.aload_n 0, 1) := by decide +kernel
theorem dX10_init_156 : decode cX10_init 156 = .ok (.bipush 90, 2) := by decide +kernel
theorem dX10_init_158 : decode cX10_init 158 = .ok (.newarray .int, 2) := by decide +kernel
theorem dX10_init_160 : decode cX10_init 160 = .ok (.putfield 68, 3) := by decide +kernel
theorem dX10_init_163 : decode cX10_init 163 = .ok (.iconst 0, 1) := by decide +kernel
theorem dX10_init_164 : decode cX10_init 164 = .ok (.istore_n 1, 1) := by decide +kernel
theorem dX10_init_165 : decode cX10_init 165 = .ok (.iload_n 1, 1) := by decide +kernel
theorem dX10_init_166 : decode cX10_init 166 = .ok (.bipush 10, 2) := by decide +kernel
theorem dX10_init_168 : decode cX10_init 168 = .ok (.if_icmp .ge 34, 3) := by decide +kernel
theorem dX10_init_171 : decode cX10_init 171 = .ok (.aload_n 0, 1) := by decide +kernel
theorem dX10_init_172 : decode cX10_init 172 = .ok (.getfield 7, 3) := by decide +kernel
theorem dX10_init_175 : decode cX10_init 175 = .ok (.iconst 3, 1) := by decide +kernel
theorem dX10_init_176 : decode cX10_init 176 = .ok (.iload_n 1, 1) := by decide +kernel
theorem dX10_init_177 : decode cX10_init 177 = .ok (.imul, 1) := by decide +kernel
theorem dX10_init_178 : decode cX10_init 178 = .ok (.iconst 1, 1) := by decide +kernel
theorem dX10_init_179 : decode cX10_init 179 = .ok (.iadd, 1) := by decide +kernel
theorem dX10_init_180 : decode cX10_init 180 = .ok (.sipush 9999, 3) := by decide +kernel
theorem dX10_init_183 : decode cX10_init 183 = .ok (.iastore, 1) := by decide +kernel
theorem dX10_init_184 : decode cX10_init 184 = .ok (.aload_n 0, 1) := by decide +kernel
theorem dX10_init_185 : decode cX10_init 185 = .ok (.getfield 7, 3) := by decide +kernel
theorem dX10_init_188 : decode cX10_init 188 = .ok (.iconst 3, 1) := by decide +kernel
theorem dX10_init_189 : decode cX10_init 189 = .ok (.iload_n 1, 1) := by decide +kernel
theorem dX10_init_190 : decode cX10_init 190 = .ok (.imul, 1) := by decide +kernel
theorem dX10_init_191 : decode cX10_init 191 = .ok (.iconst 2, 1) := by decide +kernel
theorem dX10_init_192 : decode cX10_init 192 = .ok (.iadd, 1) := by decide +kernel
theorem dX10_init_193 : decode cX10_init 193 = .ok (.bipush 100, 2) := by decide +kernel
theorem dX10_init_195 : decode cX10_init 195 = .ok (.iastore, 1) := by decide +kernel
theorem dX10_init_196 : decode cX10_init 196 = .ok (.iinc 1 1, 3) := by decide +kernel
theorem dX10_init_199 : decode cX10_init 199 = .ok (.goto (-34), 3) := by decide +kernel
theorem dX10_init_202 : decode cX10_init 202 = .ok (.return_, 1) := by decide +kernel
theorem dX10_in_0 : decode cX10_in 0 = .ok (.iload_n 0, 1) := by decide +kernel
theorem dX10_in_1 : decode cX10_in 1 = .ok (.iload_n 1, 1) := by decide +kernel
theorem dX10_in_2 : decode cX10_in 2 = .ok (.if_icmp .lt 12, 3) := by decide +kernel
theorem dX10_in_5 : decode cX10_in 5 = .ok (.iload_n 0, 1) := by decide +kernel
theorem dX10_in_6 : decode cX10_in 6 = .ok (.iload_n 2, 1) := by decide +kernel
theorem dX10_in_7 : decode cX10_in 7 = .ok (.if_icmp .gt 7, 3) := by decide +kernel
theorem dX10_in_10 : decode cX10_in 10 = .ok (.iconst 1, 1) := by decide +kernel
theorem dX10_in_11 : decode cX10_in 11 = .ok (.goto 4, 3) := by decide +kernel
theorem dX10_in_14 : decode cX10_in 14 = .ok (.iconst 0, 1) := by decide +kernel
theorem dX10_in_15 : decode cX10_in 15 = .ok (.ireturn, 1) := by decide +kernel
theorem dX10_isPlace_0 : decode cX10_isPlace 0 = .ok (.iload_n 0, 1) := by decide +kernel
theorem dX10_isPlace_1 : decode cX10_isPlace 1 = .ok (.iconst 0, 1) := by decide +kernel
theorem dX10_isPlace_2 : decode cX10_isPlace 2 = .ok (.bipush 9, 2) := by decide +kernel
theorem dX10_isPlace_4 : decode cX10_isPlace 4 = .ok (.invokestatic 71, 3) := by decide +kernel
theorem dX10_isPlace_7 : decode cX10_isPlace 7 = .ok (.ireturn, 1) := by decide +kernel
theorem dX10_isFlow_0 : decode cX10_isFlow 0 = .ok (.iload_n 1, 1) := by decide +kernel
theorem dX10_isFlow_1 : decode cX10_isFlow 1 = .ok (.iconst 0, 1) := by decide +kernel
theorem dX10_isFlow_2 : decode cX10_isFlow 2 = .ok (.bipush 8, 2) := by decide +kernel
theorem dX10_isFlow_4 : decode cX10_isFlow 4 = .ok (.invokestatic 71, 3) := by decide +kernel
theorem dX10_isFlow_7 : decode cX10_isFlow 7 = .ok (.ifCond .eq 19, 3) := by decide +kernel
theorem dX10_isFlow_10 : decode cX10_isFlow 10 = .ok (.aload_n 0, 1) := by decide +kernel
theorem dX10_isFlow_11 : decode cX10_isFlow 11 = .ok (.getfield 75, 3) := by decide +kernel
theorem dX10_isFlow_14 : decode cX10_isFlow 14 = .ok (.iload_n 1, 1) := by decide +kernel
theorem dX10_isFlow_15 : decode cX10_isFlow 15 = .ok (.ishr, 1) := by decide +kernel
theorem dX10_isFlow_16 : decode cX10_isFlow 16 = .ok (.iconst 1, 1) := by decide +kernel
theorem dX10_isFlow_17 : decode cX10_isFlow 17 = .ok (.iand, 1) := by decide +kernel
theorem dX10_isFlow_18 : decode cX10_isFlow 18 = .ok (.iconst 1, 1) := by decide +kernel
theorem dX10_isFlow_19 : decode cX10_isFlow 19 = .ok (.if_icmp .ne 7, 3) := by decide +kernel
theorem dX10_isFlow_22 : decode cX10_isFlow 22 = .ok (.iconst 1, 1) := by decide +kernel
theorem dX10_isFlow_23 : decode cX10_isFlow 23 = .ok (.goto 4, 3) := by decide +kernel
theorem dX10_isFlow_26 : decode cX10_isFlow 26 = .ok (.iconst 0, 1) := by decide +kernel
theorem dX10_isFlow_27 : decode cX10_isFlow 27 = .ok (.ireturn, 1) := by decide +kernel
theorem dX10_isBlade_0 : decode cX10_isBlade 0 = .ok (.iload_n 1, 1) := by decide +kernel
theorem dX10_isBlade_1 : decode cX10_isBlade 1 = .ok (.iconst 0, 1) := by decide +kernel
theorem dX10_isBlade_2 : decode cX10_isBlade 2 = .ok (.aload_n 0, 1) := by decide +kernel
theorem dX10_isBlade_3 : decode cX10_isBlade 3 = .ok (.getfield 78, 3) := by decide +kernel
theorem dX10_isBlade_6 : decode cX10_isBlade 6 = .ok (.iconst 1, 1) := by decide +kernel
theorem dX10_isBlade_7 : decode cX10_isBlade 7 = .ok (.isub, 1) := by decide +kernel
theorem dX10_isBlade_8 : decode cX10_isBlade 8 = .ok (.invokestatic 71, 3) := by decide +kernel
theorem dX10_isBlade_11 : decode cX10_isBlade 11 = .ok (.ireturn, 1) := by decide +kernel
theorem dX10_at_0 : decode cX10_at 0 = .ok (.aload_n 0, 1) := by decide +kernel
theorem dX10_at_1 : decode cX10_at 1 = .ok (.getfield 32, 3) := by decide +kernel
theorem dX10_at_4 : decode cX10_at 4 = .ok (.bipush 11, 2) := by decide +kernel
theorem dX10_at_6 : decode cX10_at 6 = .ok (.iload_n 1, 1) := by decide +kernel
theorem dX10_at_7 : decode cX10_at 7 = .ok (.imul, 1) := by decide +kernel
theorem dX10_at_8 : decode cX10_at 8 = .ok (.iload_n 2, 1) := by decide +kernel
theorem dX10_at_9 : decode cX10_at 9 = .ok (.iadd, 1) := by decide +kernel
theorem dX10_at_10 : decode cX10_at 10 = .ok (.iaload, 1) := by decide +kernel
theorem dX10_at_11 : decode cX10_at 11 = .ok (.ireturn, 1) := by decide +kernel
theorem dX10_write_0 : decode cX10_write 0 = .ok (.iload_n 3, 1) := by decide +kernel
theorem dX10_write_1 : decode cX10_write 1 = .ok (.iconst 1, 1) := by decide +kernel
theorem dX10_write_2 : decode cX10_write 2 = .ok (.bipush 8, 2) := by decide +kernel
theorem dX10_write_4 : decode cX10_write 4 = .ok (.invokestatic 71, 3) := by decide +kernel
theorem dX10_write_7 : decode cX10_write 7 = .ok (.ifCond .ne 6, 3) := by decide +kernel
theorem dX10_write_10 : decode cX10_write 10 = .ok (.bipush (-3), 2) := by decide +kernel
theorem dX10_write_12 : decode cX10_write 12 = .ok (.ireturn, 1) := by decide +kernel
theorem dX10_write_13 : decode cX10_write 13 = .ok (.aload_n 0, 1) := by decide +kernel
theorem dX10_write_14 : decode cX10_write 14 = .ok (.getfield 81, 3) := by decide +kernel
theorem dX10_write_17 : decode cX10_write 17 = .ok (.iload_n 3, 1) := by decide +kernel
theorem dX10_write_18 : decode cX10_write 18 = .ok (.iadd, 1) := by decide +kernel
theorem dX10_write_19 : decode cX10_write 19 = .ok (.sipush 200, 3) := by decide +kernel
theorem dX10_write_22 : decode cX10_write 22 = .ok (.if_icmp .le 6, 3) := by decide +kernel
theorem dX10_write_25 : decode cX10_write 25 = .ok (.bipush (-5), 2) := by decide +kernel
theorem dX10_write_27 : decode cX10_write 27 = .ok (.ireturn, 1) := by decide +kernel
theorem dX10_write_28 : decode cX10_write 28 = .ok (.iconst 0, 1) := by decide +kernel
theorem dX10_write_29 : decode cX10_write 29 = .ok (.istore 4, 2) := by decide +kernel
theorem dX10_write_31 : decode cX10_write 31 = .ok (.iload 4, 2) := by decide +kernel
theorem dX10_write_33 : decode cX10_write 33 = .ok (.iload_n 3, 1) := by decide +kernel
theorem dX10_write_34 : decode cX10_write 34 = .ok (.if_icmp .ge 33, 3) := by decide +kernel
theorem dX10_write_37 : decode cX10_write 37 = .ok (.aload_n 0, 1) := by decide +kernel
theorem dX10_write_38 : decode cX10_write 38 = .ok (.getfield 26, 3) := by decide +kernel
theorem dX10_write_41 : decode cX10_write 41 = .ok (.aload_n 0, 1) := by decide +kernel
theorem dX10_write_42 : decode cX10_write 42 = .ok (.getfield 81, 3) := by decide +kernel
theorem dX10_write_45 : decode cX10_write 45 = .ok (.iload 4, 2) := by decide +kernel
theorem dX10_write_47 : decode cX10_write 47 = .ok (.iadd, 1) := by decide +kernel
theorem dX10_write_48 : decode cX10_write 48 = .ok (.lload_n 1, 1) := by decide +kernel
theorem dX10_write_49 : decode cX10_write 49 = .ok (.bipush 8, 2) := by decide +kernel
theorem dX10_write_51 : decode cX10_write 51 = .ok (.iload 4, 2) := by decide +kernel
theorem dX10_write_53 : decode cX10_write 53 = .ok (.imul, 1) := by decide +kernel
theorem dX10_write_54 : decode cX10_write 54 = .ok (.lshr, 1) := by decide +kernel
theorem dX10_write_55 : decode cX10_write 55 = .ok (.ldc2_w 84, 3) := by decide +kernel
theorem dX10_write_58 : decode cX10_write 58 = .ok (.land, 1) := by decide +kernel
theorem dX10_write_59 : decode cX10_write 59 = .ok (.l2i, 1) := by decide +kernel
theorem dX10_write_60 : decode cX10_write 60 = .ok (.iastore, 1) := by decide +kernel
theorem dX10_write_61 : decode cX10_write 61 = .ok (.iinc 4 1, 3) := by decide +kernel
theorem dX10_write_64 : decode cX10_write 64 = .ok (.goto (-33), 3) := by decide +kernel
theorem dX10_write_67 : decode cX10_write 67 = .ok (.aload_n 0, 1) := by decide +kernel
theorem dX10_write_68 : decode cX10_write 68 = .ok (.dup, 1) := by decide +kernel
theorem dX10_write_69 : decode cX10_write 69 = .ok (.getfield 81, 3) := by decide +kernel
theorem dX10_write_72 : decode cX10_write 72 = .ok (.iload_n 3, 1) := by decide +kernel
theorem dX10_write_73 : decode cX10_write 73 = .ok (.iadd, 1) := by decide +kernel
theorem dX10_write_74 : decode cX10_write 74 = .ok (.putfield 81, 3) := by decide +kernel
theorem dX10_write_77 : decode cX10_write 77 = .ok (.aload_n 0, 1) := by decide +kernel
theorem dX10_write_78 : decode cX10_write 78 = .ok (.getfield 81, 3) := by decide +kernel
theorem dX10_write_81 : decode cX10_write 81 = .ok (.ireturn, 1) := by decide +kernel
theorem dX10_erase_0 : decode cX10_erase 0 = .ok (.aload_n 0, 1) := by decide +kernel
theorem dX10_erase_1 : decode cX10_erase 1 = .ok (.getfield 81, 3) := by decide +kernel
theorem dX10_erase_4 : decode cX10_erase 4 = .ok (.istore_n 1, 1) := by decide +kernel
theorem dX10_erase_5 : decode cX10_erase 5 = .ok (.aload_n 0, 1) := by decide +kernel
theorem dX10_erase_6 : decode cX10_erase 6 = .ok (.iconst 0, 1) := by decide +kernel
theorem dX10_erase_7 : decode cX10_erase 7 = .ok (.putfield 81, 3) := by decide +kernel
theorem dX10_erase_10 : decode cX10_erase 10 = .ok (.iload_n 1, 1) := by decide +kernel
theorem dX10_erase_11 : decode cX10_erase 11 = .ok (.ireturn, 1) := by decide +kernel
theorem dX10_nextToken_0 : decode cX10_nextToken 0 = .ok (.aload_n 0, 1) := by decide +kernel
theorem dX10_nextToken_1 : decode cX10_nextToken 1 = .ok (.getfield 86, 3) := by decide +kernel
theorem dX10_nextToken_4 : decode cX10_nextToken 4 = .ok (.aload_n 0, 1) := by decide +kernel
theorem dX10_nextToken_5 : decode cX10_nextToken 5 = .ok (.getfield 81, 3) := by decide +kernel
theorem dX10_nextToken_8 : decode cX10_nextToken 8 = .ok (.if_icmp .ge 30, 3) := by decide +kernel
theorem dX10_nextToken_11 : decode cX10_nextToken 11 = .ok (.aload_n 0, 1) := by decide +kernel
theorem dX10_nextToken_12 : decode cX10_nextToken 12 = .ok (.getfield 26, 3) := by decide +kernel
theorem dX10_nextToken_15 : decode cX10_nextToken 15 = .ok (.aload_n 0, 1) := by decide +kernel
theorem dX10_nextToken_16 : decode cX10_nextToken 16 = .ok (.getfield 86, 3) := by decide +kernel
theorem dX10_nextToken_19 : decode cX10_nextToken 19 = .ok (.iaload, 1) := by decide +kernel
theorem dX10_nextToken_20 : decode cX10_nextToken 20 = .ok (.bipush 32, 2) := by decide +kernel
theorem dX10_nextToken_22 : decode cX10_nextToken 22 = .ok (.if_icmp .ne 16, 3) := by decide +kernel
theorem dX10_nextToken_25 : decode cX10_nextToken 25 = .ok (.aload_n 0, 1) := by decide +kernel
theorem dX10_nextToken_26 : decode cX10_nextToken 26 = .ok (.dup, 1) := by decide +kernel
theorem dX10_nextToken_27 : decode cX10_nextToken 27 = .ok (.getfield 86, 3) := by decide +kernel
theorem dX10_nextToken_30 : decode cX10_nextToken 30 = .ok (.iconst 1, 1) := by decide +kernel
theorem dX10_nextToken_31 : decode cX10_nextToken 31 = .ok (.iadd, 1) := by decide +kernel
theorem dX10_nextToken_32 : decode cX10_nextToken 32 = .ok (.putfield 86, 3) := by decide +kernel
theorem dX10_nextToken_35 : decode cX10_nextToken 35 = .ok (.goto (-35), 3) := by decide +kernel
theorem dX10_nextToken_38 : decode cX10_nextToken 38 = .ok (.aload_n 0, 1) := by decide +kernel
theorem dX10_nextToken_39 : decode cX10_nextToken 39 = .ok (.aload_n 0, 1) := by decide +kernel
theorem dX10_nextToken_40 : decode cX10_nextToken 40 = .ok (.getfield 86, 3) := by decide +kernel
theorem dX10_nextToken_43 : decode cX10_nextToken 43 = .ok (.putfield 89, 3) := by decide +kernel
theorem dX10_nextToken_46 : decode cX10_nextToken 46 = .ok (.aload_n 0, 1) := by decide +kernel
theorem dX10_nextToken_47 : decode cX10_nextToken 47 = .ok (.iconst 0, 1) := by decide +kernel
theorem dX10_nextToken_48 : decode cX10_nextToken 48 = .ok (.putfield 92, 3) := by decide +kernel
theorem dX10_nextToken_51 : decode cX10_nextToken 51 = .ok (.aload_n 0, 1) := by decide +kernel
theorem dX10_nextToken_52 : decode cX10_nextToken 52 = .ok (.iconst 0, 1) := by decide +kernel
theorem dX10_nextToken_53 : decode cX10_nextToken 53 = .ok (.putfield 95, 3) := by decide +kernel
theorem dX10_nextToken_56 : decode cX10_nextToken 56 = .ok (.aload_n 0, 1) := by decide +kernel
theorem dX10_nextToken_57 : decode cX10_nextToken 57 = .ok (.getfield 86, 3) := by decide +kernel
theorem dX10_nextToken_60 : decode cX10_nextToken 60 = .ok (.aload_n 0, 1) := by decide +kernel
theorem dX10_nextToken_61 : decode cX10_nextToken 61 = .ok (.getfield 81, 3) := by decide +kernel
theorem dX10_nextToken_64 : decode cX10_nextToken 64 = .ok (.if_icmp .ne 13, 3) := by decide +kernel
theorem dX10_nextToken_67 : decode cX10_nextToken 67 = .ok (.aload_n 0, 1) := by decide +kernel
theorem dX10_nextToken_68 : decode cX10_nextToken 68 = .ok (.ldc2_w 98, 3) := by decide +kernel
theorem dX10_nextToken_71 : decode cX10_nextToken 71 = .ok (.putfield 100, 3) := by decide +kernel
theorem dX10_nextToken_74 : decode cX10_nextToken 74 = .ok (.goto 320, 3) := by decide +kernel
theorem dX10_nextToken_77 : decode cX10_nextToken 77 = .ok (.aload_n 0, 1) := by decide +kernel
theorem dX10_nextToken_78 : decode cX10_nextToken 78 = .ok (.getfield 26, 3) := by decide +kernel
theorem dX10_nextToken_81 : decode cX10_nextToken 81 = .ok (.aload_n 0, 1) := by decide +kernel
theorem dX10_nextToken_82 : decode cX10_nextToken 82 = .ok (.getfield 86, 3) := by decide +kernel
theorem dX10_nextToken_85 : decode cX10_nextToken 85 = .ok (.iaload, 1) := by decide +kernel
theorem dX10_nextToken_86 : decode cX10_nextToken 86 = .ok (.bipush 97, 2) := by decide +kernel
theorem dX10_nextToken_88 : decode cX10_nextToken 88 = .ok (.bipush 122, 2) := by decide +kernel
theorem dX10_nextToken_90 : decode cX10_nextToken 90 = .ok (.invokestatic 71, 3) := by decide +kernel
theorem dX10_nextToken_93 : decode cX10_nextToken 93 = .ok (.ifCond .eq 129, 3) := by decide +kernel
theorem dX10_nextToken_96 : decode cX10_nextToken 96 = .ok (.aload_n 0, 1) := by decide +kernel
theorem dX10_nextToken_97 : decode cX10_nextToken 97 = .ok (.lconst 0, 1) := by decide +kernel
theorem dX10_nextToken_98 : decode cX10_nextToken 98 = .ok (.putfield 100, 3) := by decide +kernel
theorem dX10_nextToken_101 : decode cX10_nextToken 101 = .ok (.aload_n 0, 1) := by decide +kernel
theorem dX10_nextToken_102 : decode cX10_nextToken 102 = .ok (.getfield 86, 3) := by decide +kernel
theorem dX10_nextToken_105 : decode cX10_nextToken 105 = .ok (.aload_n 0, 1) := by decide +kernel
theorem dX10_nextToken_106 : decode cX10_nextToken 106 = .ok (.getfield 81, 3) := by decide +kernel
theorem dX10_nextToken_109 : decode cX10_nextToken 109 = .ok (.if_icmp .ge 82, 3) := by decide +kernel
theorem dX10_nextToken_112 : decode cX10_nextToken 112 = .ok (.aload_n 0, 1) := by decide +kernel
theorem dX10_nextToken_113 : decode cX10_nextToken 113 = .ok (.getfield 26, 3) := by decide +kernel
theorem dX10_nextToken_116 : decode cX10_nextToken 116 = .ok (.aload_n 0, 1) := by decide +kernel
theorem dX10_nextToken_117 : decode cX10_nextToken 117 = .ok (.getfield 86, 3) := by decide +kernel
theorem dX10_nextToken_120 : decode cX10_nextToken 120 = .ok (.iaload, 1) := by decide +kernel
theorem dX10_nextToken_121 : decode cX10_nextToken 121 = .ok (.bipush 97, 2) := by decide +kernel
theorem dX10_nextToken_123 : decode cX10_nextToken 123 = .ok (.bipush 122, 2) := by decide +kernel
theorem dX10_nextToken_125 : decode cX10_nextToken 125 = .ok (.invokestatic 71, 3) := by decide +kernel
theorem dX10_nextToken_128 : decode cX10_nextToken 128 = .ok (.ifCond .eq 63, 3) := by decide +kernel
theorem dX10_nextToken_131 : decode cX10_nextToken 131 = .ok (.aload_n 0, 1) := by decide +kernel
theorem dX10_nextToken_132 : decode cX10_nextToken 132 = .ok (.aload_n 0, 1) := by decide +kernel
theorem dX10_nextToken_133 : decode cX10_nextToken 133 = .ok (.getfield 86, 3) := by decide +kernel
theorem dX10_nextToken_136 : decode cX10_nextToken 136 = .ok (.aload_n 0, 1) := by decide +kernel
theorem dX10_nextToken_137 : decode cX10_nextToken 137 = .ok (.getfield 89, 3) := by decide +kernel
theorem dX10_nextToken_140 : decode cX10_nextToken 140 = .ok (.isub, 1) := by decide +kernel
theorem dX10_nextToken_141 : decode cX10_nextToken 141 = .ok (.bipush 9, 2) := by decide +kernel
theorem dX10_nextToken_143 : decode cX10_nextToken 143 = .ok (.if_icmp .ge 29, 3) := by decide +kernel
theorem dX10_nextToken_146 : decode cX10_nextToken 146 = .ok (.ldc2_w 104, 3) := by decide +kernel
theorem dX10_nextToken_149 : decode cX10_nextToken 149 = .ok (.aload_n 0, 1) := by decide +kernel
theorem dX10_nextToken_150 : decode cX10_nextToken 150 = .ok (.getfield 100, 3) := by decide +kernel
theorem dX10_nextToken_153 : decode cX10_nextToken 153 = .ok (.lmul, 1) := by decide +kernel
theorem dX10_nextToken_154 : decode cX10_nextToken 154 = .ok (.aload_n 0, 1) := by decide +kernel
theorem dX10_nextToken_155 : decode cX10_nextToken 155 = .ok (.getfield 26, 3) := by decide +kernel
theorem dX10_nextToken_158 : decode cX10_nextToken 158 = .ok (.aload_n 0, 1) := by decide +kernel
theorem dX10_nextToken_159 : decode cX10_nextToken 159 = .ok (.getfield 86, 3) := by decide +kernel
theorem dX10_nextToken_162 : decode cX10_nextToken 162 = .ok (.iaload, 1) := by decide +kernel
theorem dX10_nextToken_163 : decode cX10_nextToken 163 = .ok (.i2l, 1) := by decide +kernel
theorem dX10_nextToken_164 : decode cX10_nextToken 164 = .ok (.ladd, 1) := by decide +kernel
theorem dX10_nextToken_165 : decode cX10_nextToken 165 = .ok (.ldc2_w 106, 3) := by decide +kernel
theorem dX10_nextToken_168 : decode cX10_nextToken 168 = .ok (.lsub, 1) := by decide +kernel
theorem dX10_nextToken_169 : decode cX10_nextToken 169 = .ok (.goto 6, 3) := by decide +kernel
theorem dX10_nextToken_172 : decode cX10_nextToken 172 = .ok (.ldc2_w 108, 3) := by decide +kernel
theorem dX10_nextToken_175 : decode cX10_nextToken 175 = .ok (.putfield 100, 3) := by decide +kernel
theorem dX10_nextToken_178 : decode cX10_nextToken 178 = .ok (.aload_n 0, 1) := by decide +kernel
theorem dX10_nextToken_179 : decode cX10_nextToken 179 = .ok (.dup, 1) := by decide +kernel
theorem dX10_nextToken_180 : decode cX10_nextToken 180 = .ok (.getfield 86, 3) := by decide +kernel
theorem dX10_nextToken_183 : decode cX10_nextToken 183 = .ok (.iconst 1, 1) := by decide +kernel
theorem dX10_nextToken_184 : decode cX10_nextToken 184 = .ok (.iadd, 1) := by decide +kernel
theorem dX10_nextToken_185 : decode cX10_nextToken 185 = .ok (.putfield 86, 3) := by decide +kernel
theorem dX10_nextToken_188 : decode cX10_nextToken 188 = .ok (.goto (-87), 3) := by decide +kernel
theorem dX10_nextToken_191 : decode cX10_nextToken 191 = .ok (.aload_n 0, 1) := by decide +kernel
theorem dX10_nextToken_192 : decode cX10_nextToken 192 = .ok (.aload_n 0, 1) := by decide +kernel
theorem dX10_nextToken_193 : decode cX10_nextToken 193 = .ok (.getfield 86, 3) := by decide +kernel
theorem dX10_nextToken_196 : decode cX10_nextToken 196 = .ok (.aload_n 0, 1) := by decide +kernel
theorem dX10_nextToken_197 : decode cX10_nextToken 197 = .ok (.getfield 89, 3) := by decide +kernel
theorem dX10_nextToken_200 : decode cX10_nextToken 200 = .ok (.isub, 1) := by decide +kernel
theorem dX10_nextToken_201 : decode cX10_nextToken 201 = .ok (.bipush 9, 2) := by decide +kernel
theorem dX10_nextToken_203 : decode cX10_nextToken 203 = .ok (.if_icmp .le 9, 3) := by decide +kernel
theorem dX10_nextToken_206 : decode cX10_nextToken 206 = .ok (.ldc2_w 108, 3) := by decide +kernel
theorem dX10_nextToken_209 : decode cX10_nextToken 209 = .ok (.goto 7, 3) := by decide +kernel
theorem dX10_nextToken_212 : decode cX10_nextToken 212 = .ok (.aload_n 0, 1) := by decide +kernel
theorem dX10_nextToken_213 : decode cX10_nextToken 213 = .ok (.getfield 100, 3) := by decide +kernel
theorem dX10_nextToken_216 : decode cX10_nextToken 216 = .ok (.putfield 100, 3) := by decide +kernel
theorem dX10_nextToken_219 : decode cX10_nextToken 219 = .ok (.goto 175, 3) := by decide +kernel
theorem dX10_nextToken_222 : decode cX10_nextToken 222 = .ok (.aload_n 0, 1) := by decide +kernel
theorem dX10_nextToken_223 : decode cX10_nextToken 223 = .ok (.getfield 26, 3) := by decide +kernel
theorem dX10_nextToken_226 : decode cX10_nextToken 226 = .ok (.aload_n 0, 1) := by decide +kernel
theorem dX10_nextToken_227 : decode cX10_nextToken 227 = .ok (.getfield 86, 3) := by decide +kernel
theorem dX10_nextToken_230 : decode cX10_nextToken 230 = .ok (.iaload, 1) := by decide +kernel
theorem dX10_nextToken_231 : decode cX10_nextToken 231 = .ok (.bipush 48, 2) := by decide +kernel
theorem dX10_nextToken_233 : decode cX10_nextToken 233 = .ok (.bipush 57, 2) := by decide +kernel
theorem dX10_nextToken_235 : decode cX10_nextToken 235 = .ok (.invokestatic 71, 3) := by decide +kernel
theorem dX10_nextToken_238 : decode cX10_nextToken 238 = .ok (.ifCond .eq 119, 3) := by decide +kernel
theorem dX10_nextToken_241 : decode cX10_nextToken 241 = .ok (.aload_n 0, 1) := by decide +kernel
theorem dX10_nextToken_242 : decode cX10_nextToken 242 = .ok (.getfield 86, 3) := by decide +kernel
theorem dX10_nextToken_245 : decode cX10_nextToken 245 = .ok (.aload_n 0, 1) := by decide +kernel
theorem dX10_nextToken_246 : decode cX10_nextToken 246 = .ok (.getfield 81, 3) := by decide +kernel
theorem dX10_nextToken_249 : decode cX10_nextToken 249 = .ok (.if_icmp .ge 84, 3) := by decide +kernel
theorem dX10_nextToken_252 : decode cX10_nextToken 252 = .ok (.aload_n 0, 1) := by decide +kernel
theorem dX10_nextToken_253 : decode cX10_nextToken 253 = .ok (.getfield 26, 3) := by decide +kernel
theorem dX10_nextToken_256 : decode cX10_nextToken 256 = .ok (.aload_n 0, 1) := by decide +kernel
theorem dX10_nextToken_257 : decode cX10_nextToken 257 = .ok (.getfield 86, 3) := by decide +kernel
theorem dX10_nextToken_260 : decode cX10_nextToken 260 = .ok (.iaload, 1) := by decide +kernel
theorem dX10_nextToken_261 : decode cX10_nextToken 261 = .ok (.bipush 48, 2) := by decide +kernel
theorem dX10_nextToken_263 : decode cX10_nextToken 263 = .ok (.bipush 57, 2) := by decide +kernel
theorem dX10_nextToken_265 : decode cX10_nextToken 265 = .ok (.invokestatic 71, 3) := by decide +kernel
theorem dX10_nextToken_268 : decode cX10_nextToken 268 = .ok (.ifCond .eq 65, 3) := by decide +kernel
theorem dX10_nextToken_271 : decode cX10_nextToken 271 = .ok (.aload_n 0, 1) := by decide +kernel
theorem dX10_nextToken_272 : decode cX10_nextToken 272 = .ok (.aload_n 0, 1) := by decide +kernel
theorem dX10_nextToken_273 : decode cX10_nextToken 273 = .ok (.getfield 92, 3) := by decide +kernel
theorem dX10_nextToken_276 : decode cX10_nextToken 276 = .ok (.iconst 4, 1) := by decide +kernel
theorem dX10_nextToken_277 : decode cX10_nextToken 277 = .ok (.if_icmp .ge 26, 3) := by decide +kernel
theorem dX10_nextToken_280 : decode cX10_nextToken 280 = .ok (.bipush 10, 2) := by decide +kernel
theorem dX10_nextToken_282 : decode cX10_nextToken 282 = .ok (.aload_n 0, 1) := by decide +kernel
theorem dX10_nextToken_283 : decode cX10_nextToken 283 = .ok (.getfield 95, 3) := by decide +kernel
theorem dX10_nextToken_286 : decode cX10_nextToken 286 = .ok (.imul, 1) := by decide +kernel
theorem dX10_nextToken_287 : decode cX10_nextToken 287 = .ok (.aload_n 0, 1) := by decide +kernel
theorem dX10_nextToken_288 : decode cX10_nextToken 288 = .ok (.getfield 26, 3) := by decide +kernel
theorem dX10_nextToken_291 : decode cX10_nextToken 291 = .ok (.aload_n 0, 1) := by decide +kernel
theorem dX10_nextToken_292 : decode cX10_nextToken 292 = .ok (.getfield 86, 3) := by decide +kernel
theorem dX10_nextToken_295 : decode cX10_nextToken 295 = .ok (.iaload, 1) := by decide +kernel
theorem dX10_nextToken_296 : decode cX10_nextToken 296 = .ok (.iadd, 1) := by decide +kernel
theorem dX10_nextToken_297 : decode cX10_nextToken 297 = .ok (.bipush 48, 2) := by decide +kernel
theorem dX10_nextToken_299 : decode cX10_nextToken 299 = .ok (.isub, 1) := by decide +kernel
theorem dX10_nextToken_300 : decode cX10_nextToken 300 = .ok (.goto 7, 3) := by decide +kernel
theorem dX10_nextToken_303 : decode cX10_nextToken 303 = .ok (.aload_n 0, 1) := by decide +kernel
theorem dX10_nextToken_304 : decode cX10_nextToken 304 = .ok (.getfield 95, 3) := by decide +kernel
theorem dX10_nextToken_307 : decode cX10_nextToken 307 = .ok (.putfield 95, 3) := by decide +kernel
theorem dX10_nextToken_310 : decode cX10_nextToken 310 = .ok (.aload_n 0, 1) := by decide +kernel
theorem dX10_nextToken_311 : decode cX10_nextToken 311 = .ok (.dup, 1) := by decide +kernel
theorem dX10_nextToken_312 : decode cX10_nextToken 312 = .ok (.getfield 92, 3) := by decide +kernel
theorem dX10_nextToken_315 : decode cX10_nextToken 315 = .ok (.iconst 1, 1) := by decide +kernel
theorem dX10_nextToken_316 : decode cX10_nextToken 316 = .ok (.iadd, 1) := by decide +kernel
theorem dX10_nextToken_317 : decode cX10_nextToken 317 = .ok (.putfield 92, 3) := by decide +kernel
theorem dX10_nextToken_320 : decode cX10_nextToken 320 = .ok (.aload_n 0, 1) := by decide +kernel
theorem dX10_nextToken_321 : decode cX10_nextToken 321 = .ok (.dup, 1) := by decide +kernel
theorem dX10_nextToken_322 : decode cX10_nextToken 322 = .ok (.getfield 86, 3) := by decide +kernel
theorem dX10_nextToken_325 : decode cX10_nextToken 325 = .ok (.iconst 1, 1) := by decide +kernel
theorem dX10_nextToken_326 : decode cX10_nextToken 326 = .ok (.iadd, 1) := by decide +kernel
theorem dX10_nextToken_327 : decode cX10_nextToken 327 = .ok (.putfield 86, 3) := by decide +kernel
theorem dX10_nextToken_330 : decode cX10_nextToken 330 = .ok (.goto (-89), 3) := by decide +kernel
theorem dX10_nextToken_333 : decode cX10_nextToken 333 = .ok (.aload_n 0, 1) := by decide +kernel
theorem dX10_nextToken_334 : decode cX10_nextToken 334 = .ok (.aload_n 0, 1) := by decide +kernel
theorem dX10_nextToken_335 : decode cX10_nextToken 335 = .ok (.getfield 92, 3) := by decide +kernel
theorem dX10_nextToken_338 : decode cX10_nextToken 338 = .ok (.iconst 4, 1) := by decide +kernel
theorem dX10_nextToken_339 : decode cX10_nextToken 339 = .ok (.if_icmp .le 9, 3) := by decide +kernel
theorem dX10_nextToken_342 : decode cX10_nextToken 342 = .ok (.ldc2_w 108, 3) := by decide +kernel
theorem dX10_nextToken_345 : decode cX10_nextToken 345 = .ok (.goto 6, 3) := by decide +kernel
theorem dX10_nextToken_348 : decode cX10_nextToken 348 = .ok (.ldc2_w 110, 3) := by decide +kernel
theorem dX10_nextToken_351 : decode cX10_nextToken 351 = .ok (.putfield 100, 3) := by decide +kernel
theorem dX10_nextToken_354 : decode cX10_nextToken 354 = .ok (.goto 40, 3) := by decide +kernel
theorem dX10_nextToken_357 : decode cX10_nextToken 357 = .ok (.aload_n 0, 1) := by decide +kernel
theorem dX10_nextToken_358 : decode cX10_nextToken 358 = .ok (.aload_n 0, 1) := by decide +kernel
theorem dX10_nextToken_359 : decode cX10_nextToken 359 = .ok (.getfield 26, 3) := by decide +kernel
theorem dX10_nextToken_362 : decode cX10_nextToken 362 = .ok (.aload_n 0, 1) := by decide +kernel
theorem dX10_nextToken_363 : decode cX10_nextToken 363 = .ok (.getfield 86, 3) := by decide +kernel
theorem dX10_nextToken_366 : decode cX10_nextToken 366 = .ok (.iaload, 1) := by decide +kernel
theorem dX10_nextToken_367 : decode cX10_nextToken 367 = .ok (.bipush 59, 2) := by decide +kernel
theorem dX10_nextToken_369 : decode cX10_nextToken 369 = .ok (.if_icmp .ne 9, 3) := by decide +kernel
theorem dX10_nextToken_372 : decode cX10_nextToken 372 = .ok (.ldc2_w 112, 3) := by decide +kernel
theorem dX10_nextToken_375 : decode cX10_nextToken 375 = .ok (.goto 6, 3) := by decide +kernel
theorem dX10_nextToken_378 : decode cX10_nextToken 378 = .ok (.ldc2_w 108, 3) := by decide +kernel
theorem dX10_nextToken_381 : decode cX10_nextToken 381 = .ok (.putfield 100, 3) := by decide +kernel
theorem dX10_nextToken_384 : decode cX10_nextToken 384 = .ok (.aload_n 0, 1) := by decide +kernel
theorem dX10_nextToken_385 : decode cX10_nextToken 385 = .ok (.dup, 1) := by decide +kernel
theorem dX10_nextToken_386 : decode cX10_nextToken 386 = .ok (.getfield 86, 3) := by decide +kernel
theorem dX10_nextToken_389 : decode cX10_nextToken 389 = .ok (.iconst 1, 1) := by decide +kernel
theorem dX10_nextToken_390 : decode cX10_nextToken 390 = .ok (.iadd, 1) := by decide +kernel
theorem dX10_nextToken_391 : decode cX10_nextToken 391 = .ok (.putfield 86, 3) := by decide +kernel
theorem dX10_nextToken_394 : decode cX10_nextToken 394 = .ok (.return_, 1) := by decide +kernel
theorem dX10_fails_0 : decode cX10_fails 0 = .ok (.aload_n 0, 1) := by decide +kernel
theorem dX10_fails_1 : decode cX10_fails 1 = .ok (.aload_n 0, 1) := by decide +kernel
theorem dX10_fails_2 : decode cX10_fails 2 = .ok (.getfield 89, 3) := by decide +kernel
theorem dX10_fails_5 : decode cX10_fails 5 = .ok (.putfield 114, 3) := by decide +kernel
theorem dX10_fails_8 : decode cX10_fails 8 = .ok (.iconst 0, 1) := by decide +kernel
theorem dX10_fails_9 : decode cX10_fails 9 = .ok (.ireturn, 1) := by decide +kernel
theorem dX10_isNumber_0 : decode cX10_isNumber 0 = .ok (.aload_n 0, 1) := by decide +kernel
theorem dX10_isNumber_1 : decode cX10_isNumber 1 = .ok (.invokevirtual 117, 3) := by decide +kernel
theorem dX10_isNumber_4 : decode cX10_isNumber 4 = .ok (.aload_n 0, 1) := by decide +kernel
theorem dX10_isNumber_5 : decode cX10_isNumber 5 = .ok (.getfield 100, 3) := by decide +kernel
theorem dX10_isNumber_8 : decode cX10_isNumber 8 = .ok (.ldc2_w 110, 3) := by decide +kernel
theorem dX10_isNumber_11 : decode cX10_isNumber 11 = .ok (.lcmp, 1) := by decide +kernel
theorem dX10_isNumber_12 : decode cX10_isNumber 12 = .ok (.ifCond .ne 15, 3) := by decide +kernel
theorem dX10_isNumber_15 : decode cX10_isNumber 15 = .ok (.aload_n 0, 1) := by decide +kernel
theorem dX10_isNumber_16 : decode cX10_isNumber 16 = .ok (.getfield 95, 3) := by decide +kernel
theorem dX10_isNumber_19 : decode cX10_isNumber 19 = .ok (.iload_n 2, 1) := by decide +kernel
theorem dX10_isNumber_20 : decode cX10_isNumber 20 = .ok (.iload_n 3, 1) := by decide +kernel
theorem dX10_isNumber_21 : decode cX10_isNumber 21 = .ok (.invokestatic 71, 3) := by decide +kernel
theorem dX10_isNumber_24 : decode cX10_isNumber 24 = .ok (.ifCond .ne 8, 3) := by decide +kernel
theorem dX10_isNumber_27 : decode cX10_isNumber 27 = .ok (.aload_n 0, 1) := by decide +kernel
theorem dX10_isNumber_28 : decode cX10_isNumber 28 = .ok (.invokevirtual 120, 3) := by decide +kernel
theorem dX10_isNumber_31 : decode cX10_isNumber 31 = .ok (.ireturn, 1) := by decide +kernel
theorem dX10_isNumber_32 : decode cX10_isNumber 32 = .ok (.aload_n 0, 1) := by decide +kernel
theorem dX10_isNumber_33 : decode cX10_isNumber 33 = .ok (.getfield 29, 3) := by decide +kernel
theorem dX10_isNumber_36 : decode cX10_isNumber 36 = .ok (.iload_n 1, 1) := by decide +kernel
theorem dX10_isNumber_37 : decode cX10_isNumber 37 = .ok (.aload_n 0, 1) := by decide +kernel
theorem dX10_isNumber_38 : decode cX10_isNumber 38 = .ok (.getfield 95, 3) := by decide +kernel
theorem dX10_isNumber_41 : decode cX10_isNumber 41 = .ok (.iastore, 1) := by decide +kernel
theorem dX10_isNumber_42 : decode cX10_isNumber 42 = .ok (.iconst 1, 1) := by decide +kernel
theorem dX10_isNumber_43 : decode cX10_isNumber 43 = .ok (.ireturn, 1) := by decide +kernel
theorem dX10_isWay_0 : decode cX10_isWay 0 = .ok (.aload_n 0, 1) := by decide +kernel
theorem dX10_isWay_1 : decode cX10_isWay 1 = .ok (.iload_n 1, 1) := by decide +kernel
theorem dX10_isWay_2 : decode cX10_isWay 2 = .ok (.iconst 1, 1) := by decide +kernel
theorem dX10_isWay_3 : decode cX10_isWay 3 = .ok (.iadd, 1) := by decide +kernel
theorem dX10_isWay_4 : decode cX10_isWay 4 = .ok (.iconst 0, 1) := by decide +kernel
theorem dX10_isWay_5 : decode cX10_isWay 5 = .ok (.bipush 9, 2) := by decide +kernel
theorem dX10_isWay_7 : decode cX10_isWay 7 = .ok (.invokevirtual 124, 3) := by decide +kernel
theorem dX10_isWay_10 : decode cX10_isWay 10 = .ok (.ifCond .eq 16, 3) := by decide +kernel
theorem dX10_isWay_13 : decode cX10_isWay 13 = .ok (.aload_n 0, 1) := by decide +kernel
theorem dX10_isWay_14 : decode cX10_isWay 14 = .ok (.iload_n 1, 1) := by decide +kernel
theorem dX10_isWay_15 : decode cX10_isWay 15 = .ok (.iconst 2, 1) := by decide +kernel
theorem dX10_isWay_16 : decode cX10_isWay 16 = .ok (.iadd, 1) := by decide +kernel
theorem dX10_isWay_17 : decode cX10_isWay 17 = .ok (.iconst 0, 1) := by decide +kernel
theorem dX10_isWay_18 : decode cX10_isWay 18 = .ok (.bipush 9, 2) := by decide +kernel
theorem dX10_isWay_20 : decode cX10_isWay 20 = .ok (.invokevirtual 124, 3) := by decide +kernel
theorem dX10_isWay_23 : decode cX10_isWay 23 = .ok (.ifCond .ne 5, 3) := by decide +kernel
theorem dX10_isWay_26 : decode cX10_isWay 26 = .ok (.iconst 0, 1) := by decide +kernel
theorem dX10_isWay_27 : decode cX10_isWay 27 = .ok (.ireturn, 1) := by decide +kernel
theorem dX10_isWay_28 : decode cX10_isWay 28 = .ok (.aload_n 0, 1) := by decide +kernel
theorem dX10_isWay_29 : decode cX10_isWay 29 = .ok (.getfield 29, 3) := by decide +kernel
theorem dX10_isWay_32 : decode cX10_isWay 32 = .ok (.iload_n 1, 1) := by decide +kernel
theorem dX10_isWay_33 : decode cX10_isWay 33 = .ok (.iconst 1, 1) := by decide +kernel
theorem dX10_isWay_34 : decode cX10_isWay 34 = .ok (.iadd, 1) := by decide +kernel
theorem dX10_isWay_35 : decode cX10_isWay 35 = .ok (.iaload, 1) := by decide +kernel
theorem dX10_isWay_36 : decode cX10_isWay 36 = .ok (.aload_n 0, 1) := by decide +kernel
theorem dX10_isWay_37 : decode cX10_isWay 37 = .ok (.getfield 29, 3) := by decide +kernel
theorem dX10_isWay_40 : decode cX10_isWay 40 = .ok (.iload_n 1, 1) := by decide +kernel
theorem dX10_isWay_41 : decode cX10_isWay 41 = .ok (.iconst 2, 1) := by decide +kernel
theorem dX10_isWay_42 : decode cX10_isWay 42 = .ok (.iadd, 1) := by decide +kernel
theorem dX10_isWay_43 : decode cX10_isWay 43 = .ok (.iaload, 1) := by decide +kernel
theorem dX10_isWay_44 : decode cX10_isWay 44 = .ok (.if_icmp .ne 10, 3) := by decide +kernel
theorem dX10_isWay_47 : decode cX10_isWay 47 = .ok (.aload_n 0, 1) := by decide +kernel
theorem dX10_isWay_48 : decode cX10_isWay 48 = .ok (.invokevirtual 120, 3) := by decide +kernel
theorem dX10_isWay_51 : decode cX10_isWay 51 = .ok (.goto 14, 3) := by decide +kernel
theorem dX10_isWay_54 : decode cX10_isWay 54 = .ok (.aload_n 0, 1) := by decide +kernel
theorem dX10_isWay_55 : decode cX10_isWay 55 = .ok (.iload_n 1, 1) := by decide +kernel
theorem dX10_isWay_56 : decode cX10_isWay 56 = .ok (.iconst 3, 1) := by decide +kernel
theorem dX10_isWay_57 : decode cX10_isWay 57 = .ok (.iadd, 1) := by decide +kernel
theorem dX10_isWay_58 : decode cX10_isWay 58 = .ok (.iconst 0, 1) := by decide +kernel
theorem dX10_isWay_59 : decode cX10_isWay 59 = .ok (.sipush 999, 3) := by decide +kernel
theorem dX10_isWay_62 : decode cX10_isWay 62 = .ok (.invokevirtual 124, 3) := by decide +kernel
theorem dX10_isWay_65 : decode cX10_isWay 65 = .ok (.ireturn, 1) := by decide +kernel
theorem dX10_isLine_0 : decode cX10_isLine 0 = .ok (.aload_n 0, 1) := by decide +kernel
theorem dX10_isLine_1 : decode cX10_isLine 1 = .ok (.invokevirtual 117, 3) := by decide +kernel
theorem dX10_isLine_4 : decode cX10_isLine 4 = .ok (.aload_n 0, 1) := by decide +kernel
theorem dX10_isLine_5 : decode cX10_isLine 5 = .ok (.getfield 29, 3) := by decide +kernel
theorem dX10_isLine_8 : decode cX10_isLine 8 = .ok (.iload_n 1, 1) := by decide +kernel
theorem dX10_isLine_9 : decode cX10_isLine 9 = .ok (.aload_n 0, 1) := by decide +kernel
theorem dX10_isLine_10 : decode cX10_isLine 10 = .ok (.getfield 100, 3) := by decide +kernel
theorem dX10_isLine_13 : decode cX10_isLine 13 = .ok (.ldc2_w 127, 3) := by decide +kernel
theorem dX10_isLine_16 : decode cX10_isLine 16 = .ok (.lcmp, 1) := by decide +kernel
theorem dX10_isLine_17 : decode cX10_isLine 17 = .ok (.ifCond .ne 7, 3) := by decide +kernel
theorem dX10_isLine_20 : decode cX10_isLine 20 = .ok (.iconst 0, 1) := by decide +kernel
theorem dX10_isLine_21 : decode cX10_isLine 21 = .ok (.goto 79, 3) := by decide +kernel
theorem dX10_isLine_24 : decode cX10_isLine 24 = .ok (.aload_n 0, 1) := by decide +kernel
theorem dX10_isLine_25 : decode cX10_isLine 25 = .ok (.getfield 100, 3) := by decide +kernel
theorem dX10_isLine_28 : decode cX10_isLine 28 = .ok (.ldc2_w 129, 3) := by decide +kernel
theorem dX10_isLine_31 : decode cX10_isLine 31 = .ok (.lcmp, 1) := by decide +kernel
theorem dX10_isLine_32 : decode cX10_isLine 32 = .ok (.ifCond .ne 7, 3) := by decide +kernel
theorem dX10_isLine_35 : decode cX10_isLine 35 = .ok (.iconst 1, 1) := by decide +kernel
theorem dX10_isLine_36 : decode cX10_isLine 36 = .ok (.goto 64, 3) := by decide +kernel
theorem dX10_isLine_39 : decode cX10_isLine 39 = .ok (.aload_n 0, 1) := by decide +kernel
theorem dX10_isLine_40 : decode cX10_isLine 40 = .ok (.getfield 100, 3) := by decide +kernel
theorem dX10_isLine_43 : decode cX10_isLine 43 = .ok (.ldc2_w 131, 3) := by decide +kernel
theorem dX10_isLine_46 : decode cX10_isLine 46 = .ok (.lcmp, 1) := by decide +kernel
theorem dX10_isLine_47 : decode cX10_isLine 47 = .ok (.ifCond .ne 7, 3) := by decide +kernel
theorem dX10_isLine_50 : decode cX10_isLine 50 = .ok (.iconst 2, 1) := by decide +kernel
theorem dX10_isLine_51 : decode cX10_isLine 51 = .ok (.goto 49, 3) := by decide +kernel
theorem dX10_isLine_54 : decode cX10_isLine 54 = .ok (.aload_n 0, 1) := by decide +kernel
theorem dX10_isLine_55 : decode cX10_isLine 55 = .ok (.getfield 100, 3) := by decide +kernel
theorem dX10_isLine_58 : decode cX10_isLine 58 = .ok (.ldc2_w 133, 3) := by decide +kernel
theorem dX10_isLine_61 : decode cX10_isLine 61 = .ok (.lcmp, 1) := by decide +kernel
theorem dX10_isLine_62 : decode cX10_isLine 62 = .ok (.ifCond .ne 7, 3) := by decide +kernel
theorem dX10_isLine_65 : decode cX10_isLine 65 = .ok (.iconst 3, 1) := by decide +kernel
theorem dX10_isLine_66 : decode cX10_isLine 66 = .ok (.goto 34, 3) := by decide +kernel
theorem dX10_isLine_69 : decode cX10_isLine 69 = .ok (.aload_n 0, 1) := by decide +kernel
theorem dX10_isLine_70 : decode cX10_isLine 70 = .ok (.getfield 100, 3) := by decide +kernel
theorem dX10_isLine_73 : decode cX10_isLine 73 = .ok (.ldc2_w 135, 3) := by decide +kernel
theorem dX10_isLine_76 : decode cX10_isLine 76 = .ok (.lcmp, 1) := by decide +kernel
theorem dX10_isLine_77 : decode cX10_isLine 77 = .ok (.ifCond .ne 7, 3) := by decide +kernel
theorem dX10_isLine_80 : decode cX10_isLine 80 = .ok (.iconst 4, 1) := by decide +kernel
theorem dX10_isLine_81 : decode cX10_isLine 81 = .ok (.goto 19, 3) := by decide +kernel
theorem dX10_isLine_84 : decode cX10_isLine 84 = .ok (.aload_n 0, 1) := by decide +kernel
theorem dX10_isLine_85 : decode cX10_isLine 85 = .ok (.getfield 100, 3) := by decide +kernel
theorem dX10_isLine_88 : decode cX10_isLine 88 = .ok (.ldc2_w 137, 3) := by decide +kernel
theorem dX10_isLine_91 : decode cX10_isLine 91 = .ok (.lcmp, 1) := by decide +kernel
theorem dX10_isLine_92 : decode cX10_isLine 92 = .ok (.ifCond .ne 7, 3) := by decide +kernel
theorem dX10_isLine_95 : decode cX10_isLine 95 = .ok (.iconst 5, 1) := by decide +kernel
theorem dX10_isLine_96 : decode cX10_isLine 96 = .ok (.goto 4, 3) := by decide +kernel
theorem dX10_isLine_99 : decode cX10_isLine 99 = .ok (.iconst (-1), 1) := by decide +kernel
theorem dX10_isLine_100 : decode cX10_isLine 100 = .ok (.iastore, 1) := by decide +kernel
theorem dX10_isLine_101 : decode cX10_isLine 101 = .ok (.aload_n 0, 1) := by decide +kernel
theorem dX10_isLine_102 : decode cX10_isLine 102 = .ok (.getfield 29, 3) := by decide +kernel
theorem dX10_isLine_105 : decode cX10_isLine 105 = .ok (.iload_n 1, 1) := by decide +kernel
theorem dX10_isLine_106 : decode cX10_isLine 106 = .ok (.iaload, 1) := by decide +kernel
theorem dX10_isLine_107 : decode cX10_isLine 107 = .ok (.tableswitch 226 0 5 #[37, 105, 208, 208, 214, 214], 37) := by decide +kernel
theorem dX10_isLine_144 : decode cX10_isLine 144 = .ok (.aload_n 0, 1) := by decide +kernel
theorem dX10_isLine_145 : decode cX10_isLine 145 = .ok (.iload_n 1, 1) := by decide +kernel
theorem dX10_isLine_146 : decode cX10_isLine 146 = .ok (.iconst 1, 1) := by decide +kernel
theorem dX10_isLine_147 : decode cX10_isLine 147 = .ok (.iadd, 1) := by decide +kernel
theorem dX10_isLine_148 : decode cX10_isLine 148 = .ok (.iconst 0, 1) := by decide +kernel
theorem dX10_isLine_149 : decode cX10_isLine 149 = .ok (.bipush 9, 2) := by decide +kernel
theorem dX10_isLine_151 : decode cX10_isLine 151 = .ok (.invokevirtual 124, 3) := by decide +kernel
theorem dX10_isLine_154 : decode cX10_isLine 154 = .ok (.ifCond .eq 56, 3) := by decide +kernel
theorem dX10_isLine_157 : decode cX10_isLine 157 = .ok (.aload_n 0, 1) := by decide +kernel
theorem dX10_isLine_158 : decode cX10_isLine 158 = .ok (.iload_n 1, 1) := by decide +kernel
theorem dX10_isLine_159 : decode cX10_isLine 159 = .ok (.iconst 2, 1) := by decide +kernel
theorem dX10_isLine_160 : decode cX10_isLine 160 = .ok (.iadd, 1) := by decide +kernel
theorem dX10_isLine_161 : decode cX10_isLine 161 = .ok (.iconst 0, 1) := by decide +kernel
theorem dX10_isLine_162 : decode cX10_isLine 162 = .ok (.sipush 9999, 3) := by decide +kernel
theorem dX10_isLine_165 : decode cX10_isLine 165 = .ok (.invokevirtual 124, 3) := by decide +kernel
theorem dX10_isLine_168 : decode cX10_isLine 168 = .ok (.ifCond .eq 42, 3) := by decide +kernel
theorem dX10_isLine_171 : decode cX10_isLine 171 = .ok (.aload_n 0, 1) := by decide +kernel
theorem dX10_isLine_172 : decode cX10_isLine 172 = .ok (.iload_n 1, 1) := by decide +kernel
theorem dX10_isLine_173 : decode cX10_isLine 173 = .ok (.iconst 3, 1) := by decide +kernel
theorem dX10_isLine_174 : decode cX10_isLine 174 = .ok (.iadd, 1) := by decide +kernel
theorem dX10_isLine_175 : decode cX10_isLine 175 = .ok (.aload_n 0, 1) := by decide +kernel
theorem dX10_isLine_176 : decode cX10_isLine 176 = .ok (.getfield 29, 3) := by decide +kernel
theorem dX10_isLine_179 : decode cX10_isLine 179 = .ok (.iload_n 1, 1) := by decide +kernel
theorem dX10_isLine_180 : decode cX10_isLine 180 = .ok (.iconst 2, 1) := by decide +kernel
theorem dX10_isLine_181 : decode cX10_isLine 181 = .ok (.iadd, 1) := by decide +kernel
theorem dX10_isLine_182 : decode cX10_isLine 182 = .ok (.iaload, 1) := by decide +kernel
theorem dX10_isLine_183 : decode cX10_isLine 183 = .ok (.sipush 9999, 3) := by decide +kernel
theorem dX10_isLine_186 : decode cX10_isLine 186 = .ok (.invokevirtual 124, 3) := by decide +kernel
theorem dX10_isLine_189 : decode cX10_isLine 189 = .ok (.ifCond .eq 21, 3) := by decide +kernel
theorem dX10_isLine_192 : decode cX10_isLine 192 = .ok (.aload_n 0, 1) := by decide +kernel
theorem dX10_isLine_193 : decode cX10_isLine 193 = .ok (.iload_n 1, 1) := by decide +kernel
theorem dX10_isLine_194 : decode cX10_isLine 194 = .ok (.iconst 4, 1) := by decide +kernel
theorem dX10_isLine_195 : decode cX10_isLine 195 = .ok (.iadd, 1) := by decide +kernel
theorem dX10_isLine_196 : decode cX10_isLine 196 = .ok (.iconst 1, 1) := by decide +kernel
theorem dX10_isLine_197 : decode cX10_isLine 197 = .ok (.sipush 999, 3) := by decide +kernel
theorem dX10_isLine_200 : decode cX10_isLine 200 = .ok (.invokevirtual 124, 3) := by decide +kernel
theorem dX10_isLine_203 : decode cX10_isLine 203 = .ok (.ifCond .eq 7, 3) := by decide +kernel
theorem dX10_isLine_206 : decode cX10_isLine 206 = .ok (.iconst 1, 1) := by decide +kernel
theorem dX10_isLine_207 : decode cX10_isLine 207 = .ok (.goto 4, 3) := by decide +kernel
theorem dX10_isLine_210 : decode cX10_isLine 210 = .ok (.iconst 0, 1) := by decide +kernel
theorem dX10_isLine_211 : decode cX10_isLine 211 = .ok (.ireturn, 1) := by decide +kernel
theorem dX10_isLine_212 : decode cX10_isLine 212 = .ok (.aload_n 0, 1) := by decide +kernel
theorem dX10_isLine_213 : decode cX10_isLine 213 = .ok (.iload_n 1, 1) := by decide +kernel
theorem dX10_isLine_214 : decode cX10_isLine 214 = .ok (.iconst 1, 1) := by decide +kernel
theorem dX10_isLine_215 : decode cX10_isLine 215 = .ok (.iadd, 1) := by decide +kernel
theorem dX10_isLine_216 : decode cX10_isLine 216 = .ok (.iconst 0, 1) := by decide +kernel
theorem dX10_isLine_217 : decode cX10_isLine 217 = .ok (.bipush 8, 2) := by decide +kernel
theorem dX10_isLine_219 : decode cX10_isLine 219 = .ok (.invokevirtual 124, 3) := by decide +kernel
theorem dX10_isLine_222 : decode cX10_isLine 222 = .ok (.ifCond .eq 91, 3) := by decide +kernel
theorem dX10_isLine_225 : decode cX10_isLine 225 = .ok (.aload_n 0, 1) := by decide +kernel
theorem dX10_isLine_226 : decode cX10_isLine 226 = .ok (.iload_n 1, 1) := by decide +kernel
theorem dX10_isLine_227 : decode cX10_isLine 227 = .ok (.iconst 2, 1) := by decide +kernel
theorem dX10_isLine_228 : decode cX10_isLine 228 = .ok (.iadd, 1) := by decide +kernel
theorem dX10_isLine_229 : decode cX10_isLine 229 = .ok (.iconst 0, 1) := by decide +kernel
theorem dX10_isLine_230 : decode cX10_isLine 230 = .ok (.bipush 9, 2) := by decide +kernel
theorem dX10_isLine_232 : decode cX10_isLine 232 = .ok (.invokevirtual 124, 3) := by decide +kernel
theorem dX10_isLine_235 : decode cX10_isLine 235 = .ok (.ifCond .eq 78, 3) := by decide +kernel
theorem dX10_isLine_238 : decode cX10_isLine 238 = .ok (.aload_n 0, 1) := by decide +kernel
theorem dX10_isLine_239 : decode cX10_isLine 239 = .ok (.iload_n 1, 1) := by decide +kernel
theorem dX10_isLine_240 : decode cX10_isLine 240 = .ok (.iconst 3, 1) := by decide +kernel
theorem dX10_isLine_241 : decode cX10_isLine 241 = .ok (.iadd, 1) := by decide +kernel
theorem dX10_isLine_242 : decode cX10_isLine 242 = .ok (.iconst 0, 1) := by decide +kernel
theorem dX10_isLine_243 : decode cX10_isLine 243 = .ok (.sipush 9999, 3) := by decide +kernel
theorem dX10_isLine_246 : decode cX10_isLine 246 = .ok (.invokevirtual 124, 3) := by decide +kernel
theorem dX10_isLine_249 : decode cX10_isLine 249 = .ok (.ifCond .eq 64, 3) := by decide +kernel
theorem dX10_isLine_252 : decode cX10_isLine 252 = .ok (.aload_n 0, 1) := by decide +kernel
theorem dX10_isLine_253 : decode cX10_isLine 253 = .ok (.iload_n 1, 1) := by decide +kernel
theorem dX10_isLine_254 : decode cX10_isLine 254 = .ok (.iconst 4, 1) := by decide +kernel
theorem dX10_isLine_255 : decode cX10_isLine 255 = .ok (.iadd, 1) := by decide +kernel
theorem dX10_isLine_256 : decode cX10_isLine 256 = .ok (.iconst 0, 1) := by decide +kernel
theorem dX10_isLine_257 : decode cX10_isLine 257 = .ok (.sipush 999, 3) := by decide +kernel
theorem dX10_isLine_260 : decode cX10_isLine 260 = .ok (.invokevirtual 124, 3) := by decide +kernel
theorem dX10_isLine_263 : decode cX10_isLine 263 = .ok (.ifCond .eq 50, 3) := by decide +kernel
theorem dX10_isLine_266 : decode cX10_isLine 266 = .ok (.aload_n 0, 1) := by decide +kernel
theorem dX10_isLine_267 : decode cX10_isLine 267 = .ok (.iload_n 1, 1) := by decide +kernel
theorem dX10_isLine_268 : decode cX10_isLine 268 = .ok (.iconst 5, 1) := by decide +kernel
theorem dX10_isLine_269 : decode cX10_isLine 269 = .ok (.iadd, 1) := by decide +kernel
theorem dX10_isLine_270 : decode cX10_isLine 270 = .ok (.iconst 0, 1) := by decide +kernel
theorem dX10_isLine_271 : decode cX10_isLine 271 = .ok (.sipush 999, 3) := by decide +kernel
theorem dX10_isLine_274 : decode cX10_isLine 274 = .ok (.invokevirtual 124, 3) := by decide +kernel
theorem dX10_isLine_277 : decode cX10_isLine 277 = .ok (.ifCond .eq 36, 3) := by decide +kernel
theorem dX10_isLine_280 : decode cX10_isLine 280 = .ok (.aload_n 0, 1) := by decide +kernel
theorem dX10_isLine_281 : decode cX10_isLine 281 = .ok (.iload_n 1, 1) := by decide +kernel
theorem dX10_isLine_282 : decode cX10_isLine 282 = .ok (.bipush 6, 2) := by decide +kernel
theorem dX10_isLine_284 : decode cX10_isLine 284 = .ok (.iadd, 1) := by decide +kernel
theorem dX10_isLine_285 : decode cX10_isLine 285 = .ok (.iconst 0, 1) := by decide +kernel
theorem dX10_isLine_286 : decode cX10_isLine 286 = .ok (.sipush 999, 3) := by decide +kernel
theorem dX10_isLine_289 : decode cX10_isLine 289 = .ok (.invokevirtual 124, 3) := by decide +kernel
theorem dX10_isLine_292 : decode cX10_isLine 292 = .ok (.ifCond .eq 21, 3) := by decide +kernel
theorem dX10_isLine_295 : decode cX10_isLine 295 = .ok (.aload_n 0, 1) := by decide +kernel
theorem dX10_isLine_296 : decode cX10_isLine 296 = .ok (.iload_n 1, 1) := by decide +kernel
theorem dX10_isLine_297 : decode cX10_isLine 297 = .ok (.bipush 7, 2) := by decide +kernel
theorem dX10_isLine_299 : decode cX10_isLine 299 = .ok (.iadd, 1) := by decide +kernel
theorem dX10_isLine_300 : decode cX10_isLine 300 = .ok (.iconst 0, 1) := by decide +kernel
theorem dX10_isLine_301 : decode cX10_isLine 301 = .ok (.bipush 99, 2) := by decide +kernel
theorem dX10_isLine_303 : decode cX10_isLine 303 = .ok (.invokevirtual 124, 3) := by decide +kernel
theorem dX10_isLine_306 : decode cX10_isLine 306 = .ok (.ifCond .eq 7, 3) := by decide +kernel
theorem dX10_isLine_309 : decode cX10_isLine 309 = .ok (.iconst 1, 1) := by decide +kernel
theorem dX10_isLine_310 : decode cX10_isLine 310 = .ok (.goto 4, 3) := by decide +kernel
theorem dX10_isLine_313 : decode cX10_isLine 313 = .ok (.iconst 0, 1) := by decide +kernel
theorem dX10_isLine_314 : decode cX10_isLine 314 = .ok (.ireturn, 1) := by decide +kernel
theorem dX10_isLine_315 : decode cX10_isLine 315 = .ok (.aload_n 0, 1) := by decide +kernel
theorem dX10_isLine_316 : decode cX10_isLine 316 = .ok (.iload_n 1, 1) := by decide +kernel
theorem dX10_isLine_317 : decode cX10_isLine 317 = .ok (.invokevirtual 139, 3) := by decide +kernel
theorem dX10_isLine_320 : decode cX10_isLine 320 = .ok (.ireturn, 1) := by decide +kernel
theorem dX10_isLine_321 : decode cX10_isLine 321 = .ok (.aload_n 0, 1) := by decide +kernel
theorem dX10_isLine_322 : decode cX10_isLine 322 = .ok (.iload_n 1, 1) := by decide +kernel
theorem dX10_isLine_323 : decode cX10_isLine 323 = .ok (.iconst 1, 1) := by decide +kernel
theorem dX10_isLine_324 : decode cX10_isLine 324 = .ok (.iadd, 1) := by decide +kernel
theorem dX10_isLine_325 : decode cX10_isLine 325 = .ok (.iconst 0, 1) := by decide +kernel
theorem dX10_isLine_326 : decode cX10_isLine 326 = .ok (.sipush 999, 3) := by decide +kernel
theorem dX10_isLine_329 : decode cX10_isLine 329 = .ok (.invokevirtual 124, 3) := by decide +kernel
theorem dX10_isLine_332 : decode cX10_isLine 332 = .ok (.ireturn, 1) := by decide +kernel
theorem dX10_isLine_333 : decode cX10_isLine 333 = .ok (.aload_n 0, 1) := by decide +kernel
theorem dX10_isLine_334 : decode cX10_isLine 334 = .ok (.invokevirtual 120, 3) := by decide +kernel
theorem dX10_isLine_337 : decode cX10_isLine 337 = .ok (.ireturn, 1) := by decide +kernel
theorem dX10_isRead_0 : decode cX10_isRead 0 = .ok (.aload_n 0, 1) := by decide +kernel
theorem dX10_isRead_1 : decode cX10_isRead 1 = .ok (.iconst 0, 1) := by decide +kernel
theorem dX10_isRead_2 : decode cX10_isRead 2 = .ok (.putfield 86, 3) := by decide +kernel
theorem dX10_isRead_5 : decode cX10_isRead 5 = .ok (.aload_n 0, 1) := by decide +kernel
theorem dX10_isRead_6 : decode cX10_isRead 6 = .ok (.iconst 0, 1) := by decide +kernel
theorem dX10_isRead_7 : decode cX10_isRead 7 = .ok (.putfield 143, 3) := by decide +kernel
theorem dX10_isRead_10 : decode cX10_isRead 10 = .ok (.iconst 1, 1) := by decide +kernel
theorem dX10_isRead_11 : decode cX10_isRead 11 = .ok (.istore_n 1, 1) := by decide +kernel
theorem dX10_isRead_12 : decode cX10_isRead 12 = .ok (.iload_n 1, 1) := by decide +kernel
theorem dX10_isRead_13 : decode cX10_isRead 13 = .ok (.ifCond .eq 62, 3) := by decide +kernel
theorem dX10_isRead_16 : decode cX10_isRead 16 = .ok (.aload_n 0, 1) := by decide +kernel
theorem dX10_isRead_17 : decode cX10_isRead 17 = .ok (.bipush 8, 2) := by decide +kernel
theorem dX10_isRead_19 : decode cX10_isRead 19 = .ok (.aload_n 0, 1) := by decide +kernel
theorem dX10_isRead_20 : decode cX10_isRead 20 = .ok (.getfield 143, 3) := by decide +kernel
theorem dX10_isRead_23 : decode cX10_isRead 23 = .ok (.imul, 1) := by decide +kernel
theorem dX10_isRead_24 : decode cX10_isRead 24 = .ok (.invokevirtual 146, 3) := by decide +kernel
theorem dX10_isRead_27 : decode cX10_isRead 27 = .ok (.ifCond .ne 5, 3) := by decide +kernel
theorem dX10_isRead_30 : decode cX10_isRead 30 = .ok (.iconst 0, 1) := by decide +kernel
theorem dX10_isRead_31 : decode cX10_isRead 31 = .ok (.ireturn, 1) := by decide +kernel
theorem dX10_isRead_32 : decode cX10_isRead 32 = .ok (.aload_n 0, 1) := by decide +kernel
theorem dX10_isRead_33 : decode cX10_isRead 33 = .ok (.dup, 1) := by decide +kernel
theorem dX10_isRead_34 : decode cX10_isRead 34 = .ok (.getfield 143, 3) := by decide +kernel
theorem dX10_isRead_37 : decode cX10_isRead 37 = .ok (.iconst 1, 1) := by decide +kernel
theorem dX10_isRead_38 : decode cX10_isRead 38 = .ok (.iadd, 1) := by decide +kernel
theorem dX10_isRead_39 : decode cX10_isRead 39 = .ok (.putfield 143, 3) := by decide +kernel
theorem dX10_isRead_42 : decode cX10_isRead 42 = .ok (.aload_n 0, 1) := by decide +kernel
theorem dX10_isRead_43 : decode cX10_isRead 43 = .ok (.invokevirtual 117, 3) := by decide +kernel
theorem dX10_isRead_46 : decode cX10_isRead 46 = .ok (.aload_n 0, 1) := by decide +kernel
theorem dX10_isRead_47 : decode cX10_isRead 47 = .ok (.getfield 100, 3) := by decide +kernel
theorem dX10_isRead_50 : decode cX10_isRead 50 = .ok (.ldc2_w 112, 3) := by decide +kernel
theorem dX10_isRead_53 : decode cX10_isRead 53 = .ok (.lcmp, 1) := by decide +kernel
theorem dX10_isRead_54 : decode cX10_isRead 54 = .ok (.ifCond .ne 16, 3) := by decide +kernel
theorem dX10_isRead_57 : decode cX10_isRead 57 = .ok (.aload_n 0, 1) := by decide +kernel
theorem dX10_isRead_58 : decode cX10_isRead 58 = .ok (.getfield 143, 3) := by decide +kernel
theorem dX10_isRead_61 : decode cX10_isRead 61 = .ok (.bipush 8, 2) := by decide +kernel
theorem dX10_isRead_63 : decode cX10_isRead 63 = .ok (.if_icmp .ge 7, 3) := by decide +kernel
theorem dX10_isRead_66 : decode cX10_isRead 66 = .ok (.iconst 1, 1) := by decide +kernel
theorem dX10_isRead_67 : decode cX10_isRead 67 = .ok (.goto 4, 3) := by decide +kernel
theorem dX10_isRead_70 : decode cX10_isRead 70 = .ok (.iconst 0, 1) := by decide +kernel
theorem dX10_isRead_71 : decode cX10_isRead 71 = .ok (.istore_n 1, 1) := by decide +kernel
theorem dX10_isRead_72 : decode cX10_isRead 72 = .ok (.goto (-60), 3) := by decide +kernel
theorem dX10_isRead_75 : decode cX10_isRead 75 = .ok (.aload_n 0, 1) := by decide +kernel
theorem dX10_isRead_76 : decode cX10_isRead 76 = .ok (.getfield 100, 3) := by decide +kernel
theorem dX10_isRead_79 : decode cX10_isRead 79 = .ok (.ldc2_w 98, 3) := by decide +kernel
theorem dX10_isRead_82 : decode cX10_isRead 82 = .ok (.lcmp, 1) := by decide +kernel
theorem dX10_isRead_83 : decode cX10_isRead 83 = .ok (.ifCond .eq 10, 3) := by decide +kernel
theorem dX10_isRead_86 : decode cX10_isRead 86 = .ok (.aload_n 0, 1) := by decide +kernel
theorem dX10_isRead_87 : decode cX10_isRead 87 = .ok (.invokevirtual 120, 3) := by decide +kernel
theorem dX10_isRead_90 : decode cX10_isRead 90 = .ok (.ifCond .eq 7, 3) := by decide +kernel
theorem dX10_isRead_93 : decode cX10_isRead 93 = .ok (.iconst 1, 1) := by decide +kernel
theorem dX10_isRead_94 : decode cX10_isRead 94 = .ok (.goto 4, 3) := by decide +kernel
theorem dX10_isRead_97 : decode cX10_isRead 97 = .ok (.iconst 0, 1) := by decide +kernel
theorem dX10_isRead_98 : decode cX10_isRead 98 = .ok (.ireturn, 1) := by decide +kernel
theorem dX10_fault_0 : decode cX10_fault 0 = .ok (.aload_n 0, 1) := by decide +kernel
theorem dX10_fault_1 : decode cX10_fault 1 = .ok (.invokevirtual 149, 3) := by decide +kernel
theorem dX10_fault_4 : decode cX10_fault 4 = .ok (.ifCond .eq 7, 3) := by decide +kernel
theorem dX10_fault_7 : decode cX10_fault 7 = .ok (.iconst (-1), 1) := by decide +kernel
theorem dX10_fault_8 : decode cX10_fault 8 = .ok (.goto 7, 3) := by decide +kernel
theorem dX10_fault_11 : decode cX10_fault 11 = .ok (.aload_n 0, 1) := by decide +kernel
theorem dX10_fault_12 : decode cX10_fault 12 = .ok (.getfield 114, 3) := by decide +kernel
theorem dX10_fault_15 : decode cX10_fault 15 = .ok (.ireturn, 1) := by decide +kernel
theorem dX10_doLine_0 : decode cX10_doLine 0 = .ok (.aload_n 0, 1) := by decide +kernel
theorem dX10_doLine_1 : decode cX10_doLine 1 = .ok (.getfield 29, 3) := by decide +kernel
theorem dX10_doLine_4 : decode cX10_doLine 4 = .ok (.iload_n 1, 1) := by decide +kernel
theorem dX10_doLine_5 : decode cX10_doLine 5 = .ok (.iconst 1, 1) := by decide +kernel
theorem dX10_doLine_6 : decode cX10_doLine 6 = .ok (.iadd, 1) := by decide +kernel
theorem dX10_doLine_7 : decode cX10_doLine 7 = .ok (.iaload, 1) := by decide +kernel
theorem dX10_doLine_8 : decode cX10_doLine 8 = .ok (.istore_n 2, 1) := by decide +kernel
theorem dX10_doLine_9 : decode cX10_doLine 9 = .ok (.aload_n 0, 1) := by decide +kernel
theorem dX10_doLine_10 : decode cX10_doLine 10 = .ok (.getfield 29, 3) := by decide +kernel
theorem dX10_doLine_13 : decode cX10_doLine 13 = .ok (.iload_n 1, 1) := by decide +kernel
theorem dX10_doLine_14 : decode cX10_doLine 14 = .ok (.iconst 2, 1) := by decide +kernel
theorem dX10_doLine_15 : decode cX10_doLine 15 = .ok (.iadd, 1) := by decide +kernel
theorem dX10_doLine_16 : decode cX10_doLine 16 = .ok (.iaload, 1) := by decide +kernel
theorem dX10_doLine_17 : decode cX10_doLine 17 = .ok (.istore_n 3, 1) := by decide +kernel
theorem dX10_doLine_18 : decode cX10_doLine 18 = .ok (.aload_n 0, 1) := by decide +kernel
theorem dX10_doLine_19 : decode cX10_doLine 19 = .ok (.getfield 29, 3) := by decide +kernel
theorem dX10_doLine_22 : decode cX10_doLine 22 = .ok (.iload_n 1, 1) := by decide +kernel
theorem dX10_doLine_23 : decode cX10_doLine 23 = .ok (.iaload, 1) := by decide +kernel
theorem dX10_doLine_24 : decode cX10_doLine 24 = .ok (.tableswitch 203 0 4 #[36, 76, 130, 130, 195], 36) := by decide +kernel
theorem dX10_doLine_60 : decode cX10_doLine 60 = .ok (.iconst 0, 1) := by decide +kernel
theorem dX10_doLine_61 : decode cX10_doLine 61 = .ok (.istore 4, 2) := by decide +kernel
theorem dX10_doLine_63 : decode cX10_doLine 63 = .ok (.iload 4, 2) := by decide +kernel
theorem dX10_doLine_65 : decode cX10_doLine 65 = .ok (.iconst 3, 1) := by decide +kernel
theorem dX10_doLine_66 : decode cX10_doLine 66 = .ok (.if_icmp .ge 31, 3) := by decide +kernel
theorem dX10_doLine_69 : decode cX10_doLine 69 = .ok (.aload_n 0, 1) := by decide +kernel
theorem dX10_doLine_70 : decode cX10_doLine 70 = .ok (.getfield 7, 3) := by decide +kernel
theorem dX10_doLine_73 : decode cX10_doLine 73 = .ok (.iconst 3, 1) := by decide +kernel
theorem dX10_doLine_74 : decode cX10_doLine 74 = .ok (.iload_n 2, 1) := by decide +kernel
theorem dX10_doLine_75 : decode cX10_doLine 75 = .ok (.imul, 1) := by decide +kernel
theorem dX10_doLine_76 : decode cX10_doLine 76 = .ok (.iload 4, 2) := by decide +kernel
theorem dX10_doLine_78 : decode cX10_doLine 78 = .ok (.iadd, 1) := by decide +kernel
theorem dX10_doLine_79 : decode cX10_doLine 79 = .ok (.aload_n 0, 1) := by decide +kernel
theorem dX10_doLine_80 : decode cX10_doLine 80 = .ok (.getfield 29, 3) := by decide +kernel
theorem dX10_doLine_83 : decode cX10_doLine 83 = .ok (.iload_n 1, 1) := by decide +kernel
theorem dX10_doLine_84 : decode cX10_doLine 84 = .ok (.iconst 2, 1) := by decide +kernel
theorem dX10_doLine_85 : decode cX10_doLine 85 = .ok (.iadd, 1) := by decide +kernel
theorem dX10_doLine_86 : decode cX10_doLine 86 = .ok (.iload 4, 2) := by decide +kernel
theorem dX10_doLine_88 : decode cX10_doLine 88 = .ok (.iadd, 1) := by decide +kernel
theorem dX10_doLine_89 : decode cX10_doLine 89 = .ok (.iaload, 1) := by decide +kernel
theorem dX10_doLine_90 : decode cX10_doLine 90 = .ok (.iastore, 1) := by decide +kernel
theorem dX10_doLine_91 : decode cX10_doLine 91 = .ok (.iinc 4 1, 3) := by decide +kernel
theorem dX10_doLine_94 : decode cX10_doLine 94 = .ok (.goto (-31), 3) := by decide +kernel
theorem dX10_doLine_97 : decode cX10_doLine 97 = .ok (.goto 135, 3) := by decide +kernel
theorem dX10_doLine_100 : decode cX10_doLine 100 = .ok (.aload_n 0, 1) := by decide +kernel
theorem dX10_doLine_101 : decode cX10_doLine 101 = .ok (.aload_n 0, 1) := by decide +kernel
theorem dX10_doLine_102 : decode cX10_doLine 102 = .ok (.getfield 75, 3) := by decide +kernel
theorem dX10_doLine_105 : decode cX10_doLine 105 = .ok (.iconst 1, 1) := by decide +kernel
theorem dX10_doLine_106 : decode cX10_doLine 106 = .ok (.iload_n 2, 1) := by decide +kernel
theorem dX10_doLine_107 : decode cX10_doLine 107 = .ok (.ishl, 1) := by decide +kernel
theorem dX10_doLine_108 : decode cX10_doLine 108 = .ok (.ior, 1) := by decide +kernel
theorem dX10_doLine_109 : decode cX10_doLine 109 = .ok (.putfield 75, 3) := by decide +kernel
theorem dX10_doLine_112 : decode cX10_doLine 112 = .ok (.iconst 0, 1) := by decide +kernel
theorem dX10_doLine_113 : decode cX10_doLine 113 = .ok (.istore 4, 2) := by decide +kernel
theorem dX10_doLine_115 : decode cX10_doLine 115 = .ok (.iload 4, 2) := by decide +kernel
theorem dX10_doLine_117 : decode cX10_doLine 117 = .ok (.bipush 6, 2) := by decide +kernel
theorem dX10_doLine_119 : decode cX10_doLine 119 = .ok (.if_icmp .ge 32, 3) := by decide +kernel
theorem dX10_doLine_122 : decode cX10_doLine 122 = .ok (.aload_n 0, 1) := by decide +kernel
theorem dX10_doLine_123 : decode cX10_doLine 123 = .ok (.getfield 16, 3) := by decide +kernel
theorem dX10_doLine_126 : decode cX10_doLine 126 = .ok (.bipush 6, 2) := by decide +kernel
theorem dX10_doLine_128 : decode cX10_doLine 128 = .ok (.iload_n 2, 1) := by decide +kernel
theorem dX10_doLine_129 : decode cX10_doLine 129 = .ok (.imul, 1) := by decide +kernel
theorem dX10_doLine_130 : decode cX10_doLine 130 = .ok (.iload 4, 2) := by decide +kernel
theorem dX10_doLine_132 : decode cX10_doLine 132 = .ok (.iadd, 1) := by decide +kernel
theorem dX10_doLine_133 : decode cX10_doLine 133 = .ok (.aload_n 0, 1) := by decide +kernel
theorem dX10_doLine_134 : decode cX10_doLine 134 = .ok (.getfield 29, 3) := by decide +kernel
theorem dX10_doLine_137 : decode cX10_doLine 137 = .ok (.iload_n 1, 1) := by decide +kernel
theorem dX10_doLine_138 : decode cX10_doLine 138 = .ok (.iconst 2, 1) := by decide +kernel
theorem dX10_doLine_139 : decode cX10_doLine 139 = .ok (.iadd, 1) := by decide +kernel
theorem dX10_doLine_140 : decode cX10_doLine 140 = .ok (.iload 4, 2) := by decide +kernel
theorem dX10_doLine_142 : decode cX10_doLine 142 = .ok (.iadd, 1) := by decide +kernel
theorem dX10_doLine_143 : decode cX10_doLine 143 = .ok (.iaload, 1) := by decide +kernel
theorem dX10_doLine_144 : decode cX10_doLine 144 = .ok (.iastore, 1) := by decide +kernel
theorem dX10_doLine_145 : decode cX10_doLine 145 = .ok (.iinc 4 1, 3) := by decide +kernel
theorem dX10_doLine_148 : decode cX10_doLine 148 = .ok (.goto (-33), 3) := by decide +kernel
theorem dX10_doLine_151 : decode cX10_doLine 151 = .ok (.goto 81, 3) := by decide +kernel
theorem dX10_doLine_154 : decode cX10_doLine 154 = .ok (.aload_n 0, 1) := by decide +kernel
theorem dX10_doLine_155 : decode cX10_doLine 155 = .ok (.getfield 13, 3) := by decide +kernel
theorem dX10_doLine_158 : decode cX10_doLine 158 = .ok (.bipush 100, 2) := by decide +kernel
theorem dX10_doLine_160 : decode cX10_doLine 160 = .ok (.aload_n 0, 1) := by decide +kernel
theorem dX10_doLine_161 : decode cX10_doLine 161 = .ok (.getfield 29, 3) := by decide +kernel
theorem dX10_doLine_164 : decode cX10_doLine 164 = .ok (.iload_n 1, 1) := by decide +kernel
theorem dX10_doLine_165 : decode cX10_doLine 165 = .ok (.iaload, 1) := by decide +kernel
theorem dX10_doLine_166 : decode cX10_doLine 166 = .ok (.iconst 2, 1) := by decide +kernel
theorem dX10_doLine_167 : decode cX10_doLine 167 = .ok (.isub, 1) := by decide +kernel
theorem dX10_doLine_168 : decode cX10_doLine 168 = .ok (.imul, 1) := by decide +kernel
theorem dX10_doLine_169 : decode cX10_doLine 169 = .ok (.bipush 10, 2) := by decide +kernel
theorem dX10_doLine_171 : decode cX10_doLine 171 = .ok (.iload_n 2, 1) := by decide +kernel
theorem dX10_doLine_172 : decode cX10_doLine 172 = .ok (.imul, 1) := by decide +kernel
theorem dX10_doLine_173 : decode cX10_doLine 173 = .ok (.iadd, 1) := by decide +kernel
theorem dX10_doLine_174 : decode cX10_doLine 174 = .ok (.iload_n 3, 1) := by decide +kernel
theorem dX10_doLine_175 : decode cX10_doLine 175 = .ok (.iadd, 1) := by decide +kernel
theorem dX10_doLine_176 : decode cX10_doLine 176 = .ok (.aload_n 0, 1) := by decide +kernel
theorem dX10_doLine_177 : decode cX10_doLine 177 = .ok (.getfield 29, 3) := by decide +kernel
theorem dX10_doLine_180 : decode cX10_doLine 180 = .ok (.iload_n 1, 1) := by decide +kernel
theorem dX10_doLine_181 : decode cX10_doLine 181 = .ok (.iconst 3, 1) := by decide +kernel
theorem dX10_doLine_182 : decode cX10_doLine 182 = .ok (.iadd, 1) := by decide +kernel
theorem dX10_doLine_183 : decode cX10_doLine 183 = .ok (.iaload, 1) := by decide +kernel
theorem dX10_doLine_184 : decode cX10_doLine 184 = .ok (.iastore, 1) := by decide +kernel
theorem dX10_doLine_185 : decode cX10_doLine 185 = .ok (.aload_n 0, 1) := by decide +kernel
theorem dX10_doLine_186 : decode cX10_doLine 186 = .ok (.getfield 13, 3) := by decide +kernel
theorem dX10_doLine_189 : decode cX10_doLine 189 = .ok (.bipush 100, 2) := by decide +kernel
theorem dX10_doLine_191 : decode cX10_doLine 191 = .ok (.aload_n 0, 1) := by decide +kernel
theorem dX10_doLine_192 : decode cX10_doLine 192 = .ok (.getfield 29, 3) := by decide +kernel
theorem dX10_doLine_195 : decode cX10_doLine 195 = .ok (.iload_n 1, 1) := by decide +kernel
theorem dX10_doLine_196 : decode cX10_doLine 196 = .ok (.iaload, 1) := by decide +kernel
theorem dX10_doLine_197 : decode cX10_doLine 197 = .ok (.iconst 2, 1) := by decide +kernel
theorem dX10_doLine_198 : decode cX10_doLine 198 = .ok (.isub, 1) := by decide +kernel
theorem dX10_doLine_199 : decode cX10_doLine 199 = .ok (.imul, 1) := by decide +kernel
theorem dX10_doLine_200 : decode cX10_doLine 200 = .ok (.bipush 10, 2) := by decide +kernel
theorem dX10_doLine_202 : decode cX10_doLine 202 = .ok (.iload_n 3, 1) := by decide +kernel
theorem dX10_doLine_203 : decode cX10_doLine 203 = .ok (.imul, 1) := by decide +kernel
theorem dX10_doLine_204 : decode cX10_doLine 204 = .ok (.iadd, 1) := by decide +kernel
theorem dX10_doLine_205 : decode cX10_doLine 205 = .ok (.iload_n 2, 1) := by decide +kernel
theorem dX10_doLine_206 : decode cX10_doLine 206 = .ok (.iadd, 1) := by decide +kernel
theorem dX10_doLine_207 : decode cX10_doLine 207 = .ok (.aload_n 0, 1) := by decide +kernel
theorem dX10_doLine_208 : decode cX10_doLine 208 = .ok (.getfield 29, 3) := by decide +kernel
theorem dX10_doLine_211 : decode cX10_doLine 211 = .ok (.iload_n 1, 1) := by decide +kernel
theorem dX10_doLine_212 : decode cX10_doLine 212 = .ok (.iconst 3, 1) := by decide +kernel
theorem dX10_doLine_213 : decode cX10_doLine 213 = .ok (.iadd, 1) := by decide +kernel
theorem dX10_doLine_214 : decode cX10_doLine 214 = .ok (.iaload, 1) := by decide +kernel
theorem dX10_doLine_215 : decode cX10_doLine 215 = .ok (.iastore, 1) := by decide +kernel
theorem dX10_doLine_216 : decode cX10_doLine 216 = .ok (.goto 16, 3) := by decide +kernel
theorem dX10_doLine_219 : decode cX10_doLine 219 = .ok (.aload_n 0, 1) := by decide +kernel
theorem dX10_doLine_220 : decode cX10_doLine 220 = .ok (.iload_n 2, 1) := by decide +kernel
theorem dX10_doLine_221 : decode cX10_doLine 221 = .ok (.putfield 19, 3) := by decide +kernel
theorem dX10_doLine_224 : decode cX10_doLine 224 = .ok (.goto 8, 3) := by decide +kernel
theorem dX10_doLine_227 : decode cX10_doLine 227 = .ok (.aload_n 0, 1) := by decide +kernel
theorem dX10_doLine_228 : decode cX10_doLine 228 = .ok (.iload_n 2, 1) := by decide +kernel
theorem dX10_doLine_229 : decode cX10_doLine 229 = .ok (.putfield 23, 3) := by decide +kernel
theorem dX10_doLine_232 : decode cX10_doLine 232 = .ok (.return_, 1) := by decide +kernel
theorem dX10_land_0 : decode cX10_land 0 = .ok (.aload_n 0, 1) := by decide +kernel
theorem dX10_land_1 : decode cX10_land 1 = .ok (.invokevirtual 149, 3) := by decide +kernel
theorem dX10_land_4 : decode cX10_land 4 = .ok (.ifCond .ne 6, 3) := by decide +kernel
theorem dX10_land_7 : decode cX10_land 7 = .ok (.bipush (-4), 2) := by decide +kernel
theorem dX10_land_9 : decode cX10_land 9 = .ok (.ireturn, 1) := by decide +kernel
theorem dX10_land_10 : decode cX10_land 10 = .ok (.iconst 0, 1) := by decide +kernel
theorem dX10_land_11 : decode cX10_land 11 = .ok (.istore_n 1, 1) := by decide +kernel
theorem dX10_land_12 : decode cX10_land 12 = .ok (.iload_n 1, 1) := by decide +kernel
theorem dX10_land_13 : decode cX10_land 13 = .ok (.aload_n 0, 1) := by decide +kernel
theorem dX10_land_14 : decode cX10_land 14 = .ok (.getfield 143, 3) := by decide +kernel
theorem dX10_land_17 : decode cX10_land 17 = .ok (.if_icmp .ge 17, 3) := by decide +kernel
theorem dX10_land_20 : decode cX10_land 20 = .ok (.aload_n 0, 1) := by decide +kernel
theorem dX10_land_21 : decode cX10_land 21 = .ok (.bipush 8, 2) := by decide +kernel
theorem dX10_land_23 : decode cX10_land 23 = .ok (.iload_n 1, 1) := by decide +kernel
theorem dX10_land_24 : decode cX10_land 24 = .ok (.imul, 1) := by decide +kernel
theorem dX10_land_25 : decode cX10_land 25 = .ok (.invokevirtual 152, 3) := by decide +kernel
theorem dX10_land_28 : decode cX10_land 28 = .ok (.iinc 1 1, 3) := by decide +kernel
theorem dX10_land_31 : decode cX10_land 31 = .ok (.goto (-19), 3) := by decide +kernel
theorem dX10_land_34 : decode cX10_land 34 = .ok (.aload_n 0, 1) := by decide +kernel
theorem dX10_land_35 : decode cX10_land 35 = .ok (.iconst 0, 1) := by decide +kernel
theorem dX10_land_36 : decode cX10_land 36 = .ok (.putfield 81, 3) := by decide +kernel
theorem dX10_land_39 : decode cX10_land 39 = .ok (.aload_n 0, 1) := by decide +kernel
theorem dX10_land_40 : decode cX10_land 40 = .ok (.getfield 143, 3) := by decide +kernel
theorem dX10_land_43 : decode cX10_land 43 = .ok (.ireturn, 1) := by decide +kernel
theorem dX10_place_0 : decode cX10_place 0 = .ok (.iload_n 1, 1) := by decide +kernel
theorem dX10_place_1 : decode cX10_place 1 = .ok (.invokestatic 156, 3) := by decide +kernel
theorem dX10_place_4 : decode cX10_place 4 = .ok (.ifCond .ne 6, 3) := by decide +kernel
theorem dX10_place_7 : decode cX10_place 7 = .ok (.bipush (-2), 2) := by decide +kernel
theorem dX10_place_9 : decode cX10_place 9 = .ok (.ireturn, 1) := by decide +kernel
theorem dX10_place_10 : decode cX10_place 10 = .ok (.iload_n 2, 1) := by decide +kernel
theorem dX10_place_11 : decode cX10_place 11 = .ok (.iconst 0, 1) := by decide +kernel
theorem dX10_place_12 : decode cX10_place 12 = .ok (.iconst 2, 1) := by decide +kernel
theorem dX10_place_13 : decode cX10_place 13 = .ok (.invokestatic 71, 3) := by decide +kernel
theorem dX10_place_16 : decode cX10_place 16 = .ok (.ifCond .eq 16, 3) := by decide +kernel
theorem dX10_place_19 : decode cX10_place 19 = .ok (.aload_n 0, 1) := by decide +kernel
theorem dX10_place_20 : decode cX10_place 20 = .ok (.getfield 7, 3) := by decide +kernel
theorem dX10_place_23 : decode cX10_place 23 = .ok (.iconst 3, 1) := by decide +kernel
theorem dX10_place_24 : decode cX10_place 24 = .ok (.iload_n 1, 1) := by decide +kernel
theorem dX10_place_25 : decode cX10_place 25 = .ok (.imul, 1) := by decide +kernel
theorem dX10_place_26 : decode cX10_place 26 = .ok (.iload_n 2, 1) := by decide +kernel
theorem dX10_place_27 : decode cX10_place 27 = .ok (.iadd, 1) := by decide +kernel
theorem dX10_place_28 : decode cX10_place 28 = .ok (.iaload, 1) := by decide +kernel
theorem dX10_place_29 : decode cX10_place 29 = .ok (.goto 5, 3) := by decide +kernel
theorem dX10_place_32 : decode cX10_place 32 = .ok (.bipush (-3), 2) := by decide +kernel
theorem dX10_place_34 : decode cX10_place 34 = .ok (.ireturn, 1) := by decide +kernel
theorem dX10_flow_0 : decode cX10_flow 0 = .ok (.aload_n 0, 1) := by decide +kernel
theorem dX10_flow_1 : decode cX10_flow 1 = .ok (.iload_n 1, 1) := by decide +kernel
theorem dX10_flow_2 : decode cX10_flow 2 = .ok (.invokevirtual 159, 3) := by decide +kernel
theorem dX10_flow_5 : decode cX10_flow 5 = .ok (.ifCond .ne 6, 3) := by decide +kernel
theorem dX10_flow_8 : decode cX10_flow 8 = .ok (.bipush (-2), 2) := by decide +kernel
theorem dX10_flow_10 : decode cX10_flow 10 = .ok (.ireturn, 1) := by decide +kernel
theorem dX10_flow_11 : decode cX10_flow 11 = .ok (.iload_n 2, 1) := by decide +kernel
theorem dX10_flow_12 : decode cX10_flow 12 = .ok (.iconst 0, 1) := by decide +kernel
theorem dX10_flow_13 : decode cX10_flow 13 = .ok (.iconst 5, 1) := by decide +kernel
theorem dX10_flow_14 : decode cX10_flow 14 = .ok (.invokestatic 71, 3) := by decide +kernel
theorem dX10_flow_17 : decode cX10_flow 17 = .ok (.ifCond .eq 17, 3) := by decide +kernel
theorem dX10_flow_20 : decode cX10_flow 20 = .ok (.aload_n 0, 1) := by decide +kernel
theorem dX10_flow_21 : decode cX10_flow 21 = .ok (.getfield 16, 3) := by decide +kernel
theorem dX10_flow_24 : decode cX10_flow 24 = .ok (.bipush 6, 2) := by decide +kernel
theorem dX10_flow_26 : decode cX10_flow 26 = .ok (.iload_n 1, 1) := by decide +kernel
theorem dX10_flow_27 : decode cX10_flow 27 = .ok (.imul, 1) := by decide +kernel
theorem dX10_flow_28 : decode cX10_flow 28 = .ok (.iload_n 2, 1) := by decide +kernel
theorem dX10_flow_29 : decode cX10_flow 29 = .ok (.iadd, 1) := by decide +kernel
theorem dX10_flow_30 : decode cX10_flow 30 = .ok (.iaload, 1) := by decide +kernel
theorem dX10_flow_31 : decode cX10_flow 31 = .ok (.goto 5, 3) := by decide +kernel
theorem dX10_flow_34 : decode cX10_flow 34 = .ok (.bipush (-3), 2) := by decide +kernel
theorem dX10_flow_36 : decode cX10_flow 36 = .ok (.ireturn, 1) := by decide +kernel
theorem dX10_way_0 : decode cX10_way 0 = .ok (.iload_n 1, 1) := by decide +kernel
theorem dX10_way_1 : decode cX10_way 1 = .ok (.invokestatic 156, 3) := by decide +kernel
theorem dX10_way_4 : decode cX10_way 4 = .ok (.ifCond .eq 15, 3) := by decide +kernel
theorem dX10_way_7 : decode cX10_way 7 = .ok (.iload_n 2, 1) := by decide +kernel
theorem dX10_way_8 : decode cX10_way 8 = .ok (.invokestatic 156, 3) := by decide +kernel
theorem dX10_way_11 : decode cX10_way 11 = .ok (.ifCond .eq 8, 3) := by decide +kernel
theorem dX10_way_14 : decode cX10_way 14 = .ok (.iload_n 1, 1) := by decide +kernel
theorem dX10_way_15 : decode cX10_way 15 = .ok (.iload_n 2, 1) := by decide +kernel
theorem dX10_way_16 : decode cX10_way 16 = .ok (.if_icmp .ne 6, 3) := by decide +kernel
theorem dX10_way_19 : decode cX10_way 19 = .ok (.bipush (-2), 2) := by decide +kernel
theorem dX10_way_21 : decode cX10_way 21 = .ok (.ireturn, 1) := by decide +kernel
theorem dX10_way_22 : decode cX10_way 22 = .ok (.iload_n 3, 1) := by decide +kernel
theorem dX10_way_23 : decode cX10_way 23 = .ok (.iconst 0, 1) := by decide +kernel
theorem dX10_way_24 : decode cX10_way 24 = .ok (.iconst 1, 1) := by decide +kernel
theorem dX10_way_25 : decode cX10_way 25 = .ok (.invokestatic 71, 3) := by decide +kernel
theorem dX10_way_28 : decode cX10_way 28 = .ok (.ifCond .eq 22, 3) := by decide +kernel
theorem dX10_way_31 : decode cX10_way 31 = .ok (.aload_n 0, 1) := by decide +kernel
theorem dX10_way_32 : decode cX10_way 32 = .ok (.getfield 13, 3) := by decide +kernel
theorem dX10_way_35 : decode cX10_way 35 = .ok (.bipush 100, 2) := by decide +kernel
theorem dX10_way_37 : decode cX10_way 37 = .ok (.iload_n 3, 1) := by decide +kernel
theorem dX10_way_38 : decode cX10_way 38 = .ok (.imul, 1) := by decide +kernel
theorem dX10_way_39 : decode cX10_way 39 = .ok (.bipush 10, 2) := by decide +kernel
theorem dX10_way_41 : decode cX10_way 41 = .ok (.iload_n 1, 1) := by decide +kernel
theorem dX10_way_42 : decode cX10_way 42 = .ok (.imul, 1) := by decide +kernel
theorem dX10_way_43 : decode cX10_way 43 = .ok (.iadd, 1) := by decide +kernel
theorem dX10_way_44 : decode cX10_way 44 = .ok (.iload_n 2, 1) := by decide +kernel
theorem dX10_way_45 : decode cX10_way 45 = .ok (.iadd, 1) := by decide +kernel
theorem dX10_way_46 : decode cX10_way 46 = .ok (.iaload, 1) := by decide +kernel
theorem dX10_way_47 : decode cX10_way 47 = .ok (.goto 5, 3) := by decide +kernel
theorem dX10_way_50 : decode cX10_way 50 = .ok (.bipush (-3), 2) := by decide +kernel
theorem dX10_way_52 : decode cX10_way 52 = .ok (.ireturn, 1) := by decide +kernel
theorem dX10_areNumbers_0 : decode cX10_areNumbers 0 = .ok (.iload_n 0, 1) := by decide +kernel
theorem dX10_areNumbers_1 : decode cX10_areNumbers 1 = .ok (.sipush 1023, 3) := by decide +kernel
theorem dX10_areNumbers_4 : decode cX10_areNumbers 4 = .ok (.iand, 1) := by decide +kernel
theorem dX10_areNumbers_5 : decode cX10_areNumbers 5 = .ok (.sipush 1000, 3) := by decide +kernel
theorem dX10_areNumbers_8 : decode cX10_areNumbers 8 = .ok (.if_icmp .ge 35, 3) := by decide +kernel
theorem dX10_areNumbers_11 : decode cX10_areNumbers 11 = .ok (.iload_n 0, 1) := by decide +kernel
theorem dX10_areNumbers_12 : decode cX10_areNumbers 12 = .ok (.bipush 10, 2) := by decide +kernel
theorem dX10_areNumbers_14 : decode cX10_areNumbers 14 = .ok (.ishr, 1) := by decide +kernel
theorem dX10_areNumbers_15 : decode cX10_areNumbers 15 = .ok (.sipush 1023, 3) := by decide +kernel
theorem dX10_areNumbers_18 : decode cX10_areNumbers 18 = .ok (.iand, 1) := by decide +kernel
theorem dX10_areNumbers_19 : decode cX10_areNumbers 19 = .ok (.sipush 1000, 3) := by decide +kernel
theorem dX10_areNumbers_22 : decode cX10_areNumbers 22 = .ok (.if_icmp .ge 21, 3) := by decide +kernel
theorem dX10_areNumbers_25 : decode cX10_areNumbers 25 = .ok (.iload_n 0, 1) := by decide +kernel
theorem dX10_areNumbers_26 : decode cX10_areNumbers 26 = .ok (.bipush 20, 2) := by decide +kernel
theorem dX10_areNumbers_28 : decode cX10_areNumbers 28 = .ok (.ishr, 1) := by decide +kernel
theorem dX10_areNumbers_29 : decode cX10_areNumbers 29 = .ok (.sipush 1023, 3) := by decide +kernel
theorem dX10_areNumbers_32 : decode cX10_areNumbers 32 = .ok (.iand, 1) := by decide +kernel
theorem dX10_areNumbers_33 : decode cX10_areNumbers 33 = .ok (.sipush 1000, 3) := by decide +kernel
theorem dX10_areNumbers_36 : decode cX10_areNumbers 36 = .ok (.if_icmp .ge 7, 3) := by decide +kernel
theorem dX10_areNumbers_39 : decode cX10_areNumbers 39 = .ok (.iconst 1, 1) := by decide +kernel
theorem dX10_areNumbers_40 : decode cX10_areNumbers 40 = .ok (.goto 4, 3) := by decide +kernel
theorem dX10_areNumbers_43 : decode cX10_areNumbers 43 = .ok (.iconst 0, 1) := by decide +kernel
theorem dX10_areNumbers_44 : decode cX10_areNumbers 44 = .ok (.ireturn, 1) := by decide +kernel
theorem dX10_layNumbers_0 : decode cX10_layNumbers 0 = .ok (.iconst 0, 1) := by decide +kernel
theorem dX10_layNumbers_1 : decode cX10_layNumbers 1 = .ok (.istore 4, 2) := by decide +kernel
theorem dX10_layNumbers_3 : decode cX10_layNumbers 3 = .ok (.iload 4, 2) := by decide +kernel
theorem dX10_layNumbers_5 : decode cX10_layNumbers 5 = .ok (.iconst 3, 1) := by decide +kernel
theorem dX10_layNumbers_6 : decode cX10_layNumbers 6 = .ok (.if_icmp .ge 34, 3) := by decide +kernel
theorem dX10_layNumbers_9 : decode cX10_layNumbers 9 = .ok (.aload_n 0, 1) := by decide +kernel
theorem dX10_layNumbers_10 : decode cX10_layNumbers 10 = .ok (.getfield 32, 3) := by decide +kernel
theorem dX10_layNumbers_13 : decode cX10_layNumbers 13 = .ok (.bipush 11, 2) := by decide +kernel
theorem dX10_layNumbers_15 : decode cX10_layNumbers 15 = .ok (.iload_n 1, 1) := by decide +kernel
theorem dX10_layNumbers_16 : decode cX10_layNumbers 16 = .ok (.imul, 1) := by decide +kernel
theorem dX10_layNumbers_17 : decode cX10_layNumbers 17 = .ok (.iconst 1, 1) := by decide +kernel
theorem dX10_layNumbers_18 : decode cX10_layNumbers 18 = .ok (.iadd, 1) := by decide +kernel
theorem dX10_layNumbers_19 : decode cX10_layNumbers 19 = .ok (.iload 4, 2) := by decide +kernel
theorem dX10_layNumbers_21 : decode cX10_layNumbers 21 = .ok (.iadd, 1) := by decide +kernel
theorem dX10_layNumbers_22 : decode cX10_layNumbers 22 = .ok (.iload_n 2, 1) := by decide +kernel
theorem dX10_layNumbers_23 : decode cX10_layNumbers 23 = .ok (.bipush 10, 2) := by decide +kernel
theorem dX10_layNumbers_25 : decode cX10_layNumbers 25 = .ok (.iload 4, 2) := by decide +kernel
theorem dX10_layNumbers_27 : decode cX10_layNumbers 27 = .ok (.imul, 1) := by decide +kernel
theorem dX10_layNumbers_28 : decode cX10_layNumbers 28 = .ok (.ishr, 1) := by decide +kernel
theorem dX10_layNumbers_29 : decode cX10_layNumbers 29 = .ok (.sipush 1023, 3) := by decide +kernel
theorem dX10_layNumbers_32 : decode cX10_layNumbers 32 = .ok (.iand, 1) := by decide +kernel
theorem dX10_layNumbers_33 : decode cX10_layNumbers 33 = .ok (.iastore, 1) := by decide +kernel
theorem dX10_layNumbers_34 : decode cX10_layNumbers 34 = .ok (.iinc 4 1, 3) := by decide +kernel
theorem dX10_layNumbers_37 : decode cX10_layNumbers 37 = .ok (.goto (-34), 3) := by decide +kernel
theorem dX10_layNumbers_40 : decode cX10_layNumbers 40 = .ok (.aload_n 0, 1) := by decide +kernel
theorem dX10_layNumbers_41 : decode cX10_layNumbers 41 = .ok (.getfield 32, 3) := by decide +kernel
theorem dX10_layNumbers_44 : decode cX10_layNumbers 44 = .ok (.bipush 11, 2) := by decide +kernel
theorem dX10_layNumbers_46 : decode cX10_layNumbers 46 = .ok (.iload_n 1, 1) := by decide +kernel
theorem dX10_layNumbers_47 : decode cX10_layNumbers 47 = .ok (.imul, 1) := by decide +kernel
theorem dX10_layNumbers_48 : decode cX10_layNumbers 48 = .ok (.iconst 4, 1) := by decide +kernel
theorem dX10_layNumbers_49 : decode cX10_layNumbers 49 = .ok (.iadd, 1) := by decide +kernel
theorem dX10_layNumbers_50 : decode cX10_layNumbers 50 = .ok (.iload_n 3, 1) := by decide +kernel
theorem dX10_layNumbers_51 : decode cX10_layNumbers 51 = .ok (.iastore, 1) := by decide +kernel
theorem dX10_layNumbers_52 : decode cX10_layNumbers 52 = .ok (.return_, 1) := by decide +kernel
theorem dX10_blade_0 : decode cX10_blade 0 = .ok (.iload_n 1, 1) := by decide +kernel
theorem dX10_blade_1 : decode cX10_blade 1 = .ok (.invokestatic 156, 3) := by decide +kernel
theorem dX10_blade_4 : decode cX10_blade 4 = .ok (.ifCond .ne 6, 3) := by decide +kernel
theorem dX10_blade_7 : decode cX10_blade 7 = .ok (.bipush (-2), 2) := by decide +kernel
theorem dX10_blade_9 : decode cX10_blade 9 = .ok (.ireturn, 1) := by decide +kernel
theorem dX10_blade_10 : decode cX10_blade 10 = .ok (.iload_n 2, 1) := by decide +kernel
theorem dX10_blade_11 : decode cX10_blade 11 = .ok (.invokestatic 162, 3) := by decide +kernel
theorem dX10_blade_14 : decode cX10_blade 14 = .ok (.ifCond .eq 36, 3) := by decide +kernel
theorem dX10_blade_17 : decode cX10_blade 17 = .ok (.iload_n 3, 1) := by decide +kernel
theorem dX10_blade_18 : decode cX10_blade 18 = .ok (.iconst 1, 1) := by decide +kernel
theorem dX10_blade_19 : decode cX10_blade 19 = .ok (.bipush 99, 2) := by decide +kernel
theorem dX10_blade_21 : decode cX10_blade 21 = .ok (.invokestatic 71, 3) := by decide +kernel
theorem dX10_blade_24 : decode cX10_blade 24 = .ok (.ifCond .eq 26, 3) := by decide +kernel
theorem dX10_blade_27 : decode cX10_blade 27 = .ok (.iload 4, 2) := by decide +kernel
theorem dX10_blade_29 : decode cX10_blade 29 = .ok (.iconst 1, 1) := by decide +kernel
theorem dX10_blade_30 : decode cX10_blade 30 = .ok (.sipush 999, 3) := by decide +kernel
theorem dX10_blade_33 : decode cX10_blade 33 = .ok (.invokestatic 71, 3) := by decide +kernel
theorem dX10_blade_36 : decode cX10_blade 36 = .ok (.ifCond .eq 14, 3) := by decide +kernel
theorem dX10_blade_39 : decode cX10_blade 39 = .ok (.iload 5, 2) := by decide +kernel
theorem dX10_blade_41 : decode cX10_blade 41 = .ok (.iconst 0, 1) := by decide +kernel
theorem dX10_blade_42 : decode cX10_blade 42 = .ok (.bipush 99, 2) := by decide +kernel
theorem dX10_blade_44 : decode cX10_blade 44 = .ok (.invokestatic 71, 3) := by decide +kernel
theorem dX10_blade_47 : decode cX10_blade 47 = .ok (.ifCond .ne 6, 3) := by decide +kernel
theorem dX10_blade_50 : decode cX10_blade 50 = .ok (.bipush (-3), 2) := by decide +kernel
theorem dX10_blade_52 : decode cX10_blade 52 = .ok (.ireturn, 1) := by decide +kernel
theorem dX10_blade_53 : decode cX10_blade 53 = .ok (.aload_n 0, 1) := by decide +kernel
theorem dX10_blade_54 : decode cX10_blade 54 = .ok (.getfield 78, 3) := by decide +kernel
theorem dX10_blade_57 : decode cX10_blade 57 = .ok (.bipush 12, 2) := by decide +kernel
theorem dX10_blade_59 : decode cX10_blade 59 = .ok (.if_icmp .ne 6, 3) := by decide +kernel
theorem dX10_blade_62 : decode cX10_blade 62 = .ok (.bipush (-5), 2) := by decide +kernel
theorem dX10_blade_64 : decode cX10_blade 64 = .ok (.ireturn, 1) := by decide +kernel
theorem dX10_blade_65 : decode cX10_blade 65 = .ok (.bipush 11, 2) := by decide +kernel
theorem dX10_blade_67 : decode cX10_blade 67 = .ok (.aload_n 0, 1) := by decide +kernel
theorem dX10_blade_68 : decode cX10_blade 68 = .ok (.getfield 78, 3) := by decide +kernel
theorem dX10_blade_71 : decode cX10_blade 71 = .ok (.imul, 1) := by decide +kernel
theorem dX10_blade_72 : decode cX10_blade 72 = .ok (.istore 6, 2) := by decide +kernel
theorem dX10_blade_74 : decode cX10_blade 74 = .ok (.aload_n 0, 1) := by decide +kernel
theorem dX10_blade_75 : decode cX10_blade 75 = .ok (.getfield 32, 3) := by decide +kernel
theorem dX10_blade_78 : decode cX10_blade 78 = .ok (.iload 6, 2) := by decide +kernel
theorem dX10_blade_80 : decode cX10_blade 80 = .ok (.iload_n 1, 1) := by decide +kernel
theorem dX10_blade_81 : decode cX10_blade 81 = .ok (.iastore, 1) := by decide +kernel
theorem dX10_blade_82 : decode cX10_blade 82 = .ok (.aload_n 0, 1) := by decide +kernel
theorem dX10_blade_83 : decode cX10_blade 83 = .ok (.aload_n 0, 1) := by decide +kernel
theorem dX10_blade_84 : decode cX10_blade 84 = .ok (.getfield 78, 3) := by decide +kernel
theorem dX10_blade_87 : decode cX10_blade 87 = .ok (.iload_n 2, 1) := by decide +kernel
theorem dX10_blade_88 : decode cX10_blade 88 = .ok (.iload_n 3, 1) := by decide +kernel
theorem dX10_blade_89 : decode cX10_blade 89 = .ok (.invokevirtual 165, 3) := by decide +kernel
theorem dX10_blade_92 : decode cX10_blade 92 = .ok (.aload_n 0, 1) := by decide +kernel
theorem dX10_blade_93 : decode cX10_blade 93 = .ok (.getfield 32, 3) := by decide +kernel
theorem dX10_blade_96 : decode cX10_blade 96 = .ok (.iload 6, 2) := by decide +kernel
theorem dX10_blade_98 : decode cX10_blade 98 = .ok (.iconst 5, 1) := by decide +kernel
theorem dX10_blade_99 : decode cX10_blade 99 = .ok (.iadd, 1) := by decide +kernel
theorem dX10_blade_100 : decode cX10_blade 100 = .ok (.iload 4, 2) := by decide +kernel
theorem dX10_blade_102 : decode cX10_blade 102 = .ok (.iastore, 1) := by decide +kernel
theorem dX10_blade_103 : decode cX10_blade 103 = .ok (.aload_n 0, 1) := by decide +kernel
theorem dX10_blade_104 : decode cX10_blade 104 = .ok (.getfield 32, 3) := by decide +kernel
theorem dX10_blade_107 : decode cX10_blade 107 = .ok (.iload 6, 2) := by decide +kernel
theorem dX10_blade_109 : decode cX10_blade 109 = .ok (.bipush 6, 2) := by decide +kernel
theorem dX10_blade_111 : decode cX10_blade 111 = .ok (.iadd, 1) := by decide +kernel
theorem dX10_blade_112 : decode cX10_blade 112 = .ok (.iload 5, 2) := by decide +kernel
theorem dX10_blade_114 : decode cX10_blade 114 = .ok (.iastore, 1) := by decide +kernel
theorem dX10_blade_115 : decode cX10_blade 115 = .ok (.aload_n 0, 1) := by decide +kernel
theorem dX10_blade_116 : decode cX10_blade 116 = .ok (.getfield 32, 3) := by decide +kernel
theorem dX10_blade_119 : decode cX10_blade 119 = .ok (.iload 6, 2) := by decide +kernel
theorem dX10_blade_121 : decode cX10_blade 121 = .ok (.bipush 7, 2) := by decide +kernel
theorem dX10_blade_123 : decode cX10_blade 123 = .ok (.iadd, 1) := by decide +kernel
theorem dX10_blade_124 : decode cX10_blade 124 = .ok (.iconst 0, 1) := by decide +kernel
theorem dX10_blade_125 : decode cX10_blade 125 = .ok (.iastore, 1) := by decide +kernel
theorem dX10_blade_126 : decode cX10_blade 126 = .ok (.aload_n 0, 1) := by decide +kernel
theorem dX10_blade_127 : decode cX10_blade 127 = .ok (.getfield 32, 3) := by decide +kernel
theorem dX10_blade_130 : decode cX10_blade 130 = .ok (.iload 6, 2) := by decide +kernel
theorem dX10_blade_132 : decode cX10_blade 132 = .ok (.bipush 8, 2) := by decide +kernel
theorem dX10_blade_134 : decode cX10_blade 134 = .ok (.iadd, 1) := by decide +kernel
theorem dX10_blade_135 : decode cX10_blade 135 = .ok (.iconst 0, 1) := by decide +kernel
theorem dX10_blade_136 : decode cX10_blade 136 = .ok (.iastore, 1) := by decide +kernel
theorem dX10_blade_137 : decode cX10_blade 137 = .ok (.aload_n 0, 1) := by decide +kernel
theorem dX10_blade_138 : decode cX10_blade 138 = .ok (.getfield 32, 3) := by decide +kernel
theorem dX10_blade_141 : decode cX10_blade 141 = .ok (.iload 6, 2) := by decide +kernel
theorem dX10_blade_143 : decode cX10_blade 143 = .ok (.bipush 9, 2) := by decide +kernel
theorem dX10_blade_145 : decode cX10_blade 145 = .ok (.iadd, 1) := by decide +kernel
theorem dX10_blade_146 : decode cX10_blade 146 = .ok (.iconst (-1), 1) := by decide +kernel
theorem dX10_blade_147 : decode cX10_blade 147 = .ok (.iastore, 1) := by decide +kernel
theorem dX10_blade_148 : decode cX10_blade 148 = .ok (.aload_n 0, 1) := by decide +kernel
theorem dX10_blade_149 : decode cX10_blade 149 = .ok (.getfield 32, 3) := by decide +kernel
theorem dX10_blade_152 : decode cX10_blade 152 = .ok (.iload 6, 2) := by decide +kernel
theorem dX10_blade_154 : decode cX10_blade 154 = .ok (.bipush 10, 2) := by decide +kernel
theorem dX10_blade_156 : decode cX10_blade 156 = .ok (.iadd, 1) := by decide +kernel
theorem dX10_blade_157 : decode cX10_blade 157 = .ok (.iconst (-1), 1) := by decide +kernel
theorem dX10_blade_158 : decode cX10_blade 158 = .ok (.iastore, 1) := by decide +kernel
theorem dX10_blade_159 : decode cX10_blade 159 = .ok (.aload_n 0, 1) := by decide +kernel
theorem dX10_blade_160 : decode cX10_blade 160 = .ok (.dup, 1) := by decide +kernel
theorem dX10_blade_161 : decode cX10_blade 161 = .ok (.getfield 78, 3) := by decide +kernel
theorem dX10_blade_164 : decode cX10_blade 164 = .ok (.iconst 1, 1) := by decide +kernel
theorem dX10_blade_165 : decode cX10_blade 165 = .ok (.iadd, 1) := by decide +kernel
theorem dX10_blade_166 : decode cX10_blade 166 = .ok (.putfield 78, 3) := by decide +kernel
theorem dX10_blade_169 : decode cX10_blade 169 = .ok (.aload_n 0, 1) := by decide +kernel
theorem dX10_blade_170 : decode cX10_blade 170 = .ok (.getfield 78, 3) := by decide +kernel
theorem dX10_blade_173 : decode cX10_blade 173 = .ok (.iconst 1, 1) := by decide +kernel
theorem dX10_blade_174 : decode cX10_blade 174 = .ok (.isub, 1) := by decide +kernel
theorem dX10_blade_175 : decode cX10_blade 175 = .ok (.ireturn, 1) := by decide +kernel
theorem dX10_rim_0 : decode cX10_rim 0 = .ok (.aload_n 0, 1) := by decide +kernel
theorem dX10_rim_1 : decode cX10_rim 1 = .ok (.iload_n 1, 1) := by decide +kernel
theorem dX10_rim_2 : decode cX10_rim 2 = .ok (.invokevirtual 169, 3) := by decide +kernel
theorem dX10_rim_5 : decode cX10_rim 5 = .ok (.ifCond .ne 6, 3) := by decide +kernel
theorem dX10_rim_8 : decode cX10_rim 8 = .ok (.bipush (-2), 2) := by decide +kernel
theorem dX10_rim_10 : decode cX10_rim 10 = .ok (.ireturn, 1) := by decide +kernel
theorem dX10_rim_11 : decode cX10_rim 11 = .ok (.iload_n 2, 1) := by decide +kernel
theorem dX10_rim_12 : decode cX10_rim 12 = .ok (.iconst 0, 1) := by decide +kernel
theorem dX10_rim_13 : decode cX10_rim 13 = .ok (.sipush 999, 3) := by decide +kernel
theorem dX10_rim_16 : decode cX10_rim 16 = .ok (.invokestatic 71, 3) := by decide +kernel
theorem dX10_rim_19 : decode cX10_rim 19 = .ok (.ifCond .eq 23, 3) := by decide +kernel
theorem dX10_rim_22 : decode cX10_rim 22 = .ok (.iload_n 3, 1) := by decide +kernel
theorem dX10_rim_23 : decode cX10_rim 23 = .ok (.iconst 0, 1) := by decide +kernel
theorem dX10_rim_24 : decode cX10_rim 24 = .ok (.sipush 999, 3) := by decide +kernel
theorem dX10_rim_27 : decode cX10_rim 27 = .ok (.invokestatic 71, 3) := by decide +kernel
theorem dX10_rim_30 : decode cX10_rim 30 = .ok (.ifCond .eq 12, 3) := by decide +kernel
theorem dX10_rim_33 : decode cX10_rim 33 = .ok (.iload_n 3, 1) := by decide +kernel
theorem dX10_rim_34 : decode cX10_rim 34 = .ok (.ifCond .le 11, 3) := by decide +kernel
theorem dX10_rim_37 : decode cX10_rim 37 = .ok (.iload_n 3, 1) := by decide +kernel
theorem dX10_rim_38 : decode cX10_rim 38 = .ok (.iload_n 2, 1) := by decide +kernel
theorem dX10_rim_39 : decode cX10_rim 39 = .ok (.if_icmp .lt 6, 3) := by decide +kernel
theorem dX10_rim_42 : decode cX10_rim 42 = .ok (.bipush (-3), 2) := by decide +kernel
theorem dX10_rim_44 : decode cX10_rim 44 = .ok (.ireturn, 1) := by decide +kernel
theorem dX10_rim_45 : decode cX10_rim 45 = .ok (.aload_n 0, 1) := by decide +kernel
theorem dX10_rim_46 : decode cX10_rim 46 = .ok (.getfield 32, 3) := by decide +kernel
theorem dX10_rim_49 : decode cX10_rim 49 = .ok (.bipush 11, 2) := by decide +kernel
theorem dX10_rim_51 : decode cX10_rim 51 = .ok (.iload_n 1, 1) := by decide +kernel
theorem dX10_rim_52 : decode cX10_rim 52 = .ok (.imul, 1) := by decide +kernel
theorem dX10_rim_53 : decode cX10_rim 53 = .ok (.bipush 7, 2) := by decide +kernel
theorem dX10_rim_55 : decode cX10_rim 55 = .ok (.iadd, 1) := by decide +kernel
theorem dX10_rim_56 : decode cX10_rim 56 = .ok (.iload_n 2, 1) := by decide +kernel
theorem dX10_rim_57 : decode cX10_rim 57 = .ok (.iastore, 1) := by decide +kernel
theorem dX10_rim_58 : decode cX10_rim 58 = .ok (.aload_n 0, 1) := by decide +kernel
theorem dX10_rim_59 : decode cX10_rim 59 = .ok (.getfield 32, 3) := by decide +kernel
theorem dX10_rim_62 : decode cX10_rim 62 = .ok (.bipush 11, 2) := by decide +kernel
theorem dX10_rim_64 : decode cX10_rim 64 = .ok (.iload_n 1, 1) := by decide +kernel
theorem dX10_rim_65 : decode cX10_rim 65 = .ok (.imul, 1) := by decide +kernel
theorem dX10_rim_66 : decode cX10_rim 66 = .ok (.bipush 8, 2) := by decide +kernel
theorem dX10_rim_68 : decode cX10_rim 68 = .ok (.iadd, 1) := by decide +kernel
theorem dX10_rim_69 : decode cX10_rim 69 = .ok (.iload_n 3, 1) := by decide +kernel
theorem dX10_rim_70 : decode cX10_rim 70 = .ok (.iastore, 1) := by decide +kernel
theorem dX10_rim_71 : decode cX10_rim 71 = .ok (.iconst 1, 1) := by decide +kernel
theorem dX10_rim_72 : decode cX10_rim 72 = .ok (.ireturn, 1) := by decide +kernel
theorem dX10_measure_0 : decode cX10_measure 0 = .ok (.aload_n 0, 1) := by decide +kernel
theorem dX10_measure_1 : decode cX10_measure 1 = .ok (.iload_n 1, 1) := by decide +kernel
theorem dX10_measure_2 : decode cX10_measure 2 = .ok (.invokevirtual 169, 3) := by decide +kernel
theorem dX10_measure_5 : decode cX10_measure 5 = .ok (.ifCond .ne 6, 3) := by decide +kernel
theorem dX10_measure_8 : decode cX10_measure 8 = .ok (.bipush (-2), 2) := by decide +kernel
theorem dX10_measure_10 : decode cX10_measure 10 = .ok (.ireturn, 1) := by decide +kernel
theorem dX10_measure_11 : decode cX10_measure 11 = .ok (.iload_n 2, 1) := by decide +kernel
theorem dX10_measure_12 : decode cX10_measure 12 = .ok (.invokestatic 162, 3) := by decide +kernel
theorem dX10_measure_15 : decode cX10_measure 15 = .ok (.ifCond .eq 13, 3) := by decide +kernel
theorem dX10_measure_18 : decode cX10_measure 18 = .ok (.iload_n 3, 1) := by decide +kernel
theorem dX10_measure_19 : decode cX10_measure 19 = .ok (.iconst 1, 1) := by decide +kernel
theorem dX10_measure_20 : decode cX10_measure 20 = .ok (.bipush 99, 2) := by decide +kernel
theorem dX10_measure_22 : decode cX10_measure 22 = .ok (.invokestatic 71, 3) := by decide +kernel
theorem dX10_measure_25 : decode cX10_measure 25 = .ok (.ifCond .ne 6, 3) := by decide +kernel
theorem dX10_measure_28 : decode cX10_measure 28 = .ok (.bipush (-3), 2) := by decide +kernel
theorem dX10_measure_30 : decode cX10_measure 30 = .ok (.ireturn, 1) := by decide +kernel
theorem dX10_measure_31 : decode cX10_measure 31 = .ok (.aload_n 0, 1) := by decide +kernel
theorem dX10_measure_32 : decode cX10_measure 32 = .ok (.iload_n 1, 1) := by decide +kernel
theorem dX10_measure_33 : decode cX10_measure 33 = .ok (.iconst 4, 1) := by decide +kernel
theorem dX10_measure_34 : decode cX10_measure 34 = .ok (.invokevirtual 172, 3) := by decide +kernel
theorem dX10_measure_37 : decode cX10_measure 37 = .ok (.istore 4, 2) := by decide +kernel
theorem dX10_measure_39 : decode cX10_measure 39 = .ok (.aload_n 0, 1) := by decide +kernel
theorem dX10_measure_40 : decode cX10_measure 40 = .ok (.iload_n 1, 1) := by decide +kernel
theorem dX10_measure_41 : decode cX10_measure 41 = .ok (.iload_n 2, 1) := by decide +kernel
theorem dX10_measure_42 : decode cX10_measure 42 = .ok (.iload_n 3, 1) := by decide +kernel
theorem dX10_measure_43 : decode cX10_measure 43 = .ok (.invokevirtual 165, 3) := by decide +kernel
theorem dX10_measure_46 : decode cX10_measure 46 = .ok (.iload 4, 2) := by decide +kernel
theorem dX10_measure_48 : decode cX10_measure 48 = .ok (.ireturn, 1) := by decide +kernel
theorem dX10_of_0 : decode cX10_of 0 = .ok (.aload_n 0, 1) := by decide +kernel
theorem dX10_of_1 : decode cX10_of 1 = .ok (.iload_n 1, 1) := by decide +kernel
theorem dX10_of_2 : decode cX10_of 2 = .ok (.invokevirtual 169, 3) := by decide +kernel
theorem dX10_of_5 : decode cX10_of 5 = .ok (.ifCond .ne 6, 3) := by decide +kernel
theorem dX10_of_8 : decode cX10_of 8 = .ok (.bipush (-2), 2) := by decide +kernel
theorem dX10_of_10 : decode cX10_of 10 = .ok (.ireturn, 1) := by decide +kernel
theorem dX10_of_11 : decode cX10_of 11 = .ok (.iload_n 2, 1) := by decide +kernel
theorem dX10_of_12 : decode cX10_of 12 = .ok (.iconst 0, 1) := by decide +kernel
theorem dX10_of_13 : decode cX10_of 13 = .ok (.bipush 9, 2) := by decide +kernel
theorem dX10_of_15 : decode cX10_of 15 = .ok (.invokestatic 71, 3) := by decide +kernel
theorem dX10_of_18 : decode cX10_of 18 = .ok (.ifCond .eq 12, 3) := by decide +kernel
theorem dX10_of_21 : decode cX10_of 21 = .ok (.aload_n 0, 1) := by decide +kernel
theorem dX10_of_22 : decode cX10_of 22 = .ok (.iload_n 1, 1) := by decide +kernel
theorem dX10_of_23 : decode cX10_of 23 = .ok (.iload_n 2, 1) := by decide +kernel
theorem dX10_of_24 : decode cX10_of 24 = .ok (.invokevirtual 172, 3) := by decide +kernel
theorem dX10_of_27 : decode cX10_of 27 = .ok (.goto 5, 3) := by decide +kernel
theorem dX10_of_30 : decode cX10_of 30 = .ok (.bipush (-3), 2) := by decide +kernel
theorem dX10_of_32 : decode cX10_of 32 = .ok (.ireturn, 1) := by decide +kernel
theorem dX10_offOf_0 : decode cX10_offOf 0 = .ok (.iconst 0, 1) := by decide +kernel
theorem dX10_offOf_1 : decode cX10_offOf 1 = .ok (.istore_n 3, 1) := by decide +kernel
theorem dX10_offOf_2 : decode cX10_offOf 2 = .ok (.iconst 0, 1) := by decide +kernel
theorem dX10_offOf_3 : decode cX10_offOf 3 = .ok (.istore 4, 2) := by decide +kernel
theorem dX10_offOf_5 : decode cX10_offOf 5 = .ok (.iload 4, 2) := by decide +kernel
theorem dX10_offOf_7 : decode cX10_offOf 7 = .ok (.iconst 3, 1) := by decide +kernel
theorem dX10_offOf_8 : decode cX10_offOf 8 = .ok (.if_icmp .ge 85, 3) := by decide +kernel
theorem dX10_offOf_11 : decode cX10_offOf 11 = .ok (.aload_n 0, 1) := by decide +kernel
theorem dX10_offOf_12 : decode cX10_offOf 12 = .ok (.iload_n 1, 1) := by decide +kernel
theorem dX10_offOf_13 : decode cX10_offOf 13 = .ok (.iconst 1, 1) := by decide +kernel
theorem dX10_offOf_14 : decode cX10_offOf 14 = .ok (.iload 4, 2) := by decide +kernel
theorem dX10_offOf_16 : decode cX10_offOf 16 = .ok (.iadd, 1) := by decide +kernel
theorem dX10_offOf_17 : decode cX10_offOf 17 = .ok (.invokevirtual 172, 3) := by decide +kernel
theorem dX10_offOf_20 : decode cX10_offOf 20 = .ok (.aload_n 0, 1) := by decide +kernel
theorem dX10_offOf_21 : decode cX10_offOf 21 = .ok (.getfield 16, 3) := by decide +kernel
theorem dX10_offOf_24 : decode cX10_offOf 24 = .ok (.bipush 6, 2) := by decide +kernel
theorem dX10_offOf_26 : decode cX10_offOf 26 = .ok (.iload_n 2, 1) := by decide +kernel
theorem dX10_offOf_27 : decode cX10_offOf 27 = .ok (.imul, 1) := by decide +kernel
theorem dX10_offOf_28 : decode cX10_offOf 28 = .ok (.iconst 2, 1) := by decide +kernel
theorem dX10_offOf_29 : decode cX10_offOf 29 = .ok (.iadd, 1) := by decide +kernel
theorem dX10_offOf_30 : decode cX10_offOf 30 = .ok (.iload 4, 2) := by decide +kernel
theorem dX10_offOf_32 : decode cX10_offOf 32 = .ok (.iadd, 1) := by decide +kernel
theorem dX10_offOf_33 : decode cX10_offOf 33 = .ok (.iaload, 1) := by decide +kernel
theorem dX10_offOf_34 : decode cX10_offOf 34 = .ok (.isub, 1) := by decide +kernel
theorem dX10_offOf_35 : decode cX10_offOf 35 = .ok (.istore 5, 2) := by decide +kernel
theorem dX10_offOf_37 : decode cX10_offOf 37 = .ok (.bipush 10, 2) := by decide +kernel
theorem dX10_offOf_39 : decode cX10_offOf 39 = .ok (.iload 5, 2) := by decide +kernel
theorem dX10_offOf_41 : decode cX10_offOf 41 = .ok (.ifCond .ge 9, 3) := by decide +kernel
theorem dX10_offOf_44 : decode cX10_offOf 44 = .ok (.iload 5, 2) := by decide +kernel
theorem dX10_offOf_46 : decode cX10_offOf 46 = .ok (.ineg, 1) := by decide +kernel
theorem dX10_offOf_47 : decode cX10_offOf 47 = .ok (.goto 5, 3) := by decide +kernel
theorem dX10_offOf_50 : decode cX10_offOf 50 = .ok (.iload 5, 2) := by decide +kernel
theorem dX10_offOf_52 : decode cX10_offOf 52 = .ok (.imul, 1) := by decide +kernel
theorem dX10_offOf_53 : decode cX10_offOf 53 = .ok (.aload_n 0, 1) := by decide +kernel
theorem dX10_offOf_54 : decode cX10_offOf 54 = .ok (.iload_n 1, 1) := by decide +kernel
theorem dX10_offOf_55 : decode cX10_offOf 55 = .ok (.iconst 4, 1) := by decide +kernel
theorem dX10_offOf_56 : decode cX10_offOf 56 = .ok (.invokevirtual 172, 3) := by decide +kernel
theorem dX10_offOf_59 : decode cX10_offOf 59 = .ok (.aload_n 0, 1) := by decide +kernel
theorem dX10_offOf_60 : decode cX10_offOf 60 = .ok (.getfield 16, 3) := by decide +kernel
theorem dX10_offOf_63 : decode cX10_offOf 63 = .ok (.bipush 6, 2) := by decide +kernel
theorem dX10_offOf_65 : decode cX10_offOf 65 = .ok (.iload_n 2, 1) := by decide +kernel
theorem dX10_offOf_66 : decode cX10_offOf 66 = .ok (.imul, 1) := by decide +kernel
theorem dX10_offOf_67 : decode cX10_offOf 67 = .ok (.iconst 5, 1) := by decide +kernel
theorem dX10_offOf_68 : decode cX10_offOf 68 = .ok (.iadd, 1) := by decide +kernel
theorem dX10_offOf_69 : decode cX10_offOf 69 = .ok (.iaload, 1) := by decide +kernel
theorem dX10_offOf_70 : decode cX10_offOf 70 = .ok (.iadd, 1) := by decide +kernel
theorem dX10_offOf_71 : decode cX10_offOf 71 = .ok (.idiv, 1) := by decide +kernel
theorem dX10_offOf_72 : decode cX10_offOf 72 = .ok (.istore 6, 2) := by decide +kernel
theorem dX10_offOf_74 : decode cX10_offOf 74 = .ok (.iload 6, 2) := by decide +kernel
theorem dX10_offOf_76 : decode cX10_offOf 76 = .ok (.iload_n 3, 1) := by decide +kernel
theorem dX10_offOf_77 : decode cX10_offOf 77 = .ok (.if_icmp .le 8, 3) := by decide +kernel
theorem dX10_offOf_80 : decode cX10_offOf 80 = .ok (.iload 6, 2) := by decide +kernel
theorem dX10_offOf_82 : decode cX10_offOf 82 = .ok (.goto 4, 3) := by decide +kernel
theorem dX10_offOf_85 : decode cX10_offOf 85 = .ok (.iload_n 3, 1) := by decide +kernel
theorem dX10_offOf_86 : decode cX10_offOf 86 = .ok (.istore_n 3, 1) := by decide +kernel
theorem dX10_offOf_87 : decode cX10_offOf 87 = .ok (.iinc 4 1, 3) := by decide +kernel
theorem dX10_offOf_90 : decode cX10_offOf 90 = .ok (.goto (-85), 3) := by decide +kernel
theorem dX10_offOf_93 : decode cX10_offOf 93 = .ok (.iload_n 3, 1) := by decide +kernel
theorem dX10_offOf_94 : decode cX10_offOf 94 = .ok (.ireturn, 1) := by decide +kernel
theorem dX10_off_0 : decode cX10_off 0 = .ok (.aload_n 0, 1) := by decide +kernel
theorem dX10_off_1 : decode cX10_off 1 = .ok (.iload_n 1, 1) := by decide +kernel
theorem dX10_off_2 : decode cX10_off 2 = .ok (.invokevirtual 169, 3) := by decide +kernel
theorem dX10_off_5 : decode cX10_off 5 = .ok (.ifCond .eq 20, 3) := by decide +kernel
theorem dX10_off_8 : decode cX10_off 8 = .ok (.aload_n 0, 1) := by decide +kernel
theorem dX10_off_9 : decode cX10_off 9 = .ok (.iload_n 2, 1) := by decide +kernel
theorem dX10_off_10 : decode cX10_off 10 = .ok (.invokevirtual 159, 3) := by decide +kernel
theorem dX10_off_13 : decode cX10_off 13 = .ok (.ifCond .eq 12, 3) := by decide +kernel
theorem dX10_off_16 : decode cX10_off 16 = .ok (.aload_n 0, 1) := by decide +kernel
theorem dX10_off_17 : decode cX10_off 17 = .ok (.iload_n 1, 1) := by decide +kernel
theorem dX10_off_18 : decode cX10_off 18 = .ok (.iload_n 2, 1) := by decide +kernel
theorem dX10_off_19 : decode cX10_off 19 = .ok (.invokevirtual 176, 3) := by decide +kernel
theorem dX10_off_22 : decode cX10_off 22 = .ok (.goto 5, 3) := by decide +kernel
theorem dX10_off_25 : decode cX10_off 25 = .ok (.bipush (-2), 2) := by decide +kernel
theorem dX10_off_27 : decode cX10_off 27 = .ok (.ireturn, 1) := by decide +kernel
theorem dX10_canBe_0 : decode cX10_canBe 0 = .ok (.iconst 0, 1) := by decide +kernel
theorem dX10_canBe_1 : decode cX10_canBe 1 = .ok (.istore_n 2, 1) := by decide +kernel
theorem dX10_canBe_2 : decode cX10_canBe 2 = .ok (.iconst 0, 1) := by decide +kernel
theorem dX10_canBe_3 : decode cX10_canBe 3 = .ok (.istore_n 3, 1) := by decide +kernel
theorem dX10_canBe_4 : decode cX10_canBe 4 = .ok (.iload_n 3, 1) := by decide +kernel
theorem dX10_canBe_5 : decode cX10_canBe 5 = .ok (.bipush 9, 2) := by decide +kernel
theorem dX10_canBe_7 : decode cX10_canBe 7 = .ok (.if_icmp .ge 40, 3) := by decide +kernel
theorem dX10_canBe_10 : decode cX10_canBe 10 = .ok (.iload_n 2, 1) := by decide +kernel
theorem dX10_canBe_11 : decode cX10_canBe 11 = .ok (.aload_n 0, 1) := by decide +kernel
theorem dX10_canBe_12 : decode cX10_canBe 12 = .ok (.iload_n 3, 1) := by decide +kernel
theorem dX10_canBe_13 : decode cX10_canBe 13 = .ok (.invokevirtual 159, 3) := by decide +kernel
theorem dX10_canBe_16 : decode cX10_canBe 16 = .ok (.ifCond .eq 22, 3) := by decide +kernel
theorem dX10_canBe_19 : decode cX10_canBe 19 = .ok (.aload_n 0, 1) := by decide +kernel
theorem dX10_canBe_20 : decode cX10_canBe 20 = .ok (.iload_n 1, 1) := by decide +kernel
theorem dX10_canBe_21 : decode cX10_canBe 21 = .ok (.iload_n 3, 1) := by decide +kernel
theorem dX10_canBe_22 : decode cX10_canBe 22 = .ok (.invokevirtual 176, 3) := by decide +kernel
theorem dX10_canBe_25 : decode cX10_canBe 25 = .ok (.aload_n 0, 1) := by decide +kernel
theorem dX10_canBe_26 : decode cX10_canBe 26 = .ok (.getfield 19, 3) := by decide +kernel
theorem dX10_canBe_29 : decode cX10_canBe 29 = .ok (.if_icmp .gt 9, 3) := by decide +kernel
theorem dX10_canBe_32 : decode cX10_canBe 32 = .ok (.iconst 1, 1) := by decide +kernel
theorem dX10_canBe_33 : decode cX10_canBe 33 = .ok (.iload_n 3, 1) := by decide +kernel
theorem dX10_canBe_34 : decode cX10_canBe 34 = .ok (.ishl, 1) := by decide +kernel
theorem dX10_canBe_35 : decode cX10_canBe 35 = .ok (.goto 4, 3) := by decide +kernel
theorem dX10_canBe_38 : decode cX10_canBe 38 = .ok (.iconst 0, 1) := by decide +kernel
theorem dX10_canBe_39 : decode cX10_canBe 39 = .ok (.ior, 1) := by decide +kernel
theorem dX10_canBe_40 : decode cX10_canBe 40 = .ok (.istore_n 2, 1) := by decide +kernel
theorem dX10_canBe_41 : decode cX10_canBe 41 = .ok (.iinc 3 1, 3) := by decide +kernel
theorem dX10_canBe_44 : decode cX10_canBe 44 = .ok (.goto (-40), 3) := by decide +kernel
theorem dX10_canBe_47 : decode cX10_canBe 47 = .ok (.iload_n 2, 1) := by decide +kernel
theorem dX10_canBe_48 : decode cX10_canBe 48 = .ok (.ireturn, 1) := by decide +kernel
theorem dX10_can_0 : decode cX10_can 0 = .ok (.aload_n 0, 1) := by decide +kernel
theorem dX10_can_1 : decode cX10_can 1 = .ok (.iload_n 1, 1) := by decide +kernel
theorem dX10_can_2 : decode cX10_can 2 = .ok (.invokevirtual 169, 3) := by decide +kernel
theorem dX10_can_5 : decode cX10_can 5 = .ok (.ifCond .eq 11, 3) := by decide +kernel
theorem dX10_can_8 : decode cX10_can 8 = .ok (.aload_n 0, 1) := by decide +kernel
theorem dX10_can_9 : decode cX10_can 9 = .ok (.iload_n 1, 1) := by decide +kernel
theorem dX10_can_10 : decode cX10_can 10 = .ok (.invokevirtual 179, 3) := by decide +kernel
theorem dX10_can_13 : decode cX10_can 13 = .ok (.goto 5, 3) := by decide +kernel
theorem dX10_can_16 : decode cX10_can 16 = .ok (.bipush (-2), 2) := by decide +kernel
theorem dX10_can_18 : decode cX10_can 18 = .ok (.ireturn, 1) := by decide +kernel
theorem dX10_bits_0 : decode cX10_bits 0 = .ok (.iconst 0, 1) := by decide +kernel
theorem dX10_bits_1 : decode cX10_bits 1 = .ok (.istore_n 1, 1) := by decide +kernel
theorem dX10_bits_2 : decode cX10_bits 2 = .ok (.iconst 0, 1) := by decide +kernel
theorem dX10_bits_3 : decode cX10_bits 3 = .ok (.istore_n 2, 1) := by decide +kernel
theorem dX10_bits_4 : decode cX10_bits 4 = .ok (.iload_n 2, 1) := by decide +kernel
theorem dX10_bits_5 : decode cX10_bits 5 = .ok (.bipush 12, 2) := by decide +kernel
theorem dX10_bits_7 : decode cX10_bits 7 = .ok (.if_icmp .ge 17, 3) := by decide +kernel
theorem dX10_bits_10 : decode cX10_bits 10 = .ok (.iload_n 1, 1) := by decide +kernel
theorem dX10_bits_11 : decode cX10_bits 11 = .ok (.iload_n 0, 1) := by decide +kernel
theorem dX10_bits_12 : decode cX10_bits 12 = .ok (.iload_n 2, 1) := by decide +kernel
theorem dX10_bits_13 : decode cX10_bits 13 = .ok (.ishr, 1) := by decide +kernel
theorem dX10_bits_14 : decode cX10_bits 14 = .ok (.iconst 1, 1) := by decide +kernel
theorem dX10_bits_15 : decode cX10_bits 15 = .ok (.iand, 1) := by decide +kernel
theorem dX10_bits_16 : decode cX10_bits 16 = .ok (.iadd, 1) := by decide +kernel
theorem dX10_bits_17 : decode cX10_bits 17 = .ok (.istore_n 1, 1) := by decide +kernel
theorem dX10_bits_18 : decode cX10_bits 18 = .ok (.iinc 2 1, 3) := by decide +kernel
theorem dX10_bits_21 : decode cX10_bits 21 = .ok (.goto (-17), 3) := by decide +kernel
theorem dX10_bits_24 : decode cX10_bits 24 = .ok (.iload_n 1, 1) := by decide +kernel
theorem dX10_bits_25 : decode cX10_bits 25 = .ok (.ireturn, 1) := by decide +kernel
theorem dX10_named_0 : decode cX10_named 0 = .ok (.aload_n 0, 1) := by decide +kernel
theorem dX10_named_1 : decode cX10_named 1 = .ok (.iload_n 1, 1) := by decide +kernel
theorem dX10_named_2 : decode cX10_named 2 = .ok (.invokevirtual 169, 3) := by decide +kernel
theorem dX10_named_5 : decode cX10_named 5 = .ok (.ifCond .ne 6, 3) := by decide +kernel
theorem dX10_named_8 : decode cX10_named 8 = .ok (.bipush (-2), 2) := by decide +kernel
theorem dX10_named_10 : decode cX10_named 10 = .ok (.ireturn, 1) := by decide +kernel
theorem dX10_named_11 : decode cX10_named 11 = .ok (.aload_n 0, 1) := by decide +kernel
theorem dX10_named_12 : decode cX10_named 12 = .ok (.iload_n 1, 1) := by decide +kernel
theorem dX10_named_13 : decode cX10_named 13 = .ok (.invokevirtual 179, 3) := by decide +kernel
theorem dX10_named_16 : decode cX10_named 16 = .ok (.istore_n 2, 1) := by decide +kernel
theorem dX10_named_17 : decode cX10_named 17 = .ok (.iload_n 2, 1) := by decide +kernel
theorem dX10_named_18 : decode cX10_named 18 = .ok (.invokestatic 183, 3) := by decide +kernel
theorem dX10_named_21 : decode cX10_named 21 = .ok (.iconst 1, 1) := by decide +kernel
theorem dX10_named_22 : decode cX10_named 22 = .ok (.if_icmp .eq 5, 3) := by decide +kernel
theorem dX10_named_25 : decode cX10_named 25 = .ok (.iconst (-1), 1) := by decide +kernel
theorem dX10_named_26 : decode cX10_named 26 = .ok (.ireturn, 1) := by decide +kernel
theorem dX10_named_27 : decode cX10_named 27 = .ok (.iconst (-1), 1) := by decide +kernel
theorem dX10_named_28 : decode cX10_named 28 = .ok (.istore_n 3, 1) := by decide +kernel
theorem dX10_named_29 : decode cX10_named 29 = .ok (.iconst 0, 1) := by decide +kernel
theorem dX10_named_30 : decode cX10_named 30 = .ok (.istore 4, 2) := by decide +kernel
theorem dX10_named_32 : decode cX10_named 32 = .ok (.iload 4, 2) := by decide +kernel
theorem dX10_named_34 : decode cX10_named 34 = .ok (.bipush 9, 2) := by decide +kernel
theorem dX10_named_36 : decode cX10_named 36 = .ok (.if_icmp .ge 50, 3) := by decide +kernel
theorem dX10_named_39 : decode cX10_named 39 = .ok (.iload_n 2, 1) := by decide +kernel
theorem dX10_named_40 : decode cX10_named 40 = .ok (.iload 4, 2) := by decide +kernel
theorem dX10_named_42 : decode cX10_named 42 = .ok (.ishr, 1) := by decide +kernel
theorem dX10_named_43 : decode cX10_named 43 = .ok (.iconst 1, 1) := by decide +kernel
theorem dX10_named_44 : decode cX10_named 44 = .ok (.iand, 1) := by decide +kernel
theorem dX10_named_45 : decode cX10_named 45 = .ok (.iconst 1, 1) := by decide +kernel
theorem dX10_named_46 : decode cX10_named 46 = .ok (.if_icmp .ne 9, 3) := by decide +kernel
theorem dX10_named_49 : decode cX10_named 49 = .ok (.iload 4, 2) := by decide +kernel
theorem dX10_named_51 : decode cX10_named 51 = .ok (.istore_n 3, 1) := by decide +kernel
theorem dX10_named_52 : decode cX10_named 52 = .ok (.goto 28, 3) := by decide +kernel
theorem dX10_named_55 : decode cX10_named 55 = .ok (.aload_n 0, 1) := by decide +kernel
theorem dX10_named_56 : decode cX10_named 56 = .ok (.iload 4, 2) := by decide +kernel
theorem dX10_named_58 : decode cX10_named 58 = .ok (.invokevirtual 159, 3) := by decide +kernel
theorem dX10_named_61 : decode cX10_named 61 = .ok (.ifCond .eq 19, 3) := by decide +kernel
theorem dX10_named_64 : decode cX10_named 64 = .ok (.aload_n 0, 1) := by decide +kernel
theorem dX10_named_65 : decode cX10_named 65 = .ok (.iload_n 1, 1) := by decide +kernel
theorem dX10_named_66 : decode cX10_named 66 = .ok (.iload 4, 2) := by decide +kernel
theorem dX10_named_68 : decode cX10_named 68 = .ok (.invokevirtual 176, 3) := by decide +kernel
theorem dX10_named_71 : decode cX10_named 71 = .ok (.aload_n 0, 1) := by decide +kernel
theorem dX10_named_72 : decode cX10_named 72 = .ok (.getfield 23, 3) := by decide +kernel
theorem dX10_named_75 : decode cX10_named 75 = .ok (.if_icmp .ge 5, 3) := by decide +kernel
theorem dX10_named_78 : decode cX10_named 78 = .ok (.iconst (-1), 1) := by decide +kernel
theorem dX10_named_79 : decode cX10_named 79 = .ok (.ireturn, 1) := by decide +kernel
theorem dX10_named_80 : decode cX10_named 80 = .ok (.iinc 4 1, 3) := by decide +kernel
theorem dX10_named_83 : decode cX10_named 83 = .ok (.goto (-51), 3) := by decide +kernel
theorem dX10_named_86 : decode cX10_named 86 = .ok (.iload_n 3, 1) := by decide +kernel
theorem dX10_named_87 : decode cX10_named 87 = .ok (.ireturn, 1) := by decide +kernel
theorem dX10_isFrom_0 : decode cX10_isFrom 0 = .ok (.aload_n 0, 1) := by decide +kernel
theorem dX10_isFrom_1 : decode cX10_isFrom 1 = .ok (.iload_n 1, 1) := by decide +kernel
theorem dX10_isFrom_2 : decode cX10_isFrom 2 = .ok (.bipush 9, 2) := by decide +kernel
theorem dX10_isFrom_4 : decode cX10_isFrom 4 = .ok (.invokevirtual 172, 3) := by decide +kernel
theorem dX10_isFrom_7 : decode cX10_isFrom 7 = .ok (.istore_n 3, 1) := by decide +kernel
theorem dX10_isFrom_8 : decode cX10_isFrom 8 = .ok (.iload_n 3, 1) := by decide +kernel
theorem dX10_isFrom_9 : decode cX10_isFrom 9 = .ok (.iconst (-1), 1) := by decide +kernel
theorem dX10_isFrom_10 : decode cX10_isFrom 10 = .ok (.if_icmp .eq 19, 3) := by decide +kernel
theorem dX10_isFrom_13 : decode cX10_isFrom 13 = .ok (.iload_n 3, 1) := by decide +kernel
theorem dX10_isFrom_14 : decode cX10_isFrom 14 = .ok (.iload_n 2, 1) := by decide +kernel
theorem dX10_isFrom_15 : decode cX10_isFrom 15 = .ok (.if_icmp .eq 14, 3) := by decide +kernel
theorem dX10_isFrom_18 : decode cX10_isFrom 18 = .ok (.aload_n 0, 1) := by decide +kernel
theorem dX10_isFrom_19 : decode cX10_isFrom 19 = .ok (.iload_n 3, 1) := by decide +kernel
theorem dX10_isFrom_20 : decode cX10_isFrom 20 = .ok (.bipush 9, 2) := by decide +kernel
theorem dX10_isFrom_22 : decode cX10_isFrom 22 = .ok (.invokevirtual 172, 3) := by decide +kernel
theorem dX10_isFrom_25 : decode cX10_isFrom 25 = .ok (.istore_n 3, 1) := by decide +kernel
theorem dX10_isFrom_26 : decode cX10_isFrom 26 = .ok (.goto (-18), 3) := by decide +kernel
theorem dX10_isFrom_29 : decode cX10_isFrom 29 = .ok (.iload_n 3, 1) := by decide +kernel
theorem dX10_isFrom_30 : decode cX10_isFrom 30 = .ok (.iconst (-1), 1) := by decide +kernel
theorem dX10_isFrom_31 : decode cX10_isFrom 31 = .ok (.if_icmp .eq 7, 3) := by decide +kernel
theorem dX10_isFrom_34 : decode cX10_isFrom 34 = .ok (.iconst 1, 1) := by decide +kernel
theorem dX10_isFrom_35 : decode cX10_isFrom 35 = .ok (.goto 4, 3) := by decide +kernel
theorem dX10_isFrom_38 : decode cX10_isFrom 38 = .ok (.iconst 0, 1) := by decide +kernel
theorem dX10_isFrom_39 : decode cX10_isFrom 39 = .ok (.ireturn, 1) := by decide +kernel
theorem dX10_strike_0 : decode cX10_strike 0 = .ok (.aload_n 0, 1) := by decide +kernel
theorem dX10_strike_1 : decode cX10_strike 1 = .ok (.iload_n 1, 1) := by decide +kernel
theorem dX10_strike_2 : decode cX10_strike 2 = .ok (.invokevirtual 169, 3) := by decide +kernel
theorem dX10_strike_5 : decode cX10_strike 5 = .ok (.ifCond .eq 16, 3) := by decide +kernel
theorem dX10_strike_8 : decode cX10_strike 8 = .ok (.aload_n 0, 1) := by decide +kernel
theorem dX10_strike_9 : decode cX10_strike 9 = .ok (.iload_n 2, 1) := by decide +kernel
theorem dX10_strike_10 : decode cX10_strike 10 = .ok (.invokevirtual 169, 3) := by decide +kernel
theorem dX10_strike_13 : decode cX10_strike 13 = .ok (.ifCond .eq 8, 3) := by decide +kernel
theorem dX10_strike_16 : decode cX10_strike 16 = .ok (.iload_n 1, 1) := by decide +kernel
theorem dX10_strike_17 : decode cX10_strike 17 = .ok (.iload_n 2, 1) := by decide +kernel
theorem dX10_strike_18 : decode cX10_strike 18 = .ok (.if_icmp .ne 6, 3) := by decide +kernel
theorem dX10_strike_21 : decode cX10_strike 21 = .ok (.bipush (-2), 2) := by decide +kernel
theorem dX10_strike_23 : decode cX10_strike 23 = .ok (.ireturn, 1) := by decide +kernel
theorem dX10_strike_24 : decode cX10_strike 24 = .ok (.aload_n 0, 1) := by decide +kernel
theorem dX10_strike_25 : decode cX10_strike 25 = .ok (.iload_n 1, 1) := by decide +kernel
theorem dX10_strike_26 : decode cX10_strike 26 = .ok (.bipush 9, 2) := by decide +kernel
theorem dX10_strike_28 : decode cX10_strike 28 = .ok (.invokevirtual 172, 3) := by decide +kernel
theorem dX10_strike_31 : decode cX10_strike 31 = .ok (.iconst (-1), 1) := by decide +kernel
theorem dX10_strike_32 : decode cX10_strike 32 = .ok (.if_icmp .ne 12, 3) := by decide +kernel
theorem dX10_strike_35 : decode cX10_strike 35 = .ok (.aload_n 0, 1) := by decide +kernel
theorem dX10_strike_36 : decode cX10_strike 36 = .ok (.iload_n 2, 1) := by decide +kernel
theorem dX10_strike_37 : decode cX10_strike 37 = .ok (.iload_n 1, 1) := by decide +kernel
theorem dX10_strike_38 : decode cX10_strike 38 = .ok (.invokevirtual 186, 3) := by decide +kernel
theorem dX10_strike_41 : decode cX10_strike 41 = .ok (.ifCond .eq 6, 3) := by decide +kernel
theorem dX10_strike_44 : decode cX10_strike 44 = .ok (.bipush (-4), 2) := by decide +kernel
theorem dX10_strike_46 : decode cX10_strike 46 = .ok (.ireturn, 1) := by decide +kernel
theorem dX10_strike_47 : decode cX10_strike 47 = .ok (.aload_n 0, 1) := by decide +kernel
theorem dX10_strike_48 : decode cX10_strike 48 = .ok (.getfield 32, 3) := by decide +kernel
theorem dX10_strike_51 : decode cX10_strike 51 = .ok (.bipush 11, 2) := by decide +kernel
theorem dX10_strike_53 : decode cX10_strike 53 = .ok (.iload_n 1, 1) := by decide +kernel
theorem dX10_strike_54 : decode cX10_strike 54 = .ok (.imul, 1) := by decide +kernel
theorem dX10_strike_55 : decode cX10_strike 55 = .ok (.bipush 9, 2) := by decide +kernel
theorem dX10_strike_57 : decode cX10_strike 57 = .ok (.iadd, 1) := by decide +kernel
theorem dX10_strike_58 : decode cX10_strike 58 = .ok (.iload_n 2, 1) := by decide +kernel
theorem dX10_strike_59 : decode cX10_strike 59 = .ok (.iastore, 1) := by decide +kernel
theorem dX10_strike_60 : decode cX10_strike 60 = .ok (.iconst 1, 1) := by decide +kernel
theorem dX10_strike_61 : decode cX10_strike 61 = .ok (.ireturn, 1) := by decide +kernel
theorem dX10_undo_0 : decode cX10_undo 0 = .ok (.aload_n 0, 1) := by decide +kernel
theorem dX10_undo_1 : decode cX10_undo 1 = .ok (.iload_n 1, 1) := by decide +kernel
theorem dX10_undo_2 : decode cX10_undo 2 = .ok (.invokevirtual 169, 3) := by decide +kernel
theorem dX10_undo_5 : decode cX10_undo 5 = .ok (.ifCond .ne 6, 3) := by decide +kernel
theorem dX10_undo_8 : decode cX10_undo 8 = .ok (.bipush (-2), 2) := by decide +kernel
theorem dX10_undo_10 : decode cX10_undo 10 = .ok (.ireturn, 1) := by decide +kernel
theorem dX10_undo_11 : decode cX10_undo 11 = .ok (.aload_n 0, 1) := by decide +kernel
theorem dX10_undo_12 : decode cX10_undo 12 = .ok (.iload_n 1, 1) := by decide +kernel
theorem dX10_undo_13 : decode cX10_undo 13 = .ok (.bipush 9, 2) := by decide +kernel
theorem dX10_undo_15 : decode cX10_undo 15 = .ok (.invokevirtual 172, 3) := by decide +kernel
theorem dX10_undo_18 : decode cX10_undo 18 = .ok (.istore_n 2, 1) := by decide +kernel
theorem dX10_undo_19 : decode cX10_undo 19 = .ok (.aload_n 0, 1) := by decide +kernel
theorem dX10_undo_20 : decode cX10_undo 20 = .ok (.getfield 32, 3) := by decide +kernel
theorem dX10_undo_23 : decode cX10_undo 23 = .ok (.bipush 11, 2) := by decide +kernel
theorem dX10_undo_25 : decode cX10_undo 25 = .ok (.iload_n 1, 1) := by decide +kernel
theorem dX10_undo_26 : decode cX10_undo 26 = .ok (.imul, 1) := by decide +kernel
theorem dX10_undo_27 : decode cX10_undo 27 = .ok (.bipush 9, 2) := by decide +kernel
theorem dX10_undo_29 : decode cX10_undo 29 = .ok (.iadd, 1) := by decide +kernel
theorem dX10_undo_30 : decode cX10_undo 30 = .ok (.iconst (-1), 1) := by decide +kernel
theorem dX10_undo_31 : decode cX10_undo 31 = .ok (.iastore, 1) := by decide +kernel
theorem dX10_undo_32 : decode cX10_undo 32 = .ok (.iload_n 2, 1) := by decide +kernel
theorem dX10_undo_33 : decode cX10_undo 33 = .ok (.ireturn, 1) := by decide +kernel
theorem dX10_ago_0 : decode cX10_ago 0 = .ok (.iload_n 0, 1) := by decide +kernel
theorem dX10_ago_1 : decode cX10_ago 1 = .ok (.iload_n 0, 1) := by decide +kernel
theorem dX10_ago_2 : decode cX10_ago 2 = .ok (.imul, 1) := by decide +kernel
theorem dX10_ago_3 : decode cX10_ago 3 = .ok (.iload_n 1, 1) := by decide +kernel
theorem dX10_ago_4 : decode cX10_ago 4 = .ok (.idiv, 1) := by decide +kernel
theorem dX10_ago_5 : decode cX10_ago 5 = .ok (.istore_n 2, 1) := by decide +kernel
theorem dX10_ago_6 : decode cX10_ago 6 = .ok (.iload_n 2, 1) := by decide +kernel
theorem dX10_ago_7 : decode cX10_ago 7 = .ok (.sipush 9999, 3) := by decide +kernel
theorem dX10_ago_10 : decode cX10_ago 10 = .ok (.if_icmp .le 7, 3) := by decide +kernel
theorem dX10_ago_13 : decode cX10_ago 13 = .ok (.iconst 0, 1) := by decide +kernel
theorem dX10_ago_14 : decode cX10_ago 14 = .ok (.goto 8, 3) := by decide +kernel
theorem dX10_ago_17 : decode cX10_ago 17 = .ok (.sipush 9999, 3) := by decide +kernel
theorem dX10_ago_20 : decode cX10_ago 20 = .ok (.iload_n 2, 1) := by decide +kernel
theorem dX10_ago_21 : decode cX10_ago 21 = .ok (.isub, 1) := by decide +kernel
theorem dX10_ago_22 : decode cX10_ago 22 = .ok (.ireturn, 1) := by decide +kernel
theorem dX10_warmthOf_0 : decode cX10_warmthOf 0 = .ok (.aload_n 0, 1) := by decide +kernel
theorem dX10_warmthOf_1 : decode cX10_warmthOf 1 = .ok (.getfield 7, 3) := by decide +kernel
theorem dX10_warmthOf_4 : decode cX10_warmthOf 4 = .ok (.iconst 3, 1) := by decide +kernel
theorem dX10_warmthOf_5 : decode cX10_warmthOf 5 = .ok (.aload_n 0, 1) := by decide +kernel
theorem dX10_warmthOf_6 : decode cX10_warmthOf 6 = .ok (.iload_n 1, 1) := by decide +kernel
theorem dX10_warmthOf_7 : decode cX10_warmthOf 7 = .ok (.iconst 0, 1) := by decide +kernel
theorem dX10_warmthOf_8 : decode cX10_warmthOf 8 = .ok (.invokevirtual 172, 3) := by decide +kernel
theorem dX10_warmthOf_11 : decode cX10_warmthOf 11 = .ok (.imul, 1) := by decide +kernel
theorem dX10_warmthOf_12 : decode cX10_warmthOf 12 = .ok (.iconst 2, 1) := by decide +kernel
theorem dX10_warmthOf_13 : decode cX10_warmthOf 13 = .ok (.iadd, 1) := by decide +kernel
theorem dX10_warmthOf_14 : decode cX10_warmthOf 14 = .ok (.iaload, 1) := by decide +kernel
theorem dX10_warmthOf_15 : decode cX10_warmthOf 15 = .ok (.ireturn, 1) := by decide +kernel
theorem dX10_isReused_0 : decode cX10_isReused 0 = .ok (.aload_n 0, 1) := by decide +kernel
theorem dX10_isReused_1 : decode cX10_isReused 1 = .ok (.iload_n 1, 1) := by decide +kernel
theorem dX10_isReused_2 : decode cX10_isReused 2 = .ok (.bipush 8, 2) := by decide +kernel
theorem dX10_isReused_4 : decode cX10_isReused 4 = .ok (.invokevirtual 172, 3) := by decide +kernel
theorem dX10_isReused_7 : decode cX10_isReused 7 = .ok (.ifCond .le 7, 3) := by decide +kernel
theorem dX10_isReused_10 : decode cX10_isReused 10 = .ok (.iconst 1, 1) := by decide +kernel
theorem dX10_isReused_11 : decode cX10_isReused 11 = .ok (.goto 4, 3) := by decide +kernel
theorem dX10_isReused_14 : decode cX10_isReused 14 = .ok (.iconst 0, 1) := by decide +kernel
theorem dX10_isReused_15 : decode cX10_isReused 15 = .ok (.ireturn, 1) := by decide +kernel
theorem dX10_begin_0 : decode cX10_begin 0 = .ok (.aload_n 0, 1) := by decide +kernel
theorem dX10_begin_1 : decode cX10_begin 1 = .ok (.iload_n 1, 1) := by decide +kernel
theorem dX10_begin_2 : decode cX10_begin 2 = .ok (.invokevirtual 179, 3) := by decide +kernel
theorem dX10_begin_5 : decode cX10_begin 5 = .ok (.istore_n 2, 1) := by decide +kernel
theorem dX10_begin_6 : decode cX10_begin 6 = .ok (.iload_n 2, 1) := by decide +kernel
theorem dX10_begin_7 : decode cX10_begin 7 = .ok (.ifCond .ne 7, 3) := by decide +kernel
theorem dX10_begin_10 : decode cX10_begin 10 = .ok (.iconst 0, 1) := by decide +kernel
theorem dX10_begin_11 : decode cX10_begin 11 = .ok (.goto 6, 3) := by decide +kernel
theorem dX10_begin_14 : decode cX10_begin 14 = .ok (.sipush 9999, 3) := by decide +kernel
theorem dX10_begin_17 : decode cX10_begin 17 = .ok (.istore_n 3, 1) := by decide +kernel
theorem dX10_begin_18 : decode cX10_begin 18 = .ok (.iconst 0, 1) := by decide +kernel
theorem dX10_begin_19 : decode cX10_begin 19 = .ok (.istore 4, 2) := by decide +kernel
theorem dX10_begin_21 : decode cX10_begin 21 = .ok (.iload 4, 2) := by decide +kernel
theorem dX10_begin_23 : decode cX10_begin 23 = .ok (.bipush 9, 2) := by decide +kernel
theorem dX10_begin_25 : decode cX10_begin 25 = .ok (.if_icmp .ge 52, 3) := by decide +kernel
theorem dX10_begin_28 : decode cX10_begin 28 = .ok (.iload_n 2, 1) := by decide +kernel
theorem dX10_begin_29 : decode cX10_begin 29 = .ok (.iload 4, 2) := by decide +kernel
theorem dX10_begin_31 : decode cX10_begin 31 = .ok (.ishr, 1) := by decide +kernel
theorem dX10_begin_32 : decode cX10_begin 32 = .ok (.iconst 1, 1) := by decide +kernel
theorem dX10_begin_33 : decode cX10_begin 33 = .ok (.iand, 1) := by decide +kernel
theorem dX10_begin_34 : decode cX10_begin 34 = .ok (.iconst 1, 1) := by decide +kernel
theorem dX10_begin_35 : decode cX10_begin 35 = .ok (.if_icmp .ne 34, 3) := by decide +kernel
theorem dX10_begin_38 : decode cX10_begin 38 = .ok (.aload_n 0, 1) := by decide +kernel
theorem dX10_begin_39 : decode cX10_begin 39 = .ok (.getfield 16, 3) := by decide +kernel
theorem dX10_begin_42 : decode cX10_begin 42 = .ok (.bipush 6, 2) := by decide +kernel
theorem dX10_begin_44 : decode cX10_begin 44 = .ok (.iload 4, 2) := by decide +kernel
theorem dX10_begin_46 : decode cX10_begin 46 = .ok (.imul, 1) := by decide +kernel
theorem dX10_begin_47 : decode cX10_begin 47 = .ok (.iconst 1, 1) := by decide +kernel
theorem dX10_begin_48 : decode cX10_begin 48 = .ok (.iadd, 1) := by decide +kernel
theorem dX10_begin_49 : decode cX10_begin 49 = .ok (.iaload, 1) := by decide +kernel
theorem dX10_begin_50 : decode cX10_begin 50 = .ok (.iload_n 3, 1) := by decide +kernel
theorem dX10_begin_51 : decode cX10_begin 51 = .ok (.if_icmp .ge 18, 3) := by decide +kernel
theorem dX10_begin_54 : decode cX10_begin 54 = .ok (.aload_n 0, 1) := by decide +kernel
theorem dX10_begin_55 : decode cX10_begin 55 = .ok (.getfield 16, 3) := by decide +kernel
theorem dX10_begin_58 : decode cX10_begin 58 = .ok (.bipush 6, 2) := by decide +kernel
theorem dX10_begin_60 : decode cX10_begin 60 = .ok (.iload 4, 2) := by decide +kernel
theorem dX10_begin_62 : decode cX10_begin 62 = .ok (.imul, 1) := by decide +kernel
theorem dX10_begin_63 : decode cX10_begin 63 = .ok (.iconst 1, 1) := by decide +kernel
theorem dX10_begin_64 : decode cX10_begin 64 = .ok (.iadd, 1) := by decide +kernel
theorem dX10_begin_65 : decode cX10_begin 65 = .ok (.iaload, 1) := by decide +kernel
theorem dX10_begin_66 : decode cX10_begin 66 = .ok (.goto 4, 3) := by decide +kernel
theorem dX10_begin_69 : decode cX10_begin 69 = .ok (.iload_n 3, 1) := by decide +kernel
theorem dX10_begin_70 : decode cX10_begin 70 = .ok (.istore_n 3, 1) := by decide +kernel
theorem dX10_begin_71 : decode cX10_begin 71 = .ok (.iinc 4 1, 3) := by decide +kernel
theorem dX10_begin_74 : decode cX10_begin 74 = .ok (.goto (-53), 3) := by decide +kernel
theorem dX10_begin_77 : decode cX10_begin 77 = .ok (.aload_n 0, 1) := by decide +kernel
theorem dX10_begin_78 : decode cX10_begin 78 = .ok (.getfield 35, 3) := by decide +kernel
theorem dX10_begin_81 : decode cX10_begin 81 = .ok (.iload_n 1, 1) := by decide +kernel
theorem dX10_begin_82 : decode cX10_begin 82 = .ok (.iload_n 3, 1) := by decide +kernel
theorem dX10_begin_83 : decode cX10_begin 83 = .ok (.iastore, 1) := by decide +kernel
theorem dX10_begin_84 : decode cX10_begin 84 = .ok (.aload_n 0, 1) := by decide +kernel
theorem dX10_begin_85 : decode cX10_begin 85 = .ok (.getfield 38, 3) := by decide +kernel
theorem dX10_begin_88 : decode cX10_begin 88 = .ok (.iload_n 1, 1) := by decide +kernel
theorem dX10_begin_89 : decode cX10_begin 89 = .ok (.sipush 9999, 3) := by decide +kernel
theorem dX10_begin_92 : decode cX10_begin 92 = .ok (.iastore, 1) := by decide +kernel
theorem dX10_begin_93 : decode cX10_begin 93 = .ok (.aload_n 0, 1) := by decide +kernel
theorem dX10_begin_94 : decode cX10_begin 94 = .ok (.getfield 41, 3) := by decide +kernel
theorem dX10_begin_97 : decode cX10_begin 97 = .ok (.iload_n 1, 1) := by decide +kernel
theorem dX10_begin_98 : decode cX10_begin 98 = .ok (.iconst 0, 1) := by decide +kernel
theorem dX10_begin_99 : decode cX10_begin 99 = .ok (.iastore, 1) := by decide +kernel
theorem dX10_begin_100 : decode cX10_begin 100 = .ok (.aload_n 0, 1) := by decide +kernel
theorem dX10_begin_101 : decode cX10_begin 101 = .ok (.getfield 44, 3) := by decide +kernel
theorem dX10_begin_104 : decode cX10_begin 104 = .ok (.iload_n 1, 1) := by decide +kernel
theorem dX10_begin_105 : decode cX10_begin 105 = .ok (.sipush 9999, 3) := by decide +kernel
theorem dX10_begin_108 : decode cX10_begin 108 = .ok (.iastore, 1) := by decide +kernel
theorem dX10_begin_109 : decode cX10_begin 109 = .ok (.aload_n 0, 1) := by decide +kernel
theorem dX10_begin_110 : decode cX10_begin 110 = .ok (.iload_n 1, 1) := by decide +kernel
theorem dX10_begin_111 : decode cX10_begin 111 = .ok (.bipush 7, 2) := by decide +kernel
theorem dX10_begin_113 : decode cX10_begin 113 = .ok (.invokevirtual 172, 3) := by decide +kernel
theorem dX10_begin_116 : decode cX10_begin 116 = .ok (.ifCond .le 63, 3) := by decide +kernel
theorem dX10_begin_119 : decode cX10_begin 119 = .ok (.aload_n 0, 1) := by decide +kernel
theorem dX10_begin_120 : decode cX10_begin 120 = .ok (.iload_n 1, 1) := by decide +kernel
theorem dX10_begin_121 : decode cX10_begin 121 = .ok (.bipush 7, 2) := by decide +kernel
theorem dX10_begin_123 : decode cX10_begin 123 = .ok (.invokevirtual 172, 3) := by decide +kernel
theorem dX10_begin_126 : decode cX10_begin 126 = .ok (.iconst 1, 1) := by decide +kernel
theorem dX10_begin_127 : decode cX10_begin 127 = .ok (.iadd, 1) := by decide +kernel
theorem dX10_begin_128 : decode cX10_begin 128 = .ok (.aload_n 0, 1) := by decide +kernel
theorem dX10_begin_129 : decode cX10_begin 129 = .ok (.iload_n 1, 1) := by decide +kernel
theorem dX10_begin_130 : decode cX10_begin 130 = .ok (.invokevirtual 190, 3) := by decide +kernel
theorem dX10_begin_133 : decode cX10_begin 133 = .ok (.invokestatic 193, 3) := by decide +kernel
theorem dX10_begin_136 : decode cX10_begin 136 = .ok (.istore 4, 2) := by decide +kernel
theorem dX10_begin_138 : decode cX10_begin 138 = .ok (.aload_n 0, 1) := by decide +kernel
theorem dX10_begin_139 : decode cX10_begin 139 = .ok (.getfield 35, 3) := by decide +kernel
theorem dX10_begin_142 : decode cX10_begin 142 = .ok (.iload_n 1, 1) := by decide +kernel
theorem dX10_begin_143 : decode cX10_begin 143 = .ok (.iload 4, 2) := by decide +kernel
theorem dX10_begin_145 : decode cX10_begin 145 = .ok (.iload_n 3, 1) := by decide +kernel
theorem dX10_begin_146 : decode cX10_begin 146 = .ok (.if_icmp .le 8, 3) := by decide +kernel
theorem dX10_begin_149 : decode cX10_begin 149 = .ok (.iload 4, 2) := by decide +kernel
theorem dX10_begin_151 : decode cX10_begin 151 = .ok (.goto 4, 3) := by decide +kernel
theorem dX10_begin_154 : decode cX10_begin 154 = .ok (.iload_n 3, 1) := by decide +kernel
theorem dX10_begin_155 : decode cX10_begin 155 = .ok (.iastore, 1) := by decide +kernel
theorem dX10_begin_156 : decode cX10_begin 156 = .ok (.aload_n 0, 1) := by decide +kernel
theorem dX10_begin_157 : decode cX10_begin 157 = .ok (.getfield 38, 3) := by decide +kernel
theorem dX10_begin_160 : decode cX10_begin 160 = .ok (.iload_n 1, 1) := by decide +kernel
theorem dX10_begin_161 : decode cX10_begin 161 = .ok (.aload_n 0, 1) := by decide +kernel
theorem dX10_begin_162 : decode cX10_begin 162 = .ok (.iload_n 1, 1) := by decide +kernel
theorem dX10_begin_163 : decode cX10_begin 163 = .ok (.bipush 7, 2) := by decide +kernel
theorem dX10_begin_165 : decode cX10_begin 165 = .ok (.invokevirtual 172, 3) := by decide +kernel
theorem dX10_begin_168 : decode cX10_begin 168 = .ok (.iconst 1, 1) := by decide +kernel
theorem dX10_begin_169 : decode cX10_begin 169 = .ok (.isub, 1) := by decide +kernel
theorem dX10_begin_170 : decode cX10_begin 170 = .ok (.aload_n 0, 1) := by decide +kernel
theorem dX10_begin_171 : decode cX10_begin 171 = .ok (.iload_n 1, 1) := by decide +kernel
theorem dX10_begin_172 : decode cX10_begin 172 = .ok (.invokevirtual 190, 3) := by decide +kernel
theorem dX10_begin_175 : decode cX10_begin 175 = .ok (.invokestatic 193, 3) := by decide +kernel
theorem dX10_begin_178 : decode cX10_begin 178 = .ok (.iastore, 1) := by decide +kernel
theorem dX10_begin_179 : decode cX10_begin 179 = .ok (.aload_n 0, 1) := by decide +kernel
theorem dX10_begin_180 : decode cX10_begin 180 = .ok (.iload_n 1, 1) := by decide +kernel
theorem dX10_begin_181 : decode cX10_begin 181 = .ok (.invokevirtual 196, 3) := by decide +kernel
theorem dX10_begin_184 : decode cX10_begin 184 = .ok (.ifCond .eq 49, 3) := by decide +kernel
theorem dX10_begin_187 : decode cX10_begin 187 = .ok (.aload_n 0, 1) := by decide +kernel
theorem dX10_begin_188 : decode cX10_begin 188 = .ok (.getfield 41, 3) := by decide +kernel
theorem dX10_begin_191 : decode cX10_begin 191 = .ok (.iload_n 1, 1) := by decide +kernel
theorem dX10_begin_192 : decode cX10_begin 192 = .ok (.aload_n 0, 1) := by decide +kernel
theorem dX10_begin_193 : decode cX10_begin 193 = .ok (.iload_n 1, 1) := by decide +kernel
theorem dX10_begin_194 : decode cX10_begin 194 = .ok (.bipush 8, 2) := by decide +kernel
theorem dX10_begin_196 : decode cX10_begin 196 = .ok (.invokevirtual 172, 3) := by decide +kernel
theorem dX10_begin_199 : decode cX10_begin 199 = .ok (.iconst 1, 1) := by decide +kernel
theorem dX10_begin_200 : decode cX10_begin 200 = .ok (.iadd, 1) := by decide +kernel
theorem dX10_begin_201 : decode cX10_begin 201 = .ok (.aload_n 0, 1) := by decide +kernel
theorem dX10_begin_202 : decode cX10_begin 202 = .ok (.iload_n 1, 1) := by decide +kernel
theorem dX10_begin_203 : decode cX10_begin 203 = .ok (.invokevirtual 190, 3) := by decide +kernel
theorem dX10_begin_206 : decode cX10_begin 206 = .ok (.invokestatic 193, 3) := by decide +kernel
theorem dX10_begin_209 : decode cX10_begin 209 = .ok (.iastore, 1) := by decide +kernel
theorem dX10_begin_210 : decode cX10_begin 210 = .ok (.aload_n 0, 1) := by decide +kernel
theorem dX10_begin_211 : decode cX10_begin 211 = .ok (.getfield 44, 3) := by decide +kernel
theorem dX10_begin_214 : decode cX10_begin 214 = .ok (.iload_n 1, 1) := by decide +kernel
theorem dX10_begin_215 : decode cX10_begin 215 = .ok (.aload_n 0, 1) := by decide +kernel
theorem dX10_begin_216 : decode cX10_begin 216 = .ok (.iload_n 1, 1) := by decide +kernel
theorem dX10_begin_217 : decode cX10_begin 217 = .ok (.bipush 8, 2) := by decide +kernel
theorem dX10_begin_219 : decode cX10_begin 219 = .ok (.invokevirtual 172, 3) := by decide +kernel
theorem dX10_begin_222 : decode cX10_begin 222 = .ok (.iconst 1, 1) := by decide +kernel
theorem dX10_begin_223 : decode cX10_begin 223 = .ok (.isub, 1) := by decide +kernel
theorem dX10_begin_224 : decode cX10_begin 224 = .ok (.aload_n 0, 1) := by decide +kernel
theorem dX10_begin_225 : decode cX10_begin 225 = .ok (.iload_n 1, 1) := by decide +kernel
theorem dX10_begin_226 : decode cX10_begin 226 = .ok (.invokevirtual 190, 3) := by decide +kernel
theorem dX10_begin_229 : decode cX10_begin 229 = .ok (.invokestatic 193, 3) := by decide +kernel
theorem dX10_begin_232 : decode cX10_begin 232 = .ok (.iastore, 1) := by decide +kernel
theorem dX10_begin_233 : decode cX10_begin 233 = .ok (.aload_n 0, 1) := by decide +kernel
theorem dX10_begin_234 : decode cX10_begin 234 = .ok (.getfield 47, 3) := by decide +kernel
theorem dX10_begin_237 : decode cX10_begin 237 = .ok (.iload_n 1, 1) := by decide +kernel
theorem dX10_begin_238 : decode cX10_begin 238 = .ok (.aload_n 0, 1) := by decide +kernel
theorem dX10_begin_239 : decode cX10_begin 239 = .ok (.getfield 7, 3) := by decide +kernel
theorem dX10_begin_242 : decode cX10_begin 242 = .ok (.iconst 3, 1) := by decide +kernel
theorem dX10_begin_243 : decode cX10_begin 243 = .ok (.aload_n 0, 1) := by decide +kernel
theorem dX10_begin_244 : decode cX10_begin 244 = .ok (.iload_n 1, 1) := by decide +kernel
theorem dX10_begin_245 : decode cX10_begin 245 = .ok (.iconst 0, 1) := by decide +kernel
theorem dX10_begin_246 : decode cX10_begin 246 = .ok (.invokevirtual 172, 3) := by decide +kernel
theorem dX10_begin_249 : decode cX10_begin 249 = .ok (.imul, 1) := by decide +kernel
theorem dX10_begin_250 : decode cX10_begin 250 = .ok (.iaload, 1) := by decide +kernel
theorem dX10_begin_251 : decode cX10_begin 251 = .ok (.iastore, 1) := by decide +kernel
theorem dX10_begin_252 : decode cX10_begin 252 = .ok (.aload_n 0, 1) := by decide +kernel
theorem dX10_begin_253 : decode cX10_begin 253 = .ok (.getfield 50, 3) := by decide +kernel
theorem dX10_begin_256 : decode cX10_begin 256 = .ok (.iload_n 1, 1) := by decide +kernel
theorem dX10_begin_257 : decode cX10_begin 257 = .ok (.aload_n 0, 1) := by decide +kernel
theorem dX10_begin_258 : decode cX10_begin 258 = .ok (.getfield 7, 3) := by decide +kernel
theorem dX10_begin_261 : decode cX10_begin 261 = .ok (.iconst 3, 1) := by decide +kernel
theorem dX10_begin_262 : decode cX10_begin 262 = .ok (.aload_n 0, 1) := by decide +kernel
theorem dX10_begin_263 : decode cX10_begin 263 = .ok (.iload_n 1, 1) := by decide +kernel
theorem dX10_begin_264 : decode cX10_begin 264 = .ok (.iconst 0, 1) := by decide +kernel
theorem dX10_begin_265 : decode cX10_begin 265 = .ok (.invokevirtual 172, 3) := by decide +kernel
theorem dX10_begin_268 : decode cX10_begin 268 = .ok (.imul, 1) := by decide +kernel
theorem dX10_begin_269 : decode cX10_begin 269 = .ok (.iconst 1, 1) := by decide +kernel
theorem dX10_begin_270 : decode cX10_begin 270 = .ok (.iadd, 1) := by decide +kernel
theorem dX10_begin_271 : decode cX10_begin 271 = .ok (.iaload, 1) := by decide +kernel
theorem dX10_begin_272 : decode cX10_begin 272 = .ok (.iastore, 1) := by decide +kernel
theorem dX10_begin_273 : decode cX10_begin 273 = .ok (.return_, 1) := by decide +kernel
theorem dX10_greater_0 : decode cX10_greater 0 = .ok (.iload_n 0, 1) := by decide +kernel
end
section
theorem dX10_greater_1 : decode cX10_greater 1 = .ok (.iload_n 1, 1) := by decide +kernel
theorem dX10_greater_2 : decode cX10_greater 2 = .ok (.if_icmp .le 7, 3) := by decide +kernel
theorem dX10_greater_5 : decode cX10_greater 5 = .ok (.iload_n 0, 1) := by decide +kernel
theorem dX10_greater_6 : decode cX10_greater 6 = .ok (.goto 4, 3) := by decide +kernel
theorem dX10_greater_9 : decode cX10_greater 9 = .ok (.iload_n 1, 1) := by decide +kernel
theorem dX10_greater_10 : decode cX10_greater 10 = .ok (.ireturn, 1) := by decide +kernel
theorem dX10_lesser_0 : decode cX10_lesser 0 = .ok (.iload_n 0, 1) := by decide +kernel
theorem dX10_lesser_1 : decode cX10_lesser 1 = .ok (.iload_n 1, 1) := by decide +kernel
theorem dX10_lesser_2 : decode cX10_lesser 2 = .ok (.if_icmp .ge 7, 3) := by decide +kernel
theorem dX10_lesser_5 : decode cX10_lesser 5 = .ok (.iload_n 0, 1) := by decide +kernel
theorem dX10_lesser_6 : decode cX10_lesser 6 = .ok (.goto 4, 3) := by decide +kernel
theorem dX10_lesser_9 : decode cX10_lesser 9 = .ok (.iload_n 1, 1) := by decide +kernel
theorem dX10_lesser_10 : decode cX10_lesser 10 = .ok (.ireturn, 1) := by decide +kernel
theorem dX10_isBelow_0 : decode cX10_isBelow 0 = .ok (.aload_n 0, 1) := by decide +kernel
theorem dX10_isBelow_1 : decode cX10_isBelow 1 = .ok (.iload_n 1, 1) := by decide +kernel
theorem dX10_isBelow_2 : decode cX10_isBelow 2 = .ok (.iconst 0, 1) := by decide +kernel
theorem dX10_isBelow_3 : decode cX10_isBelow 3 = .ok (.invokevirtual 172, 3) := by decide +kernel
theorem dX10_isBelow_6 : decode cX10_isBelow 6 = .ok (.aload_n 0, 1) := by decide +kernel
theorem dX10_isBelow_7 : decode cX10_isBelow 7 = .ok (.iload_n 2, 1) := by decide +kernel
theorem dX10_isBelow_8 : decode cX10_isBelow 8 = .ok (.iconst 0, 1) := by decide +kernel
theorem dX10_isBelow_9 : decode cX10_isBelow 9 = .ok (.invokevirtual 172, 3) := by decide +kernel
theorem dX10_isBelow_12 : decode cX10_isBelow 12 = .ok (.if_icmp .ne 24, 3) := by decide +kernel
theorem dX10_isBelow_15 : decode cX10_isBelow 15 = .ok (.aload_n 0, 1) := by decide +kernel
theorem dX10_isBelow_16 : decode cX10_isBelow 16 = .ok (.iload_n 1, 1) := by decide +kernel
theorem dX10_isBelow_17 : decode cX10_isBelow 17 = .ok (.bipush 6, 2) := by decide +kernel
theorem dX10_isBelow_19 : decode cX10_isBelow 19 = .ok (.invokevirtual 172, 3) := by decide +kernel
theorem dX10_isBelow_22 : decode cX10_isBelow 22 = .ok (.aload_n 0, 1) := by decide +kernel
theorem dX10_isBelow_23 : decode cX10_isBelow 23 = .ok (.iload_n 2, 1) := by decide +kernel
theorem dX10_isBelow_24 : decode cX10_isBelow 24 = .ok (.bipush 6, 2) := by decide +kernel
theorem dX10_isBelow_26 : decode cX10_isBelow 26 = .ok (.invokevirtual 172, 3) := by decide +kernel
theorem dX10_isBelow_29 : decode cX10_isBelow 29 = .ok (.if_icmp .le 7, 3) := by decide +kernel
theorem dX10_isBelow_32 : decode cX10_isBelow 32 = .ok (.iconst 1, 1) := by decide +kernel
theorem dX10_isBelow_33 : decode cX10_isBelow 33 = .ok (.goto 4, 3) := by decide +kernel
theorem dX10_isBelow_36 : decode cX10_isBelow 36 = .ok (.iconst 0, 1) := by decide +kernel
theorem dX10_isBelow_37 : decode cX10_isBelow 37 = .ok (.ireturn, 1) := by decide +kernel
theorem dX10_goRound_0 : decode cX10_goRound 0 = .ok (.iconst 0, 1) := by decide +kernel
theorem dX10_goRound_1 : decode cX10_goRound 1 = .ok (.istore_n 1, 1) := by decide +kernel
theorem dX10_goRound_2 : decode cX10_goRound 2 = .ok (.iload_n 1, 1) := by decide +kernel
theorem dX10_goRound_3 : decode cX10_goRound 3 = .ok (.aload_n 0, 1) := by decide +kernel
theorem dX10_goRound_4 : decode cX10_goRound 4 = .ok (.getfield 78, 3) := by decide +kernel
theorem dX10_goRound_7 : decode cX10_goRound 7 = .ok (.if_icmp .ge 266, 3) := by decide +kernel
theorem dX10_goRound_10 : decode cX10_goRound 10 = .ok (.iconst 0, 1) := by decide +kernel
theorem dX10_goRound_11 : decode cX10_goRound 11 = .ok (.istore_n 2, 1) := by decide +kernel
theorem dX10_goRound_12 : decode cX10_goRound 12 = .ok (.iload_n 2, 1) := by decide +kernel
theorem dX10_goRound_13 : decode cX10_goRound 13 = .ok (.aload_n 0, 1) := by decide +kernel
theorem dX10_goRound_14 : decode cX10_goRound 14 = .ok (.getfield 78, 3) := by decide +kernel
theorem dX10_goRound_17 : decode cX10_goRound 17 = .ok (.if_icmp .ge 113, 3) := by decide +kernel
theorem dX10_goRound_20 : decode cX10_goRound 20 = .ok (.aload_n 0, 1) := by decide +kernel
theorem dX10_goRound_21 : decode cX10_goRound 21 = .ok (.iload_n 1, 1) := by decide +kernel
theorem dX10_goRound_22 : decode cX10_goRound 22 = .ok (.bipush 9, 2) := by decide +kernel
theorem dX10_goRound_24 : decode cX10_goRound 24 = .ok (.invokevirtual 172, 3) := by decide +kernel
theorem dX10_goRound_27 : decode cX10_goRound 27 = .ok (.iload_n 2, 1) := by decide +kernel
theorem dX10_goRound_28 : decode cX10_goRound 28 = .ok (.if_icmp .ne 45, 3) := by decide +kernel
theorem dX10_goRound_31 : decode cX10_goRound 31 = .ok (.aload_n 0, 1) := by decide +kernel
theorem dX10_goRound_32 : decode cX10_goRound 32 = .ok (.getfield 35, 3) := by decide +kernel
theorem dX10_goRound_35 : decode cX10_goRound 35 = .ok (.iload_n 1, 1) := by decide +kernel
theorem dX10_goRound_36 : decode cX10_goRound 36 = .ok (.aload_n 0, 1) := by decide +kernel
theorem dX10_goRound_37 : decode cX10_goRound 37 = .ok (.getfield 35, 3) := by decide +kernel
theorem dX10_goRound_40 : decode cX10_goRound 40 = .ok (.iload_n 1, 1) := by decide +kernel
theorem dX10_goRound_41 : decode cX10_goRound 41 = .ok (.iaload, 1) := by decide +kernel
theorem dX10_goRound_42 : decode cX10_goRound 42 = .ok (.aload_n 0, 1) := by decide +kernel
theorem dX10_goRound_43 : decode cX10_goRound 43 = .ok (.getfield 35, 3) := by decide +kernel
theorem dX10_goRound_46 : decode cX10_goRound 46 = .ok (.iload_n 2, 1) := by decide +kernel
theorem dX10_goRound_47 : decode cX10_goRound 47 = .ok (.iaload, 1) := by decide +kernel
theorem dX10_goRound_48 : decode cX10_goRound 48 = .ok (.invokestatic 199, 3) := by decide +kernel
theorem dX10_goRound_51 : decode cX10_goRound 51 = .ok (.iastore, 1) := by decide +kernel
theorem dX10_goRound_52 : decode cX10_goRound 52 = .ok (.aload_n 0, 1) := by decide +kernel
theorem dX10_goRound_53 : decode cX10_goRound 53 = .ok (.getfield 38, 3) := by decide +kernel
theorem dX10_goRound_56 : decode cX10_goRound 56 = .ok (.iload_n 2, 1) := by decide +kernel
theorem dX10_goRound_57 : decode cX10_goRound 57 = .ok (.aload_n 0, 1) := by decide +kernel
theorem dX10_goRound_58 : decode cX10_goRound 58 = .ok (.getfield 38, 3) := by decide +kernel
theorem dX10_goRound_61 : decode cX10_goRound 61 = .ok (.iload_n 2, 1) := by decide +kernel
theorem dX10_goRound_62 : decode cX10_goRound 62 = .ok (.iaload, 1) := by decide +kernel
theorem dX10_goRound_63 : decode cX10_goRound 63 = .ok (.aload_n 0, 1) := by decide +kernel
theorem dX10_goRound_64 : decode cX10_goRound 64 = .ok (.getfield 38, 3) := by decide +kernel
theorem dX10_goRound_67 : decode cX10_goRound 67 = .ok (.iload_n 1, 1) := by decide +kernel
theorem dX10_goRound_68 : decode cX10_goRound 68 = .ok (.iaload, 1) := by decide +kernel
theorem dX10_goRound_69 : decode cX10_goRound 69 = .ok (.invokestatic 202, 3) := by decide +kernel
theorem dX10_goRound_72 : decode cX10_goRound 72 = .ok (.iastore, 1) := by decide +kernel
theorem dX10_goRound_73 : decode cX10_goRound 73 = .ok (.aload_n 0, 1) := by decide +kernel
theorem dX10_goRound_74 : decode cX10_goRound 74 = .ok (.iload_n 1, 1) := by decide +kernel
theorem dX10_goRound_75 : decode cX10_goRound 75 = .ok (.iload_n 2, 1) := by decide +kernel
theorem dX10_goRound_76 : decode cX10_goRound 76 = .ok (.invokevirtual 205, 3) := by decide +kernel
theorem dX10_goRound_79 : decode cX10_goRound 79 = .ok (.ifCond .eq 45, 3) := by decide +kernel
theorem dX10_goRound_82 : decode cX10_goRound 82 = .ok (.aload_n 0, 1) := by decide +kernel
theorem dX10_goRound_83 : decode cX10_goRound 83 = .ok (.getfield 47, 3) := by decide +kernel
theorem dX10_goRound_86 : decode cX10_goRound 86 = .ok (.iload_n 2, 1) := by decide +kernel
theorem dX10_goRound_87 : decode cX10_goRound 87 = .ok (.aload_n 0, 1) := by decide +kernel
theorem dX10_goRound_88 : decode cX10_goRound 88 = .ok (.getfield 47, 3) := by decide +kernel
theorem dX10_goRound_91 : decode cX10_goRound 91 = .ok (.iload_n 2, 1) := by decide +kernel
theorem dX10_goRound_92 : decode cX10_goRound 92 = .ok (.iaload, 1) := by decide +kernel
theorem dX10_goRound_93 : decode cX10_goRound 93 = .ok (.aload_n 0, 1) := by decide +kernel
theorem dX10_goRound_94 : decode cX10_goRound 94 = .ok (.getfield 47, 3) := by decide +kernel
theorem dX10_goRound_97 : decode cX10_goRound 97 = .ok (.iload_n 1, 1) := by decide +kernel
theorem dX10_goRound_98 : decode cX10_goRound 98 = .ok (.iaload, 1) := by decide +kernel
theorem dX10_goRound_99 : decode cX10_goRound 99 = .ok (.invokestatic 199, 3) := by decide +kernel
theorem dX10_goRound_102 : decode cX10_goRound 102 = .ok (.iastore, 1) := by decide +kernel
theorem dX10_goRound_103 : decode cX10_goRound 103 = .ok (.aload_n 0, 1) := by decide +kernel
theorem dX10_goRound_104 : decode cX10_goRound 104 = .ok (.getfield 50, 3) := by decide +kernel
theorem dX10_goRound_107 : decode cX10_goRound 107 = .ok (.iload_n 1, 1) := by decide +kernel
theorem dX10_goRound_108 : decode cX10_goRound 108 = .ok (.aload_n 0, 1) := by decide +kernel
theorem dX10_goRound_109 : decode cX10_goRound 109 = .ok (.getfield 50, 3) := by decide +kernel
theorem dX10_goRound_112 : decode cX10_goRound 112 = .ok (.iload_n 1, 1) := by decide +kernel
theorem dX10_goRound_113 : decode cX10_goRound 113 = .ok (.iaload, 1) := by decide +kernel
theorem dX10_goRound_114 : decode cX10_goRound 114 = .ok (.aload_n 0, 1) := by decide +kernel
theorem dX10_goRound_115 : decode cX10_goRound 115 = .ok (.getfield 50, 3) := by decide +kernel
theorem dX10_goRound_118 : decode cX10_goRound 118 = .ok (.iload_n 2, 1) := by decide +kernel
theorem dX10_goRound_119 : decode cX10_goRound 119 = .ok (.iaload, 1) := by decide +kernel
theorem dX10_goRound_120 : decode cX10_goRound 120 = .ok (.invokestatic 202, 3) := by decide +kernel
theorem dX10_goRound_123 : decode cX10_goRound 123 = .ok (.iastore, 1) := by decide +kernel
theorem dX10_goRound_124 : decode cX10_goRound 124 = .ok (.iinc 2 1, 3) := by decide +kernel
theorem dX10_goRound_127 : decode cX10_goRound 127 = .ok (.goto (-115), 3) := by decide +kernel
theorem dX10_goRound_130 : decode cX10_goRound 130 = .ok (.aload_n 0, 1) := by decide +kernel
theorem dX10_goRound_131 : decode cX10_goRound 131 = .ok (.iload_n 1, 1) := by decide +kernel
theorem dX10_goRound_132 : decode cX10_goRound 132 = .ok (.invokevirtual 196, 3) := by decide +kernel
theorem dX10_goRound_135 : decode cX10_goRound 135 = .ok (.ifCond .eq 90, 3) := by decide +kernel
theorem dX10_goRound_138 : decode cX10_goRound 138 = .ok (.aload_n 0, 1) := by decide +kernel
theorem dX10_goRound_139 : decode cX10_goRound 139 = .ok (.getfield 41, 3) := by decide +kernel
theorem dX10_goRound_142 : decode cX10_goRound 142 = .ok (.iload_n 1, 1) := by decide +kernel
theorem dX10_goRound_143 : decode cX10_goRound 143 = .ok (.aload_n 0, 1) := by decide +kernel
theorem dX10_goRound_144 : decode cX10_goRound 144 = .ok (.getfield 41, 3) := by decide +kernel
theorem dX10_goRound_147 : decode cX10_goRound 147 = .ok (.iload_n 1, 1) := by decide +kernel
theorem dX10_goRound_148 : decode cX10_goRound 148 = .ok (.iaload, 1) := by decide +kernel
theorem dX10_goRound_149 : decode cX10_goRound 149 = .ok (.aload_n 0, 1) := by decide +kernel
theorem dX10_goRound_150 : decode cX10_goRound 150 = .ok (.getfield 35, 3) := by decide +kernel
theorem dX10_goRound_153 : decode cX10_goRound 153 = .ok (.iload_n 1, 1) := by decide +kernel
theorem dX10_goRound_154 : decode cX10_goRound 154 = .ok (.iaload, 1) := by decide +kernel
theorem dX10_goRound_155 : decode cX10_goRound 155 = .ok (.invokestatic 199, 3) := by decide +kernel
theorem dX10_goRound_158 : decode cX10_goRound 158 = .ok (.iastore, 1) := by decide +kernel
theorem dX10_goRound_159 : decode cX10_goRound 159 = .ok (.aload_n 0, 1) := by decide +kernel
theorem dX10_goRound_160 : decode cX10_goRound 160 = .ok (.getfield 47, 3) := by decide +kernel
theorem dX10_goRound_163 : decode cX10_goRound 163 = .ok (.iload_n 1, 1) := by decide +kernel
theorem dX10_goRound_164 : decode cX10_goRound 164 = .ok (.aload_n 0, 1) := by decide +kernel
theorem dX10_goRound_165 : decode cX10_goRound 165 = .ok (.getfield 47, 3) := by decide +kernel
theorem dX10_goRound_168 : decode cX10_goRound 168 = .ok (.iload_n 1, 1) := by decide +kernel
theorem dX10_goRound_169 : decode cX10_goRound 169 = .ok (.iaload, 1) := by decide +kernel
theorem dX10_goRound_170 : decode cX10_goRound 170 = .ok (.aload_n 0, 1) := by decide +kernel
theorem dX10_goRound_171 : decode cX10_goRound 171 = .ok (.getfield 41, 3) := by decide +kernel
theorem dX10_goRound_174 : decode cX10_goRound 174 = .ok (.iload_n 1, 1) := by decide +kernel
theorem dX10_goRound_175 : decode cX10_goRound 175 = .ok (.iaload, 1) := by decide +kernel
theorem dX10_goRound_176 : decode cX10_goRound 176 = .ok (.invokestatic 199, 3) := by decide +kernel
theorem dX10_goRound_179 : decode cX10_goRound 179 = .ok (.iastore, 1) := by decide +kernel
theorem dX10_goRound_180 : decode cX10_goRound 180 = .ok (.aload_n 0, 1) := by decide +kernel
theorem dX10_goRound_181 : decode cX10_goRound 181 = .ok (.getfield 44, 3) := by decide +kernel
theorem dX10_goRound_184 : decode cX10_goRound 184 = .ok (.iload_n 1, 1) := by decide +kernel
theorem dX10_goRound_185 : decode cX10_goRound 185 = .ok (.aload_n 0, 1) := by decide +kernel
theorem dX10_goRound_186 : decode cX10_goRound 186 = .ok (.getfield 44, 3) := by decide +kernel
theorem dX10_goRound_189 : decode cX10_goRound 189 = .ok (.iload_n 1, 1) := by decide +kernel
theorem dX10_goRound_190 : decode cX10_goRound 190 = .ok (.iaload, 1) := by decide +kernel
theorem dX10_goRound_191 : decode cX10_goRound 191 = .ok (.aload_n 0, 1) := by decide +kernel
theorem dX10_goRound_192 : decode cX10_goRound 192 = .ok (.getfield 50, 3) := by decide +kernel
theorem dX10_goRound_195 : decode cX10_goRound 195 = .ok (.iload_n 1, 1) := by decide +kernel
theorem dX10_goRound_196 : decode cX10_goRound 196 = .ok (.iaload, 1) := by decide +kernel
theorem dX10_goRound_197 : decode cX10_goRound 197 = .ok (.invokestatic 202, 3) := by decide +kernel
theorem dX10_goRound_200 : decode cX10_goRound 200 = .ok (.iastore, 1) := by decide +kernel
theorem dX10_goRound_201 : decode cX10_goRound 201 = .ok (.aload_n 0, 1) := by decide +kernel
theorem dX10_goRound_202 : decode cX10_goRound 202 = .ok (.getfield 38, 3) := by decide +kernel
theorem dX10_goRound_205 : decode cX10_goRound 205 = .ok (.iload_n 1, 1) := by decide +kernel
theorem dX10_goRound_206 : decode cX10_goRound 206 = .ok (.aload_n 0, 1) := by decide +kernel
theorem dX10_goRound_207 : decode cX10_goRound 207 = .ok (.getfield 38, 3) := by decide +kernel
theorem dX10_goRound_210 : decode cX10_goRound 210 = .ok (.iload_n 1, 1) := by decide +kernel
theorem dX10_goRound_211 : decode cX10_goRound 211 = .ok (.iaload, 1) := by decide +kernel
theorem dX10_goRound_212 : decode cX10_goRound 212 = .ok (.aload_n 0, 1) := by decide +kernel
theorem dX10_goRound_213 : decode cX10_goRound 213 = .ok (.getfield 44, 3) := by decide +kernel
theorem dX10_goRound_216 : decode cX10_goRound 216 = .ok (.iload_n 1, 1) := by decide +kernel
theorem dX10_goRound_217 : decode cX10_goRound 217 = .ok (.iaload, 1) := by decide +kernel
theorem dX10_goRound_218 : decode cX10_goRound 218 = .ok (.invokestatic 202, 3) := by decide +kernel
theorem dX10_goRound_221 : decode cX10_goRound 221 = .ok (.iastore, 1) := by decide +kernel
theorem dX10_goRound_222 : decode cX10_goRound 222 = .ok (.goto 45, 3) := by decide +kernel
theorem dX10_goRound_225 : decode cX10_goRound 225 = .ok (.aload_n 0, 1) := by decide +kernel
theorem dX10_goRound_226 : decode cX10_goRound 226 = .ok (.getfield 47, 3) := by decide +kernel
theorem dX10_goRound_229 : decode cX10_goRound 229 = .ok (.iload_n 1, 1) := by decide +kernel
theorem dX10_goRound_230 : decode cX10_goRound 230 = .ok (.aload_n 0, 1) := by decide +kernel
theorem dX10_goRound_231 : decode cX10_goRound 231 = .ok (.getfield 47, 3) := by decide +kernel
theorem dX10_goRound_234 : decode cX10_goRound 234 = .ok (.iload_n 1, 1) := by decide +kernel
theorem dX10_goRound_235 : decode cX10_goRound 235 = .ok (.iaload, 1) := by decide +kernel
theorem dX10_goRound_236 : decode cX10_goRound 236 = .ok (.aload_n 0, 1) := by decide +kernel
theorem dX10_goRound_237 : decode cX10_goRound 237 = .ok (.getfield 35, 3) := by decide +kernel
theorem dX10_goRound_240 : decode cX10_goRound 240 = .ok (.iload_n 1, 1) := by decide +kernel
theorem dX10_goRound_241 : decode cX10_goRound 241 = .ok (.iaload, 1) := by decide +kernel
theorem dX10_goRound_242 : decode cX10_goRound 242 = .ok (.invokestatic 199, 3) := by decide +kernel
theorem dX10_goRound_245 : decode cX10_goRound 245 = .ok (.iastore, 1) := by decide +kernel
theorem dX10_goRound_246 : decode cX10_goRound 246 = .ok (.aload_n 0, 1) := by decide +kernel
theorem dX10_goRound_247 : decode cX10_goRound 247 = .ok (.getfield 38, 3) := by decide +kernel
theorem dX10_goRound_250 : decode cX10_goRound 250 = .ok (.iload_n 1, 1) := by decide +kernel
theorem dX10_goRound_251 : decode cX10_goRound 251 = .ok (.aload_n 0, 1) := by decide +kernel
theorem dX10_goRound_252 : decode cX10_goRound 252 = .ok (.getfield 38, 3) := by decide +kernel
theorem dX10_goRound_255 : decode cX10_goRound 255 = .ok (.iload_n 1, 1) := by decide +kernel
theorem dX10_goRound_256 : decode cX10_goRound 256 = .ok (.iaload, 1) := by decide +kernel
theorem dX10_goRound_257 : decode cX10_goRound 257 = .ok (.aload_n 0, 1) := by decide +kernel
theorem dX10_goRound_258 : decode cX10_goRound 258 = .ok (.getfield 50, 3) := by decide +kernel
theorem dX10_goRound_261 : decode cX10_goRound 261 = .ok (.iload_n 1, 1) := by decide +kernel
theorem dX10_goRound_262 : decode cX10_goRound 262 = .ok (.iaload, 1) := by decide +kernel
theorem dX10_goRound_263 : decode cX10_goRound 263 = .ok (.invokestatic 202, 3) := by decide +kernel
theorem dX10_goRound_266 : decode cX10_goRound 266 = .ok (.iastore, 1) := by decide +kernel
theorem dX10_goRound_267 : decode cX10_goRound 267 = .ok (.iinc 1 1, 3) := by decide +kernel
theorem dX10_goRound_270 : decode cX10_goRound 270 = .ok (.goto (-268), 3) := by decide +kernel
theorem dX10_goRound_273 : decode cX10_goRound 273 = .ok (.return_, 1) := by decide +kernel
theorem dX10_areYears_0 : decode cX10_areYears 0 = .ok (.iconst 0, 1) := by decide +kernel
theorem dX10_areYears_1 : decode cX10_areYears 1 = .ok (.istore_n 1, 1) := by decide +kernel
theorem dX10_areYears_2 : decode cX10_areYears 2 = .ok (.iload_n 1, 1) := by decide +kernel
theorem dX10_areYears_3 : decode cX10_areYears 3 = .ok (.aload_n 0, 1) := by decide +kernel
theorem dX10_areYears_4 : decode cX10_areYears 4 = .ok (.getfield 78, 3) := by decide +kernel
theorem dX10_areYears_7 : decode cX10_areYears 7 = .ok (.if_icmp .ge 14, 3) := by decide +kernel
theorem dX10_areYears_10 : decode cX10_areYears 10 = .ok (.aload_n 0, 1) := by decide +kernel
theorem dX10_areYears_11 : decode cX10_areYears 11 = .ok (.iload_n 1, 1) := by decide +kernel
theorem dX10_areYears_12 : decode cX10_areYears 12 = .ok (.invokevirtual 208, 3) := by decide +kernel
theorem dX10_areYears_15 : decode cX10_areYears 15 = .ok (.iinc 1 1, 3) := by decide +kernel
theorem dX10_areYears_18 : decode cX10_areYears 18 = .ok (.goto (-16), 3) := by decide +kernel
theorem dX10_areYears_21 : decode cX10_areYears 21 = .ok (.iconst 0, 1) := by decide +kernel
theorem dX10_areYears_22 : decode cX10_areYears 22 = .ok (.istore_n 1, 1) := by decide +kernel
theorem dX10_areYears_23 : decode cX10_areYears 23 = .ok (.iload_n 1, 1) := by decide +kernel
theorem dX10_areYears_24 : decode cX10_areYears 24 = .ok (.bipush 40, 2) := by decide +kernel
theorem dX10_areYears_26 : decode cX10_areYears 26 = .ok (.if_icmp .ge 13, 3) := by decide +kernel
theorem dX10_areYears_29 : decode cX10_areYears 29 = .ok (.aload_n 0, 1) := by decide +kernel
theorem dX10_areYears_30 : decode cX10_areYears 30 = .ok (.invokevirtual 211, 3) := by decide +kernel
theorem dX10_areYears_33 : decode cX10_areYears 33 = .ok (.iinc 1 1, 3) := by decide +kernel
theorem dX10_areYears_36 : decode cX10_areYears 36 = .ok (.goto (-13), 3) := by decide +kernel
theorem dX10_areYears_39 : decode cX10_areYears 39 = .ok (.iconst 1, 1) := by decide +kernel
theorem dX10_areYears_40 : decode cX10_areYears 40 = .ok (.istore_n 1, 1) := by decide +kernel
theorem dX10_areYears_41 : decode cX10_areYears 41 = .ok (.iconst 0, 1) := by decide +kernel
theorem dX10_areYears_42 : decode cX10_areYears 42 = .ok (.istore_n 2, 1) := by decide +kernel
theorem dX10_areYears_43 : decode cX10_areYears 43 = .ok (.iload_n 2, 1) := by decide +kernel
theorem dX10_areYears_44 : decode cX10_areYears 44 = .ok (.aload_n 0, 1) := by decide +kernel
theorem dX10_areYears_45 : decode cX10_areYears 45 = .ok (.getfield 78, 3) := by decide +kernel
theorem dX10_areYears_48 : decode cX10_areYears 48 = .ok (.if_icmp .ge 72, 3) := by decide +kernel
theorem dX10_areYears_51 : decode cX10_areYears 51 = .ok (.iload_n 1, 1) := by decide +kernel
theorem dX10_areYears_52 : decode cX10_areYears 52 = .ok (.ifCond .eq 60, 3) := by decide +kernel
theorem dX10_areYears_55 : decode cX10_areYears 55 = .ok (.aload_n 0, 1) := by decide +kernel
theorem dX10_areYears_56 : decode cX10_areYears 56 = .ok (.getfield 35, 3) := by decide +kernel
theorem dX10_areYears_59 : decode cX10_areYears 59 = .ok (.iload_n 2, 1) := by decide +kernel
theorem dX10_areYears_60 : decode cX10_areYears 60 = .ok (.iaload, 1) := by decide +kernel
theorem dX10_areYears_61 : decode cX10_areYears 61 = .ok (.aload_n 0, 1) := by decide +kernel
theorem dX10_areYears_62 : decode cX10_areYears 62 = .ok (.getfield 38, 3) := by decide +kernel
theorem dX10_areYears_65 : decode cX10_areYears 65 = .ok (.iload_n 2, 1) := by decide +kernel
theorem dX10_areYears_66 : decode cX10_areYears 66 = .ok (.iaload, 1) := by decide +kernel
theorem dX10_areYears_67 : decode cX10_areYears 67 = .ok (.if_icmp .gt 45, 3) := by decide +kernel
theorem dX10_areYears_70 : decode cX10_areYears 70 = .ok (.aload_n 0, 1) := by decide +kernel
theorem dX10_areYears_71 : decode cX10_areYears 71 = .ok (.getfield 47, 3) := by decide +kernel
theorem dX10_areYears_74 : decode cX10_areYears 74 = .ok (.iload_n 2, 1) := by decide +kernel
theorem dX10_areYears_75 : decode cX10_areYears 75 = .ok (.iaload, 1) := by decide +kernel
theorem dX10_areYears_76 : decode cX10_areYears 76 = .ok (.aload_n 0, 1) := by decide +kernel
theorem dX10_areYears_77 : decode cX10_areYears 77 = .ok (.getfield 50, 3) := by decide +kernel
theorem dX10_areYears_80 : decode cX10_areYears 80 = .ok (.iload_n 2, 1) := by decide +kernel
theorem dX10_areYears_81 : decode cX10_areYears 81 = .ok (.iaload, 1) := by decide +kernel
theorem dX10_areYears_82 : decode cX10_areYears 82 = .ok (.if_icmp .gt 30, 3) := by decide +kernel
theorem dX10_areYears_85 : decode cX10_areYears 85 = .ok (.aload_n 0, 1) := by decide +kernel
theorem dX10_areYears_86 : decode cX10_areYears 86 = .ok (.iload_n 2, 1) := by decide +kernel
theorem dX10_areYears_87 : decode cX10_areYears 87 = .ok (.invokevirtual 196, 3) := by decide +kernel
theorem dX10_areYears_90 : decode cX10_areYears 90 = .ok (.ifCond .eq 18, 3) := by decide +kernel
theorem dX10_areYears_93 : decode cX10_areYears 93 = .ok (.aload_n 0, 1) := by decide +kernel
theorem dX10_areYears_94 : decode cX10_areYears 94 = .ok (.getfield 41, 3) := by decide +kernel
theorem dX10_areYears_97 : decode cX10_areYears 97 = .ok (.iload_n 2, 1) := by decide +kernel
theorem dX10_areYears_98 : decode cX10_areYears 98 = .ok (.iaload, 1) := by decide +kernel
theorem dX10_areYears_99 : decode cX10_areYears 99 = .ok (.aload_n 0, 1) := by decide +kernel
theorem dX10_areYears_100 : decode cX10_areYears 100 = .ok (.getfield 44, 3) := by decide +kernel
theorem dX10_areYears_103 : decode cX10_areYears 103 = .ok (.iload_n 2, 1) := by decide +kernel
theorem dX10_areYears_104 : decode cX10_areYears 104 = .ok (.iaload, 1) := by decide +kernel
theorem dX10_areYears_105 : decode cX10_areYears 105 = .ok (.if_icmp .gt 7, 3) := by decide +kernel
theorem dX10_areYears_108 : decode cX10_areYears 108 = .ok (.iconst 1, 1) := by decide +kernel
theorem dX10_areYears_109 : decode cX10_areYears 109 = .ok (.goto 4, 3) := by decide +kernel
theorem dX10_areYears_112 : decode cX10_areYears 112 = .ok (.iconst 0, 1) := by decide +kernel
theorem dX10_areYears_113 : decode cX10_areYears 113 = .ok (.istore_n 1, 1) := by decide +kernel
theorem dX10_areYears_114 : decode cX10_areYears 114 = .ok (.iinc 2 1, 3) := by decide +kernel
theorem dX10_areYears_117 : decode cX10_areYears 117 = .ok (.goto (-74), 3) := by decide +kernel
theorem dX10_areYears_120 : decode cX10_areYears 120 = .ok (.iload_n 1, 1) := by decide +kernel
theorem dX10_areYears_121 : decode cX10_areYears 121 = .ok (.ireturn, 1) := by decide +kernel
theorem dX10_span_0 : decode cX10_span 0 = .ok (.aload_n 0, 1) := by decide +kernel
theorem dX10_span_1 : decode cX10_span 1 = .ok (.iload_n 1, 1) := by decide +kernel
theorem dX10_span_2 : decode cX10_span 2 = .ok (.invokevirtual 169, 3) := by decide +kernel
theorem dX10_span_5 : decode cX10_span 5 = .ok (.ifCond .ne 6, 3) := by decide +kernel
theorem dX10_span_8 : decode cX10_span 8 = .ok (.bipush (-2), 2) := by decide +kernel
theorem dX10_span_10 : decode cX10_span 10 = .ok (.ireturn, 1) := by decide +kernel
theorem dX10_span_11 : decode cX10_span 11 = .ok (.iload_n 2, 1) := by decide +kernel
theorem dX10_span_12 : decode cX10_span 12 = .ok (.iconst 0, 1) := by decide +kernel
theorem dX10_span_13 : decode cX10_span 13 = .ok (.iconst 5, 1) := by decide +kernel
theorem dX10_span_14 : decode cX10_span 14 = .ok (.invokestatic 71, 3) := by decide +kernel
theorem dX10_span_17 : decode cX10_span 17 = .ok (.ifCond .ne 6, 3) := by decide +kernel
theorem dX10_span_20 : decode cX10_span 20 = .ok (.bipush (-3), 2) := by decide +kernel
theorem dX10_span_22 : decode cX10_span 22 = .ok (.ireturn, 1) := by decide +kernel
theorem dX10_span_23 : decode cX10_span 23 = .ok (.aload_n 0, 1) := by decide +kernel
theorem dX10_span_24 : decode cX10_span 24 = .ok (.invokevirtual 214, 3) := by decide +kernel
theorem dX10_span_27 : decode cX10_span 27 = .ok (.ifCond .ne 5, 3) := by decide +kernel
theorem dX10_span_30 : decode cX10_span 30 = .ok (.iconst (-1), 1) := by decide +kernel
theorem dX10_span_31 : decode cX10_span 31 = .ok (.ireturn, 1) := by decide +kernel
theorem dX10_span_32 : decode cX10_span 32 = .ok (.iload_n 2, 1) := by decide +kernel
theorem dX10_span_33 : decode cX10_span 33 = .ok (.tableswitch 94 0 4 #[35, 42, 49, 68, 87], 35) := by decide +kernel
theorem dX10_span_68 : decode cX10_span 68 = .ok (.aload_n 0, 1) := by decide +kernel
theorem dX10_span_69 : decode cX10_span 69 = .ok (.getfield 35, 3) := by decide +kernel
theorem dX10_span_72 : decode cX10_span 72 = .ok (.iload_n 1, 1) := by decide +kernel
theorem dX10_span_73 : decode cX10_span 73 = .ok (.iaload, 1) := by decide +kernel
theorem dX10_span_74 : decode cX10_span 74 = .ok (.ireturn, 1) := by decide +kernel
theorem dX10_span_75 : decode cX10_span 75 = .ok (.aload_n 0, 1) := by decide +kernel
theorem dX10_span_76 : decode cX10_span 76 = .ok (.getfield 38, 3) := by decide +kernel
theorem dX10_span_79 : decode cX10_span 79 = .ok (.iload_n 1, 1) := by decide +kernel
theorem dX10_span_80 : decode cX10_span 80 = .ok (.iaload, 1) := by decide +kernel
theorem dX10_span_81 : decode cX10_span 81 = .ok (.ireturn, 1) := by decide +kernel
theorem dX10_span_82 : decode cX10_span 82 = .ok (.aload_n 0, 1) := by decide +kernel
theorem dX10_span_83 : decode cX10_span 83 = .ok (.iload_n 1, 1) := by decide +kernel
theorem dX10_span_84 : decode cX10_span 84 = .ok (.invokevirtual 196, 3) := by decide +kernel
theorem dX10_span_87 : decode cX10_span 87 = .ok (.ifCond .eq 12, 3) := by decide +kernel
theorem dX10_span_90 : decode cX10_span 90 = .ok (.aload_n 0, 1) := by decide +kernel
theorem dX10_span_91 : decode cX10_span 91 = .ok (.getfield 41, 3) := by decide +kernel
theorem dX10_span_94 : decode cX10_span 94 = .ok (.iload_n 1, 1) := by decide +kernel
theorem dX10_span_95 : decode cX10_span 95 = .ok (.iaload, 1) := by decide +kernel
theorem dX10_span_96 : decode cX10_span 96 = .ok (.goto 4, 3) := by decide +kernel
theorem dX10_span_99 : decode cX10_span 99 = .ok (.iconst (-1), 1) := by decide +kernel
theorem dX10_span_100 : decode cX10_span 100 = .ok (.ireturn, 1) := by decide +kernel
theorem dX10_span_101 : decode cX10_span 101 = .ok (.aload_n 0, 1) := by decide +kernel
theorem dX10_span_102 : decode cX10_span 102 = .ok (.iload_n 1, 1) := by decide +kernel
theorem dX10_span_103 : decode cX10_span 103 = .ok (.invokevirtual 196, 3) := by decide +kernel
theorem dX10_span_106 : decode cX10_span 106 = .ok (.ifCond .eq 12, 3) := by decide +kernel
theorem dX10_span_109 : decode cX10_span 109 = .ok (.aload_n 0, 1) := by decide +kernel
theorem dX10_span_110 : decode cX10_span 110 = .ok (.getfield 44, 3) := by decide +kernel
theorem dX10_span_113 : decode cX10_span 113 = .ok (.iload_n 1, 1) := by decide +kernel
theorem dX10_span_114 : decode cX10_span 114 = .ok (.iaload, 1) := by decide +kernel
theorem dX10_span_115 : decode cX10_span 115 = .ok (.goto 4, 3) := by decide +kernel
theorem dX10_span_118 : decode cX10_span 118 = .ok (.iconst (-1), 1) := by decide +kernel
theorem dX10_span_119 : decode cX10_span 119 = .ok (.ireturn, 1) := by decide +kernel
theorem dX10_span_120 : decode cX10_span 120 = .ok (.aload_n 0, 1) := by decide +kernel
theorem dX10_span_121 : decode cX10_span 121 = .ok (.getfield 47, 3) := by decide +kernel
theorem dX10_span_124 : decode cX10_span 124 = .ok (.iload_n 1, 1) := by decide +kernel
theorem dX10_span_125 : decode cX10_span 125 = .ok (.iaload, 1) := by decide +kernel
theorem dX10_span_126 : decode cX10_span 126 = .ok (.ireturn, 1) := by decide +kernel
theorem dX10_span_127 : decode cX10_span 127 = .ok (.aload_n 0, 1) := by decide +kernel
theorem dX10_span_128 : decode cX10_span 128 = .ok (.getfield 50, 3) := by decide +kernel
theorem dX10_span_131 : decode cX10_span 131 = .ok (.iload_n 1, 1) := by decide +kernel
theorem dX10_span_132 : decode cX10_span 132 = .ok (.iaload, 1) := by decide +kernel
theorem dX10_span_133 : decode cX10_span 133 = .ok (.ireturn, 1) := by decide +kernel
theorem dX10_heirloom_0 : decode cX10_heirloom 0 = .ok (.aload_n 0, 1) := by decide +kernel
theorem dX10_heirloom_1 : decode cX10_heirloom 1 = .ok (.iload_n 1, 1) := by decide +kernel
theorem dX10_heirloom_2 : decode cX10_heirloom 2 = .ok (.invokevirtual 169, 3) := by decide +kernel
theorem dX10_heirloom_5 : decode cX10_heirloom 5 = .ok (.ifCond .ne 6, 3) := by decide +kernel
theorem dX10_heirloom_8 : decode cX10_heirloom 8 = .ok (.bipush (-2), 2) := by decide +kernel
theorem dX10_heirloom_10 : decode cX10_heirloom 10 = .ok (.ireturn, 1) := by decide +kernel
theorem dX10_heirloom_11 : decode cX10_heirloom 11 = .ok (.aload_n 0, 1) := by decide +kernel
theorem dX10_heirloom_12 : decode cX10_heirloom 12 = .ok (.invokevirtual 214, 3) := by decide +kernel
theorem dX10_heirloom_15 : decode cX10_heirloom 15 = .ok (.ifCond .ne 5, 3) := by decide +kernel
theorem dX10_heirloom_18 : decode cX10_heirloom 18 = .ok (.iconst (-1), 1) := by decide +kernel
theorem dX10_heirloom_19 : decode cX10_heirloom 19 = .ok (.ireturn, 1) := by decide +kernel
theorem dX10_heirloom_20 : decode cX10_heirloom 20 = .ok (.aload_n 0, 1) := by decide +kernel
theorem dX10_heirloom_21 : decode cX10_heirloom 21 = .ok (.iload_n 1, 1) := by decide +kernel
theorem dX10_heirloom_22 : decode cX10_heirloom 22 = .ok (.invokevirtual 196, 3) := by decide +kernel
theorem dX10_heirloom_25 : decode cX10_heirloom 25 = .ok (.ifCond .eq 12, 3) := by decide +kernel
theorem dX10_heirloom_28 : decode cX10_heirloom 28 = .ok (.aload_n 0, 1) := by decide +kernel
theorem dX10_heirloom_29 : decode cX10_heirloom 29 = .ok (.getfield 41, 3) := by decide +kernel
theorem dX10_heirloom_32 : decode cX10_heirloom 32 = .ok (.iload_n 1, 1) := by decide +kernel
theorem dX10_heirloom_33 : decode cX10_heirloom 33 = .ok (.iaload, 1) := by decide +kernel
theorem dX10_heirloom_34 : decode cX10_heirloom 34 = .ok (.goto 9, 3) := by decide +kernel
theorem dX10_heirloom_37 : decode cX10_heirloom 37 = .ok (.aload_n 0, 1) := by decide +kernel
theorem dX10_heirloom_38 : decode cX10_heirloom 38 = .ok (.getfield 35, 3) := by decide +kernel
theorem dX10_heirloom_41 : decode cX10_heirloom 41 = .ok (.iload_n 1, 1) := by decide +kernel
theorem dX10_heirloom_42 : decode cX10_heirloom 42 = .ok (.iaload, 1) := by decide +kernel
theorem dX10_heirloom_43 : decode cX10_heirloom 43 = .ok (.istore_n 2, 1) := by decide +kernel
theorem dX10_heirloom_44 : decode cX10_heirloom 44 = .ok (.aload_n 0, 1) := by decide +kernel
theorem dX10_heirloom_45 : decode cX10_heirloom 45 = .ok (.iload_n 1, 1) := by decide +kernel
theorem dX10_heirloom_46 : decode cX10_heirloom 46 = .ok (.invokevirtual 196, 3) := by decide +kernel
theorem dX10_heirloom_49 : decode cX10_heirloom 49 = .ok (.ifCond .eq 12, 3) := by decide +kernel
theorem dX10_heirloom_52 : decode cX10_heirloom 52 = .ok (.aload_n 0, 1) := by decide +kernel
theorem dX10_heirloom_53 : decode cX10_heirloom 53 = .ok (.getfield 44, 3) := by decide +kernel
theorem dX10_heirloom_56 : decode cX10_heirloom 56 = .ok (.iload_n 1, 1) := by decide +kernel
theorem dX10_heirloom_57 : decode cX10_heirloom 57 = .ok (.iaload, 1) := by decide +kernel
theorem dX10_heirloom_58 : decode cX10_heirloom 58 = .ok (.goto 9, 3) := by decide +kernel
theorem dX10_heirloom_61 : decode cX10_heirloom 61 = .ok (.aload_n 0, 1) := by decide +kernel
theorem dX10_heirloom_62 : decode cX10_heirloom 62 = .ok (.getfield 38, 3) := by decide +kernel
theorem dX10_heirloom_65 : decode cX10_heirloom 65 = .ok (.iload_n 1, 1) := by decide +kernel
theorem dX10_heirloom_66 : decode cX10_heirloom 66 = .ok (.iaload, 1) := by decide +kernel
theorem dX10_heirloom_67 : decode cX10_heirloom 67 = .ok (.istore_n 3, 1) := by decide +kernel
theorem dX10_heirloom_68 : decode cX10_heirloom 68 = .ok (.iload_n 3, 1) := by decide +kernel
theorem dX10_heirloom_69 : decode cX10_heirloom 69 = .ok (.aload_n 0, 1) := by decide +kernel
theorem dX10_heirloom_70 : decode cX10_heirloom 70 = .ok (.getfield 47, 3) := by decide +kernel
theorem dX10_heirloom_73 : decode cX10_heirloom 73 = .ok (.iload_n 1, 1) := by decide +kernel
theorem dX10_heirloom_74 : decode cX10_heirloom 74 = .ok (.iaload, 1) := by decide +kernel
theorem dX10_heirloom_75 : decode cX10_heirloom 75 = .ok (.if_icmp .ge 7, 3) := by decide +kernel
theorem dX10_heirloom_78 : decode cX10_heirloom 78 = .ok (.iconst 2, 1) := by decide +kernel
theorem dX10_heirloom_79 : decode cX10_heirloom 79 = .ok (.goto 18, 3) := by decide +kernel
theorem dX10_heirloom_82 : decode cX10_heirloom 82 = .ok (.iload_n 2, 1) := by decide +kernel
theorem dX10_heirloom_83 : decode cX10_heirloom 83 = .ok (.aload_n 0, 1) := by decide +kernel
theorem dX10_heirloom_84 : decode cX10_heirloom 84 = .ok (.getfield 50, 3) := by decide +kernel
theorem dX10_heirloom_87 : decode cX10_heirloom 87 = .ok (.iload_n 1, 1) := by decide +kernel
theorem dX10_heirloom_88 : decode cX10_heirloom 88 = .ok (.iaload, 1) := by decide +kernel
theorem dX10_heirloom_89 : decode cX10_heirloom 89 = .ok (.if_icmp .ge 7, 3) := by decide +kernel
theorem dX10_heirloom_92 : decode cX10_heirloom 92 = .ok (.iconst 1, 1) := by decide +kernel
theorem dX10_heirloom_93 : decode cX10_heirloom 93 = .ok (.goto 4, 3) := by decide +kernel
theorem dX10_heirloom_96 : decode cX10_heirloom 96 = .ok (.iconst 0, 1) := by decide +kernel
theorem dX10_heirloom_97 : decode cX10_heirloom 97 = .ok (.ireturn, 1) := by decide +kernel
theorem dX10_mayBeFrom_0 : decode cX10_mayBeFrom 0 = .ok (.iconst 0, 1) := by decide +kernel
theorem dX10_mayBeFrom_1 : decode cX10_mayBeFrom 1 = .ok (.istore_n 2, 1) := by decide +kernel
theorem dX10_mayBeFrom_2 : decode cX10_mayBeFrom 2 = .ok (.aload_n 0, 1) := by decide +kernel
theorem dX10_mayBeFrom_3 : decode cX10_mayBeFrom 3 = .ok (.iload_n 1, 1) := by decide +kernel
theorem dX10_mayBeFrom_4 : decode cX10_mayBeFrom 4 = .ok (.bipush 9, 2) := by decide +kernel
theorem dX10_mayBeFrom_6 : decode cX10_mayBeFrom 6 = .ok (.invokevirtual 172, 3) := by decide +kernel
theorem dX10_mayBeFrom_9 : decode cX10_mayBeFrom 9 = .ok (.istore_n 3, 1) := by decide +kernel
theorem dX10_mayBeFrom_10 : decode cX10_mayBeFrom 10 = .ok (.iconst 0, 1) := by decide +kernel
theorem dX10_mayBeFrom_11 : decode cX10_mayBeFrom 11 = .ok (.istore 4, 2) := by decide +kernel
theorem dX10_mayBeFrom_13 : decode cX10_mayBeFrom 13 = .ok (.iload 4, 2) := by decide +kernel
theorem dX10_mayBeFrom_15 : decode cX10_mayBeFrom 15 = .ok (.aload_n 0, 1) := by decide +kernel
theorem dX10_mayBeFrom_16 : decode cX10_mayBeFrom 16 = .ok (.getfield 78, 3) := by decide +kernel
theorem dX10_mayBeFrom_19 : decode cX10_mayBeFrom 19 = .ok (.if_icmp .ge 101, 3) := by decide +kernel
theorem dX10_mayBeFrom_22 : decode cX10_mayBeFrom 22 = .ok (.iload 4, 2) := by decide +kernel
theorem dX10_mayBeFrom_24 : decode cX10_mayBeFrom 24 = .ok (.iload_n 1, 1) := by decide +kernel
theorem dX10_mayBeFrom_25 : decode cX10_mayBeFrom 25 = .ok (.if_icmp .eq 89, 3) := by decide +kernel
theorem dX10_mayBeFrom_28 : decode cX10_mayBeFrom 28 = .ok (.aload_n 0, 1) := by decide +kernel
theorem dX10_mayBeFrom_29 : decode cX10_mayBeFrom 29 = .ok (.iload_n 1, 1) := by decide +kernel
theorem dX10_mayBeFrom_30 : decode cX10_mayBeFrom 30 = .ok (.invokevirtual 179, 3) := by decide +kernel
theorem dX10_mayBeFrom_33 : decode cX10_mayBeFrom 33 = .ok (.aload_n 0, 1) := by decide +kernel
theorem dX10_mayBeFrom_34 : decode cX10_mayBeFrom 34 = .ok (.iload 4, 2) := by decide +kernel
theorem dX10_mayBeFrom_36 : decode cX10_mayBeFrom 36 = .ok (.invokevirtual 179, 3) := by decide +kernel
theorem dX10_mayBeFrom_39 : decode cX10_mayBeFrom 39 = .ok (.iand, 1) := by decide +kernel
theorem dX10_mayBeFrom_40 : decode cX10_mayBeFrom 40 = .ok (.ifCond .eq 74, 3) := by decide +kernel
theorem dX10_mayBeFrom_43 : decode cX10_mayBeFrom 43 = .ok (.aload_n 0, 1) := by decide +kernel
theorem dX10_mayBeFrom_44 : decode cX10_mayBeFrom 44 = .ok (.iload 4, 2) := by decide +kernel
theorem dX10_mayBeFrom_46 : decode cX10_mayBeFrom 46 = .ok (.iconst 5, 1) := by decide +kernel
theorem dX10_mayBeFrom_47 : decode cX10_mayBeFrom 47 = .ok (.invokevirtual 172, 3) := by decide +kernel
theorem dX10_mayBeFrom_50 : decode cX10_mayBeFrom 50 = .ok (.aload_n 0, 1) := by decide +kernel
theorem dX10_mayBeFrom_51 : decode cX10_mayBeFrom 51 = .ok (.iload_n 1, 1) := by decide +kernel
theorem dX10_mayBeFrom_52 : decode cX10_mayBeFrom 52 = .ok (.iconst 5, 1) := by decide +kernel
theorem dX10_mayBeFrom_53 : decode cX10_mayBeFrom 53 = .ok (.invokevirtual 172, 3) := by decide +kernel
theorem dX10_mayBeFrom_56 : decode cX10_mayBeFrom 56 = .ok (.if_icmp .le 58, 3) := by decide +kernel
theorem dX10_mayBeFrom_59 : decode cX10_mayBeFrom 59 = .ok (.aload_n 0, 1) := by decide +kernel
theorem dX10_mayBeFrom_60 : decode cX10_mayBeFrom 60 = .ok (.iload 4, 2) := by decide +kernel
theorem dX10_mayBeFrom_62 : decode cX10_mayBeFrom 62 = .ok (.iload_n 1, 1) := by decide +kernel
theorem dX10_mayBeFrom_63 : decode cX10_mayBeFrom 63 = .ok (.invokevirtual 186, 3) := by decide +kernel
theorem dX10_mayBeFrom_66 : decode cX10_mayBeFrom 66 = .ok (.ifCond .ne 48, 3) := by decide +kernel
theorem dX10_mayBeFrom_69 : decode cX10_mayBeFrom 69 = .ok (.aload_n 0, 1) := by decide +kernel
theorem dX10_mayBeFrom_70 : decode cX10_mayBeFrom 70 = .ok (.getfield 32, 3) := by decide +kernel
theorem dX10_mayBeFrom_73 : decode cX10_mayBeFrom 73 = .ok (.bipush 11, 2) := by decide +kernel
theorem dX10_mayBeFrom_75 : decode cX10_mayBeFrom 75 = .ok (.iload_n 1, 1) := by decide +kernel
theorem dX10_mayBeFrom_76 : decode cX10_mayBeFrom 76 = .ok (.imul, 1) := by decide +kernel
theorem dX10_mayBeFrom_77 : decode cX10_mayBeFrom 77 = .ok (.bipush 9, 2) := by decide +kernel
theorem dX10_mayBeFrom_79 : decode cX10_mayBeFrom 79 = .ok (.iadd, 1) := by decide +kernel
theorem dX10_mayBeFrom_80 : decode cX10_mayBeFrom 80 = .ok (.iload 4, 2) := by decide +kernel
theorem dX10_mayBeFrom_82 : decode cX10_mayBeFrom 82 = .ok (.iastore, 1) := by decide +kernel
theorem dX10_mayBeFrom_83 : decode cX10_mayBeFrom 83 = .ok (.iload_n 2, 1) := by decide +kernel
theorem dX10_mayBeFrom_84 : decode cX10_mayBeFrom 84 = .ok (.aload_n 0, 1) := by decide +kernel
theorem dX10_mayBeFrom_85 : decode cX10_mayBeFrom 85 = .ok (.invokevirtual 214, 3) := by decide +kernel
theorem dX10_mayBeFrom_88 : decode cX10_mayBeFrom 88 = .ok (.ifCond .eq 10, 3) := by decide +kernel
theorem dX10_mayBeFrom_91 : decode cX10_mayBeFrom 91 = .ok (.iconst 1, 1) := by decide +kernel
theorem dX10_mayBeFrom_92 : decode cX10_mayBeFrom 92 = .ok (.iload 4, 2) := by decide +kernel
theorem dX10_mayBeFrom_94 : decode cX10_mayBeFrom 94 = .ok (.ishl, 1) := by decide +kernel
theorem dX10_mayBeFrom_95 : decode cX10_mayBeFrom 95 = .ok (.goto 4, 3) := by decide +kernel
theorem dX10_mayBeFrom_98 : decode cX10_mayBeFrom 98 = .ok (.iconst 0, 1) := by decide +kernel
theorem dX10_mayBeFrom_99 : decode cX10_mayBeFrom 99 = .ok (.ior, 1) := by decide +kernel
theorem dX10_mayBeFrom_100 : decode cX10_mayBeFrom 100 = .ok (.istore_n 2, 1) := by decide +kernel
theorem dX10_mayBeFrom_101 : decode cX10_mayBeFrom 101 = .ok (.aload_n 0, 1) := by decide +kernel
theorem dX10_mayBeFrom_102 : decode cX10_mayBeFrom 102 = .ok (.getfield 32, 3) := by decide +kernel
theorem dX10_mayBeFrom_105 : decode cX10_mayBeFrom 105 = .ok (.bipush 11, 2) := by decide +kernel
theorem dX10_mayBeFrom_107 : decode cX10_mayBeFrom 107 = .ok (.iload_n 1, 1) := by decide +kernel
theorem dX10_mayBeFrom_108 : decode cX10_mayBeFrom 108 = .ok (.imul, 1) := by decide +kernel
theorem dX10_mayBeFrom_109 : decode cX10_mayBeFrom 109 = .ok (.bipush 9, 2) := by decide +kernel
theorem dX10_mayBeFrom_111 : decode cX10_mayBeFrom 111 = .ok (.iadd, 1) := by decide +kernel
theorem dX10_mayBeFrom_112 : decode cX10_mayBeFrom 112 = .ok (.iload_n 3, 1) := by decide +kernel
theorem dX10_mayBeFrom_113 : decode cX10_mayBeFrom 113 = .ok (.iastore, 1) := by decide +kernel
theorem dX10_mayBeFrom_114 : decode cX10_mayBeFrom 114 = .ok (.iinc 4 1, 3) := by decide +kernel
theorem dX10_mayBeFrom_117 : decode cX10_mayBeFrom 117 = .ok (.goto (-104), 3) := by decide +kernel
theorem dX10_mayBeFrom_120 : decode cX10_mayBeFrom 120 = .ok (.iload_n 2, 1) := by decide +kernel
theorem dX10_mayBeFrom_121 : decode cX10_mayBeFrom 121 = .ok (.ireturn, 1) := by decide +kernel
theorem dX10_from_0 : decode cX10_from 0 = .ok (.aload_n 0, 1) := by decide +kernel
theorem dX10_from_1 : decode cX10_from 1 = .ok (.iload_n 1, 1) := by decide +kernel
theorem dX10_from_2 : decode cX10_from 2 = .ok (.invokevirtual 169, 3) := by decide +kernel
theorem dX10_from_5 : decode cX10_from 5 = .ok (.ifCond .eq 11, 3) := by decide +kernel
theorem dX10_from_8 : decode cX10_from 8 = .ok (.aload_n 0, 1) := by decide +kernel
theorem dX10_from_9 : decode cX10_from 9 = .ok (.iload_n 1, 1) := by decide +kernel
theorem dX10_from_10 : decode cX10_from 10 = .ok (.invokevirtual 217, 3) := by decide +kernel
theorem dX10_from_13 : decode cX10_from 13 = .ok (.goto 5, 3) := by decide +kernel
theorem dX10_from_16 : decode cX10_from 16 = .ok (.bipush (-2), 2) := by decide +kernel
theorem dX10_from_18 : decode cX10_from 18 = .ok (.ireturn, 1) := by decide +kernel
theorem dX10_chain_0 : decode cX10_chain 0 = .ok (.iload_n 1, 1) := by decide +kernel
theorem dX10_chain_1 : decode cX10_chain 1 = .ok (.bipush (-2), 2) := by decide +kernel
theorem dX10_chain_3 : decode cX10_chain 3 = .ok (.if_icmp .ge 6, 3) := by decide +kernel
theorem dX10_chain_6 : decode cX10_chain 6 = .ok (.bipush (-3), 2) := by decide +kernel
theorem dX10_chain_8 : decode cX10_chain 8 = .ok (.ireturn, 1) := by decide +kernel
theorem dX10_chain_9 : decode cX10_chain 9 = .ok (.iconst 0, 1) := by decide +kernel
theorem dX10_chain_10 : decode cX10_chain 10 = .ok (.istore_n 2, 1) := by decide +kernel
theorem dX10_chain_11 : decode cX10_chain 11 = .ok (.iload_n 2, 1) := by decide +kernel
theorem dX10_chain_12 : decode cX10_chain 12 = .ok (.aload_n 0, 1) := by decide +kernel
theorem dX10_chain_13 : decode cX10_chain 13 = .ok (.getfield 78, 3) := by decide +kernel
theorem dX10_chain_16 : decode cX10_chain 16 = .ok (.if_icmp .ge 27, 3) := by decide +kernel
theorem dX10_chain_19 : decode cX10_chain 19 = .ok (.aload_n 0, 1) := by decide +kernel
theorem dX10_chain_20 : decode cX10_chain 20 = .ok (.getfield 53, 3) := by decide +kernel
theorem dX10_chain_23 : decode cX10_chain 23 = .ok (.iload_n 2, 1) := by decide +kernel
theorem dX10_chain_24 : decode cX10_chain 24 = .ok (.aload_n 0, 1) := by decide +kernel
theorem dX10_chain_25 : decode cX10_chain 25 = .ok (.iload_n 2, 1) := by decide +kernel
theorem dX10_chain_26 : decode cX10_chain 26 = .ok (.invokevirtual 217, 3) := by decide +kernel
theorem dX10_chain_29 : decode cX10_chain 29 = .ok (.iastore, 1) := by decide +kernel
theorem dX10_chain_30 : decode cX10_chain 30 = .ok (.aload_n 0, 1) := by decide +kernel
theorem dX10_chain_31 : decode cX10_chain 31 = .ok (.getfield 56, 3) := by decide +kernel
theorem dX10_chain_34 : decode cX10_chain 34 = .ok (.iload_n 2, 1) := by decide +kernel
theorem dX10_chain_35 : decode cX10_chain 35 = .ok (.iconst 1, 1) := by decide +kernel
theorem dX10_chain_36 : decode cX10_chain 36 = .ok (.iastore, 1) := by decide +kernel
theorem dX10_chain_37 : decode cX10_chain 37 = .ok (.iinc 2 1, 3) := by decide +kernel
theorem dX10_chain_40 : decode cX10_chain 40 = .ok (.goto (-29), 3) := by decide +kernel
theorem dX10_chain_43 : decode cX10_chain 43 = .ok (.iconst 0, 1) := by decide +kernel
theorem dX10_chain_44 : decode cX10_chain 44 = .ok (.istore_n 2, 1) := by decide +kernel
theorem dX10_chain_45 : decode cX10_chain 45 = .ok (.iload_n 2, 1) := by decide +kernel
theorem dX10_chain_46 : decode cX10_chain 46 = .ok (.aload_n 0, 1) := by decide +kernel
theorem dX10_chain_47 : decode cX10_chain 47 = .ok (.getfield 78, 3) := by decide +kernel
theorem dX10_chain_50 : decode cX10_chain 50 = .ok (.if_icmp .ge 91, 3) := by decide +kernel
theorem dX10_chain_53 : decode cX10_chain 53 = .ok (.iconst 0, 1) := by decide +kernel
theorem dX10_chain_54 : decode cX10_chain 54 = .ok (.istore_n 3, 1) := by decide +kernel
theorem dX10_chain_55 : decode cX10_chain 55 = .ok (.iload_n 3, 1) := by decide +kernel
theorem dX10_chain_56 : decode cX10_chain 56 = .ok (.aload_n 0, 1) := by decide +kernel
theorem dX10_chain_57 : decode cX10_chain 57 = .ok (.getfield 78, 3) := by decide +kernel
theorem dX10_chain_60 : decode cX10_chain 60 = .ok (.if_icmp .ge 75, 3) := by decide +kernel
theorem dX10_chain_63 : decode cX10_chain 63 = .ok (.iconst 0, 1) := by decide +kernel
theorem dX10_chain_64 : decode cX10_chain 64 = .ok (.istore 4, 2) := by decide +kernel
theorem dX10_chain_66 : decode cX10_chain 66 = .ok (.iload 4, 2) := by decide +kernel
theorem dX10_chain_68 : decode cX10_chain 68 = .ok (.aload_n 0, 1) := by decide +kernel
theorem dX10_chain_69 : decode cX10_chain 69 = .ok (.getfield 78, 3) := by decide +kernel
theorem dX10_chain_72 : decode cX10_chain 72 = .ok (.if_icmp .ge 57, 3) := by decide +kernel
theorem dX10_chain_75 : decode cX10_chain 75 = .ok (.aload_n 0, 1) := by decide +kernel
theorem dX10_chain_76 : decode cX10_chain 76 = .ok (.getfield 56, 3) := by decide +kernel
theorem dX10_chain_79 : decode cX10_chain 79 = .ok (.iload_n 3, 1) := by decide +kernel
theorem dX10_chain_80 : decode cX10_chain 80 = .ok (.aload_n 0, 1) := by decide +kernel
theorem dX10_chain_81 : decode cX10_chain 81 = .ok (.getfield 53, 3) := by decide +kernel
theorem dX10_chain_84 : decode cX10_chain 84 = .ok (.iload 4, 2) := by decide +kernel
theorem dX10_chain_86 : decode cX10_chain 86 = .ok (.iaload, 1) := by decide +kernel
theorem dX10_chain_87 : decode cX10_chain 87 = .ok (.iload_n 3, 1) := by decide +kernel
theorem dX10_chain_88 : decode cX10_chain 88 = .ok (.ishr, 1) := by decide +kernel
theorem dX10_chain_89 : decode cX10_chain 89 = .ok (.iconst 1, 1) := by decide +kernel
theorem dX10_chain_90 : decode cX10_chain 90 = .ok (.iand, 1) := by decide +kernel
theorem dX10_chain_91 : decode cX10_chain 91 = .ok (.iconst 1, 1) := by decide +kernel
theorem dX10_chain_92 : decode cX10_chain 92 = .ok (.if_icmp .ne 24, 3) := by decide +kernel
theorem dX10_chain_95 : decode cX10_chain 95 = .ok (.aload_n 0, 1) := by decide +kernel
theorem dX10_chain_96 : decode cX10_chain 96 = .ok (.getfield 56, 3) := by decide +kernel
theorem dX10_chain_99 : decode cX10_chain 99 = .ok (.iload_n 3, 1) := by decide +kernel
theorem dX10_chain_100 : decode cX10_chain 100 = .ok (.iaload, 1) := by decide +kernel
theorem dX10_chain_101 : decode cX10_chain 101 = .ok (.aload_n 0, 1) := by decide +kernel
theorem dX10_chain_102 : decode cX10_chain 102 = .ok (.getfield 56, 3) := by decide +kernel
theorem dX10_chain_105 : decode cX10_chain 105 = .ok (.iload 4, 2) := by decide +kernel
theorem dX10_chain_107 : decode cX10_chain 107 = .ok (.iaload, 1) := by decide +kernel
theorem dX10_chain_108 : decode cX10_chain 108 = .ok (.iconst 1, 1) := by decide +kernel
theorem dX10_chain_109 : decode cX10_chain 109 = .ok (.iadd, 1) := by decide +kernel
theorem dX10_chain_110 : decode cX10_chain 110 = .ok (.invokestatic 199, 3) := by decide +kernel
theorem dX10_chain_113 : decode cX10_chain 113 = .ok (.goto 9, 3) := by decide +kernel
theorem dX10_chain_116 : decode cX10_chain 116 = .ok (.aload_n 0, 1) := by decide +kernel
theorem dX10_chain_117 : decode cX10_chain 117 = .ok (.getfield 56, 3) := by decide +kernel
theorem dX10_chain_120 : decode cX10_chain 120 = .ok (.iload_n 3, 1) := by decide +kernel
theorem dX10_chain_121 : decode cX10_chain 121 = .ok (.iaload, 1) := by decide +kernel
theorem dX10_chain_122 : decode cX10_chain 122 = .ok (.iastore, 1) := by decide +kernel
theorem dX10_chain_123 : decode cX10_chain 123 = .ok (.iinc 4 1, 3) := by decide +kernel
theorem dX10_chain_126 : decode cX10_chain 126 = .ok (.goto (-60), 3) := by decide +kernel
theorem dX10_chain_129 : decode cX10_chain 129 = .ok (.iinc 3 1, 3) := by decide +kernel
theorem dX10_chain_132 : decode cX10_chain 132 = .ok (.goto (-77), 3) := by decide +kernel
theorem dX10_chain_135 : decode cX10_chain 135 = .ok (.iinc 2 1, 3) := by decide +kernel
theorem dX10_chain_138 : decode cX10_chain 138 = .ok (.goto (-93), 3) := by decide +kernel
theorem dX10_chain_141 : decode cX10_chain 141 = .ok (.iconst (-1), 1) := by decide +kernel
theorem dX10_chain_142 : decode cX10_chain 142 = .ok (.istore_n 2, 1) := by decide +kernel
theorem dX10_chain_143 : decode cX10_chain 143 = .ok (.iconst 0, 1) := by decide +kernel
theorem dX10_chain_144 : decode cX10_chain 144 = .ok (.istore_n 3, 1) := by decide +kernel
theorem dX10_chain_145 : decode cX10_chain 145 = .ok (.iload_n 3, 1) := by decide +kernel
theorem dX10_chain_146 : decode cX10_chain 146 = .ok (.aload_n 0, 1) := by decide +kernel
theorem dX10_chain_147 : decode cX10_chain 147 = .ok (.getfield 78, 3) := by decide +kernel
theorem dX10_chain_150 : decode cX10_chain 150 = .ok (.if_icmp .ge 35, 3) := by decide +kernel
theorem dX10_chain_153 : decode cX10_chain 153 = .ok (.iload_n 2, 1) := by decide +kernel
theorem dX10_chain_154 : decode cX10_chain 154 = .ok (.iconst (-1), 1) := by decide +kernel
theorem dX10_chain_155 : decode cX10_chain 155 = .ok (.if_icmp .eq 18, 3) := by decide +kernel
theorem dX10_chain_158 : decode cX10_chain 158 = .ok (.aload_n 0, 1) := by decide +kernel
theorem dX10_chain_159 : decode cX10_chain 159 = .ok (.getfield 56, 3) := by decide +kernel
theorem dX10_chain_162 : decode cX10_chain 162 = .ok (.iload_n 3, 1) := by decide +kernel
theorem dX10_chain_163 : decode cX10_chain 163 = .ok (.iaload, 1) := by decide +kernel
theorem dX10_chain_164 : decode cX10_chain 164 = .ok (.aload_n 0, 1) := by decide +kernel
theorem dX10_chain_165 : decode cX10_chain 165 = .ok (.getfield 56, 3) := by decide +kernel
theorem dX10_chain_168 : decode cX10_chain 168 = .ok (.iload_n 2, 1) := by decide +kernel
theorem dX10_chain_169 : decode cX10_chain 169 = .ok (.iaload, 1) := by decide +kernel
theorem dX10_chain_170 : decode cX10_chain 170 = .ok (.if_icmp .le 7, 3) := by decide +kernel
theorem dX10_chain_173 : decode cX10_chain 173 = .ok (.iload_n 3, 1) := by decide +kernel
theorem dX10_chain_174 : decode cX10_chain 174 = .ok (.goto 4, 3) := by decide +kernel
theorem dX10_chain_177 : decode cX10_chain 177 = .ok (.iload_n 2, 1) := by decide +kernel
theorem dX10_chain_178 : decode cX10_chain 178 = .ok (.istore_n 2, 1) := by decide +kernel
theorem dX10_chain_179 : decode cX10_chain 179 = .ok (.iinc 3 1, 3) := by decide +kernel
theorem dX10_chain_182 : decode cX10_chain 182 = .ok (.goto (-37), 3) := by decide +kernel
theorem dX10_chain_185 : decode cX10_chain 185 = .ok (.iload_n 2, 1) := by decide +kernel
theorem dX10_chain_186 : decode cX10_chain 186 = .ok (.iconst (-1), 1) := by decide +kernel
theorem dX10_chain_187 : decode cX10_chain 187 = .ok (.if_icmp .ne 13, 3) := by decide +kernel
theorem dX10_chain_190 : decode cX10_chain 190 = .ok (.iload_n 1, 1) := by decide +kernel
theorem dX10_chain_191 : decode cX10_chain 191 = .ok (.ifCond .lt 7, 3) := by decide +kernel
theorem dX10_chain_194 : decode cX10_chain 194 = .ok (.iconst (-1), 1) := by decide +kernel
theorem dX10_chain_195 : decode cX10_chain 195 = .ok (.goto 4, 3) := by decide +kernel
theorem dX10_chain_198 : decode cX10_chain 198 = .ok (.iconst 0, 1) := by decide +kernel
theorem dX10_chain_199 : decode cX10_chain 199 = .ok (.ireturn, 1) := by decide +kernel
theorem dX10_chain_200 : decode cX10_chain 200 = .ok (.aload_n 0, 1) := by decide +kernel
theorem dX10_chain_201 : decode cX10_chain 201 = .ok (.getfield 56, 3) := by decide +kernel
theorem dX10_chain_204 : decode cX10_chain 204 = .ok (.iload_n 2, 1) := by decide +kernel
theorem dX10_chain_205 : decode cX10_chain 205 = .ok (.iaload, 1) := by decide +kernel
theorem dX10_chain_206 : decode cX10_chain 206 = .ok (.istore_n 3, 1) := by decide +kernel
theorem dX10_chain_207 : decode cX10_chain 207 = .ok (.iload_n 2, 1) := by decide +kernel
theorem dX10_chain_208 : decode cX10_chain 208 = .ok (.istore 4, 2) := by decide +kernel
theorem dX10_chain_210 : decode cX10_chain 210 = .ok (.iconst 0, 1) := by decide +kernel
theorem dX10_chain_211 : decode cX10_chain 211 = .ok (.istore 5, 2) := by decide +kernel
theorem dX10_chain_213 : decode cX10_chain 213 = .ok (.iload 5, 2) := by decide +kernel
theorem dX10_chain_215 : decode cX10_chain 215 = .ok (.iload_n 3, 1) := by decide +kernel
theorem dX10_chain_216 : decode cX10_chain 216 = .ok (.if_icmp .ge 94, 3) := by decide +kernel
theorem dX10_chain_219 : decode cX10_chain 219 = .ok (.iload 5, 2) := by decide +kernel
theorem dX10_chain_221 : decode cX10_chain 221 = .ok (.iload_n 1, 1) := by decide +kernel
theorem dX10_chain_222 : decode cX10_chain 222 = .ok (.if_icmp .ne 5, 3) := by decide +kernel
theorem dX10_chain_225 : decode cX10_chain 225 = .ok (.iload_n 2, 1) := by decide +kernel
theorem dX10_chain_226 : decode cX10_chain 226 = .ok (.ireturn, 1) := by decide +kernel
theorem dX10_chain_227 : decode cX10_chain 227 = .ok (.iconst (-1), 1) := by decide +kernel
theorem dX10_chain_228 : decode cX10_chain 228 = .ok (.istore 6, 2) := by decide +kernel
theorem dX10_chain_230 : decode cX10_chain 230 = .ok (.aload_n 0, 1) := by decide +kernel
theorem dX10_chain_231 : decode cX10_chain 231 = .ok (.getfield 78, 3) := by decide +kernel
theorem dX10_chain_234 : decode cX10_chain 234 = .ok (.iconst 1, 1) := by decide +kernel
theorem dX10_chain_235 : decode cX10_chain 235 = .ok (.isub, 1) := by decide +kernel
theorem dX10_chain_236 : decode cX10_chain 236 = .ok (.istore 7, 2) := by decide +kernel
theorem dX10_chain_238 : decode cX10_chain 238 = .ok (.iload 7, 2) := by decide +kernel
theorem dX10_chain_240 : decode cX10_chain 240 = .ok (.ifCond .lt 51, 3) := by decide +kernel
theorem dX10_chain_243 : decode cX10_chain 243 = .ok (.aload_n 0, 1) := by decide +kernel
theorem dX10_chain_244 : decode cX10_chain 244 = .ok (.getfield 53, 3) := by decide +kernel
theorem dX10_chain_247 : decode cX10_chain 247 = .ok (.iload 7, 2) := by decide +kernel
theorem dX10_chain_249 : decode cX10_chain 249 = .ok (.iaload, 1) := by decide +kernel
theorem dX10_chain_250 : decode cX10_chain 250 = .ok (.iload_n 2, 1) := by decide +kernel
theorem dX10_chain_251 : decode cX10_chain 251 = .ok (.ishr, 1) := by decide +kernel
theorem dX10_chain_252 : decode cX10_chain 252 = .ok (.iconst 1, 1) := by decide +kernel
theorem dX10_chain_253 : decode cX10_chain 253 = .ok (.iand, 1) := by decide +kernel
theorem dX10_chain_254 : decode cX10_chain 254 = .ok (.iconst 1, 1) := by decide +kernel
theorem dX10_chain_255 : decode cX10_chain 255 = .ok (.if_icmp .ne 26, 3) := by decide +kernel
theorem dX10_chain_258 : decode cX10_chain 258 = .ok (.aload_n 0, 1) := by decide +kernel
theorem dX10_chain_259 : decode cX10_chain 259 = .ok (.getfield 56, 3) := by decide +kernel
theorem dX10_chain_262 : decode cX10_chain 262 = .ok (.iload 7, 2) := by decide +kernel
theorem dX10_chain_264 : decode cX10_chain 264 = .ok (.iaload, 1) := by decide +kernel
theorem dX10_chain_265 : decode cX10_chain 265 = .ok (.iconst 1, 1) := by decide +kernel
theorem dX10_chain_266 : decode cX10_chain 266 = .ok (.iadd, 1) := by decide +kernel
theorem dX10_chain_267 : decode cX10_chain 267 = .ok (.aload_n 0, 1) := by decide +kernel
theorem dX10_chain_268 : decode cX10_chain 268 = .ok (.getfield 56, 3) := by decide +kernel
theorem dX10_chain_271 : decode cX10_chain 271 = .ok (.iload_n 2, 1) := by decide +kernel
theorem dX10_chain_272 : decode cX10_chain 272 = .ok (.iaload, 1) := by decide +kernel
theorem dX10_chain_273 : decode cX10_chain 273 = .ok (.if_icmp .ne 8, 3) := by decide +kernel
theorem dX10_chain_276 : decode cX10_chain 276 = .ok (.iload 7, 2) := by decide +kernel
theorem dX10_chain_278 : decode cX10_chain 278 = .ok (.goto 5, 3) := by decide +kernel
theorem dX10_chain_281 : decode cX10_chain 281 = .ok (.iload 6, 2) := by decide +kernel
theorem dX10_chain_283 : decode cX10_chain 283 = .ok (.istore 6, 2) := by decide +kernel
theorem dX10_chain_285 : decode cX10_chain 285 = .ok (.iinc 7 (-1), 3) := by decide +kernel
theorem dX10_chain_288 : decode cX10_chain 288 = .ok (.goto (-50), 3) := by decide +kernel
theorem dX10_chain_291 : decode cX10_chain 291 = .ok (.iload 6, 2) := by decide +kernel
theorem dX10_chain_293 : decode cX10_chain 293 = .ok (.iconst (-1), 1) := by decide +kernel
theorem dX10_chain_294 : decode cX10_chain 294 = .ok (.if_icmp .ne 7, 3) := by decide +kernel
theorem dX10_chain_297 : decode cX10_chain 297 = .ok (.iload_n 2, 1) := by decide +kernel
theorem dX10_chain_298 : decode cX10_chain 298 = .ok (.goto 5, 3) := by decide +kernel
theorem dX10_chain_301 : decode cX10_chain 301 = .ok (.iload 6, 2) := by decide +kernel
theorem dX10_chain_303 : decode cX10_chain 303 = .ok (.istore_n 2, 1) := by decide +kernel
theorem dX10_chain_304 : decode cX10_chain 304 = .ok (.iinc 5 1, 3) := by decide +kernel
theorem dX10_chain_307 : decode cX10_chain 307 = .ok (.goto (-94), 3) := by decide +kernel
theorem dX10_chain_310 : decode cX10_chain 310 = .ok (.iload_n 1, 1) := by decide +kernel
theorem dX10_chain_311 : decode cX10_chain 311 = .ok (.iconst (-1), 1) := by decide +kernel
theorem dX10_chain_312 : decode cX10_chain 312 = .ok (.if_icmp .ne 7, 3) := by decide +kernel
theorem dX10_chain_315 : decode cX10_chain 315 = .ok (.iload_n 3, 1) := by decide +kernel
theorem dX10_chain_316 : decode cX10_chain 316 = .ok (.goto 27, 3) := by decide +kernel
theorem dX10_chain_319 : decode cX10_chain 319 = .ok (.iload_n 1, 1) := by decide +kernel
theorem dX10_chain_320 : decode cX10_chain 320 = .ok (.bipush (-2), 2) := by decide +kernel
theorem dX10_chain_322 : decode cX10_chain 322 = .ok (.if_icmp .ne 20, 3) := by decide +kernel
theorem dX10_chain_325 : decode cX10_chain 325 = .ok (.aload_n 0, 1) := by decide +kernel
theorem dX10_chain_326 : decode cX10_chain 326 = .ok (.iload 4, 2) := by decide +kernel
theorem dX10_chain_328 : decode cX10_chain 328 = .ok (.iconst 5, 1) := by decide +kernel
theorem dX10_chain_329 : decode cX10_chain 329 = .ok (.invokevirtual 172, 3) := by decide +kernel
theorem dX10_chain_332 : decode cX10_chain 332 = .ok (.aload_n 0, 1) := by decide +kernel
theorem dX10_chain_333 : decode cX10_chain 333 = .ok (.iload_n 2, 1) := by decide +kernel
theorem dX10_chain_334 : decode cX10_chain 334 = .ok (.iconst 5, 1) := by decide +kernel
theorem dX10_chain_335 : decode cX10_chain 335 = .ok (.invokevirtual 172, 3) := by decide +kernel
theorem dX10_chain_338 : decode cX10_chain 338 = .ok (.isub, 1) := by decide +kernel
theorem dX10_chain_339 : decode cX10_chain 339 = .ok (.goto 4, 3) := by decide +kernel
theorem dX10_chain_342 : decode cX10_chain 342 = .ok (.iconst (-1), 1) := by decide +kernel
theorem dX10_chain_343 : decode cX10_chain 343 = .ok (.ireturn, 1) := by decide +kernel
theorem dX10_isLive_0 : decode cX10_isLive 0 = .ok (.iload_n 2, 1) := by decide +kernel
theorem dX10_isLive_1 : decode cX10_isLive 1 = .ok (.aload_n 0, 1) := by decide +kernel
theorem dX10_isLive_2 : decode cX10_isLive 2 = .ok (.getfield 7, 3) := by decide +kernel
theorem dX10_isLive_5 : decode cX10_isLive 5 = .ok (.iconst 3, 1) := by decide +kernel
theorem dX10_isLive_6 : decode cX10_isLive 6 = .ok (.iload_n 1, 1) := by decide +kernel
theorem dX10_isLive_7 : decode cX10_isLive 7 = .ok (.imul, 1) := by decide +kernel
theorem dX10_isLive_8 : decode cX10_isLive 8 = .ok (.iaload, 1) := by decide +kernel
theorem dX10_isLive_9 : decode cX10_isLive 9 = .ok (.aload_n 0, 1) := by decide +kernel
theorem dX10_isLive_10 : decode cX10_isLive 10 = .ok (.getfield 7, 3) := by decide +kernel
theorem dX10_isLive_13 : decode cX10_isLive 13 = .ok (.iconst 3, 1) := by decide +kernel
theorem dX10_isLive_14 : decode cX10_isLive 14 = .ok (.iload_n 1, 1) := by decide +kernel
theorem dX10_isLive_15 : decode cX10_isLive 15 = .ok (.imul, 1) := by decide +kernel
theorem dX10_isLive_16 : decode cX10_isLive 16 = .ok (.iconst 1, 1) := by decide +kernel
theorem dX10_isLive_17 : decode cX10_isLive 17 = .ok (.iadd, 1) := by decide +kernel
theorem dX10_isLive_18 : decode cX10_isLive 18 = .ok (.iaload, 1) := by decide +kernel
theorem dX10_isLive_19 : decode cX10_isLive 19 = .ok (.invokestatic 71, 3) := by decide +kernel
theorem dX10_isLive_22 : decode cX10_isLive 22 = .ok (.ireturn, 1) := by decide +kernel
theorem dX10_layOut_0 : decode cX10_layOut 0 = .ok (.iconst 0, 1) := by decide +kernel
theorem dX10_layOut_1 : decode cX10_layOut 1 = .ok (.istore 4, 2) := by decide +kernel
theorem dX10_layOut_3 : decode cX10_layOut 3 = .ok (.iload 4, 2) := by decide +kernel
theorem dX10_layOut_5 : decode cX10_layOut 5 = .ok (.bipush 10, 2) := by decide +kernel
theorem dX10_layOut_7 : decode cX10_layOut 7 = .ok (.if_icmp .ge 41, 3) := by decide +kernel
theorem dX10_layOut_10 : decode cX10_layOut 10 = .ok (.aload_n 0, 1) := by decide +kernel
theorem dX10_layOut_11 : decode cX10_layOut 11 = .ok (.getfield 59, 3) := by decide +kernel
theorem dX10_layOut_14 : decode cX10_layOut 14 = .ok (.iload 4, 2) := by decide +kernel
theorem dX10_layOut_16 : decode cX10_layOut 16 = .ok (.iload 4, 2) := by decide +kernel
theorem dX10_layOut_18 : decode cX10_layOut 18 = .ok (.iload_n 1, 1) := by decide +kernel
theorem dX10_layOut_19 : decode cX10_layOut 19 = .ok (.if_icmp .ne 7, 3) := by decide +kernel
theorem dX10_layOut_22 : decode cX10_layOut 22 = .ok (.iconst 0, 1) := by decide +kernel
theorem dX10_layOut_23 : decode cX10_layOut 23 = .ok (.goto 4, 3) := by decide +kernel
theorem dX10_layOut_26 : decode cX10_layOut 26 = .ok (.iconst (-1), 1) := by decide +kernel
theorem dX10_layOut_27 : decode cX10_layOut 27 = .ok (.iastore, 1) := by decide +kernel
theorem dX10_layOut_28 : decode cX10_layOut 28 = .ok (.aload_n 0, 1) := by decide +kernel
theorem dX10_layOut_29 : decode cX10_layOut 29 = .ok (.getfield 62, 3) := by decide +kernel
theorem dX10_layOut_32 : decode cX10_layOut 32 = .ok (.iload 4, 2) := by decide +kernel
theorem dX10_layOut_34 : decode cX10_layOut 34 = .ok (.aload_n 0, 1) := by decide +kernel
theorem dX10_layOut_35 : decode cX10_layOut 35 = .ok (.getfield 59, 3) := by decide +kernel
theorem dX10_layOut_38 : decode cX10_layOut 38 = .ok (.iload 4, 2) := by decide +kernel
theorem dX10_layOut_40 : decode cX10_layOut 40 = .ok (.iaload, 1) := by decide +kernel
theorem dX10_layOut_41 : decode cX10_layOut 41 = .ok (.iastore, 1) := by decide +kernel
theorem dX10_layOut_42 : decode cX10_layOut 42 = .ok (.iinc 4 1, 3) := by decide +kernel
theorem dX10_layOut_45 : decode cX10_layOut 45 = .ok (.goto (-42), 3) := by decide +kernel
theorem dX10_layOut_48 : decode cX10_layOut 48 = .ok (.iconst 0, 1) := by decide +kernel
theorem dX10_layOut_49 : decode cX10_layOut 49 = .ok (.istore 4, 2) := by decide +kernel
theorem dX10_layOut_51 : decode cX10_layOut 51 = .ok (.iload 4, 2) := by decide +kernel
theorem dX10_layOut_53 : decode cX10_layOut 53 = .ok (.bipush 10, 2) := by decide +kernel
theorem dX10_layOut_55 : decode cX10_layOut 55 = .ok (.if_icmp .ge 242, 3) := by decide +kernel
theorem dX10_layOut_58 : decode cX10_layOut 58 = .ok (.iconst 0, 1) := by decide +kernel
theorem dX10_layOut_59 : decode cX10_layOut 59 = .ok (.istore 5, 2) := by decide +kernel
theorem dX10_layOut_61 : decode cX10_layOut 61 = .ok (.iload 5, 2) := by decide +kernel
theorem dX10_layOut_63 : decode cX10_layOut 63 = .ok (.bipush 10, 2) := by decide +kernel
theorem dX10_layOut_65 : decode cX10_layOut 65 = .ok (.if_icmp .ge 226, 3) := by decide +kernel
theorem dX10_layOut_68 : decode cX10_layOut 68 = .ok (.iconst 0, 1) := by decide +kernel
theorem dX10_layOut_69 : decode cX10_layOut 69 = .ok (.istore 6, 2) := by decide +kernel
theorem dX10_layOut_71 : decode cX10_layOut 71 = .ok (.iload 6, 2) := by decide +kernel
theorem dX10_layOut_73 : decode cX10_layOut 73 = .ok (.bipush 10, 2) := by decide +kernel
theorem dX10_layOut_75 : decode cX10_layOut 75 = .ok (.if_icmp .ge 210, 3) := by decide +kernel
theorem dX10_layOut_78 : decode cX10_layOut 78 = .ok (.aload_n 0, 1) := by decide +kernel
theorem dX10_layOut_79 : decode cX10_layOut 79 = .ok (.getfield 59, 3) := by decide +kernel
theorem dX10_layOut_82 : decode cX10_layOut 82 = .ok (.iload 5, 2) := by decide +kernel
theorem dX10_layOut_84 : decode cX10_layOut 84 = .ok (.iaload, 1) := by decide +kernel
theorem dX10_layOut_85 : decode cX10_layOut 85 = .ok (.iconst (-1), 1) := by decide +kernel
theorem dX10_layOut_86 : decode cX10_layOut 86 = .ok (.if_icmp .eq 199, 3) := by decide +kernel
theorem dX10_layOut_89 : decode cX10_layOut 89 = .ok (.aload_n 0, 1) := by decide +kernel
theorem dX10_layOut_90 : decode cX10_layOut 90 = .ok (.getfield 13, 3) := by decide +kernel
theorem dX10_layOut_93 : decode cX10_layOut 93 = .ok (.bipush 10, 2) := by decide +kernel
theorem dX10_layOut_95 : decode cX10_layOut 95 = .ok (.iload 5, 2) := by decide +kernel
theorem dX10_layOut_97 : decode cX10_layOut 97 = .ok (.imul, 1) := by decide +kernel
theorem dX10_layOut_98 : decode cX10_layOut 98 = .ok (.iload 6, 2) := by decide +kernel
theorem dX10_layOut_100 : decode cX10_layOut 100 = .ok (.iadd, 1) := by decide +kernel
theorem dX10_layOut_101 : decode cX10_layOut 101 = .ok (.iaload, 1) := by decide +kernel
theorem dX10_layOut_102 : decode cX10_layOut 102 = .ok (.istore 7, 2) := by decide +kernel
theorem dX10_layOut_104 : decode cX10_layOut 104 = .ok (.iload_n 3, 1) := by decide +kernel
theorem dX10_layOut_105 : decode cX10_layOut 105 = .ok (.ifCond .eq 22, 3) := by decide +kernel
theorem dX10_layOut_108 : decode cX10_layOut 108 = .ok (.aload_n 0, 1) := by decide +kernel
theorem dX10_layOut_109 : decode cX10_layOut 109 = .ok (.getfield 13, 3) := by decide +kernel
theorem dX10_layOut_112 : decode cX10_layOut 112 = .ok (.bipush 100, 2) := by decide +kernel
theorem dX10_layOut_114 : decode cX10_layOut 114 = .ok (.bipush 10, 2) := by decide +kernel
theorem dX10_layOut_116 : decode cX10_layOut 116 = .ok (.iload 5, 2) := by decide +kernel
theorem dX10_layOut_118 : decode cX10_layOut 118 = .ok (.imul, 1) := by decide +kernel
theorem dX10_layOut_119 : decode cX10_layOut 119 = .ok (.iadd, 1) := by decide +kernel
theorem dX10_layOut_120 : decode cX10_layOut 120 = .ok (.iload 6, 2) := by decide +kernel
theorem dX10_layOut_122 : decode cX10_layOut 122 = .ok (.iadd, 1) := by decide +kernel
theorem dX10_layOut_123 : decode cX10_layOut 123 = .ok (.iaload, 1) := by decide +kernel
theorem dX10_layOut_124 : decode cX10_layOut 124 = .ok (.goto 4, 3) := by decide +kernel
theorem dX10_layOut_127 : decode cX10_layOut 127 = .ok (.iconst 0, 1) := by decide +kernel
theorem dX10_layOut_128 : decode cX10_layOut 128 = .ok (.istore 8, 2) := by decide +kernel
theorem dX10_layOut_130 : decode cX10_layOut 130 = .ok (.iload 7, 2) := by decide +kernel
theorem dX10_layOut_132 : decode cX10_layOut 132 = .ok (.ifCond .ne 8, 3) := by decide +kernel
theorem dX10_layOut_135 : decode cX10_layOut 135 = .ok (.iload 8, 2) := by decide +kernel
theorem dX10_layOut_137 : decode cX10_layOut 137 = .ok (.goto 20, 3) := by decide +kernel
theorem dX10_layOut_140 : decode cX10_layOut 140 = .ok (.iload 8, 2) := by decide +kernel
theorem dX10_layOut_142 : decode cX10_layOut 142 = .ok (.ifCond .ne 8, 3) := by decide +kernel
theorem dX10_layOut_145 : decode cX10_layOut 145 = .ok (.iload 7, 2) := by decide +kernel
theorem dX10_layOut_147 : decode cX10_layOut 147 = .ok (.goto 10, 3) := by decide +kernel
theorem dX10_layOut_150 : decode cX10_layOut 150 = .ok (.iload 7, 2) := by decide +kernel
theorem dX10_layOut_152 : decode cX10_layOut 152 = .ok (.iload 8, 2) := by decide +kernel
theorem dX10_layOut_154 : decode cX10_layOut 154 = .ok (.invokestatic 202, 3) := by decide +kernel
theorem dX10_layOut_157 : decode cX10_layOut 157 = .ok (.istore 9, 2) := by decide +kernel
theorem dX10_layOut_159 : decode cX10_layOut 159 = .ok (.iload 9, 2) := by decide +kernel
theorem dX10_layOut_161 : decode cX10_layOut 161 = .ok (.ifCond .le 118, 3) := by decide +kernel
theorem dX10_layOut_164 : decode cX10_layOut 164 = .ok (.iload_n 2, 1) := by decide +kernel
theorem dX10_layOut_165 : decode cX10_layOut 165 = .ok (.iconst (-1), 1) := by decide +kernel
theorem dX10_layOut_166 : decode cX10_layOut 166 = .ok (.if_icmp .eq 13, 3) := by decide +kernel
theorem dX10_layOut_169 : decode cX10_layOut 169 = .ok (.aload_n 0, 1) := by decide +kernel
theorem dX10_layOut_170 : decode cX10_layOut 170 = .ok (.iload 6, 2) := by decide +kernel
theorem dX10_layOut_172 : decode cX10_layOut 172 = .ok (.iload_n 2, 1) := by decide +kernel
theorem dX10_layOut_173 : decode cX10_layOut 173 = .ok (.invokevirtual 220, 3) := by decide +kernel
theorem dX10_layOut_176 : decode cX10_layOut 176 = .ok (.ifCond .eq 103, 3) := by decide +kernel
theorem dX10_layOut_179 : decode cX10_layOut 179 = .ok (.aload_n 0, 1) := by decide +kernel
theorem dX10_layOut_180 : decode cX10_layOut 180 = .ok (.getfield 59, 3) := by decide +kernel
theorem dX10_layOut_183 : decode cX10_layOut 183 = .ok (.iload 6, 2) := by decide +kernel
theorem dX10_layOut_185 : decode cX10_layOut 185 = .ok (.aload_n 0, 1) := by decide +kernel
theorem dX10_layOut_186 : decode cX10_layOut 186 = .ok (.getfield 59, 3) := by decide +kernel
theorem dX10_layOut_189 : decode cX10_layOut 189 = .ok (.iload 6, 2) := by decide +kernel
theorem dX10_layOut_191 : decode cX10_layOut 191 = .ok (.iaload, 1) := by decide +kernel
theorem dX10_layOut_192 : decode cX10_layOut 192 = .ok (.iconst (-1), 1) := by decide +kernel
theorem dX10_layOut_193 : decode cX10_layOut 193 = .ok (.if_icmp .ne 15, 3) := by decide +kernel
theorem dX10_layOut_196 : decode cX10_layOut 196 = .ok (.aload_n 0, 1) := by decide +kernel
theorem dX10_layOut_197 : decode cX10_layOut 197 = .ok (.getfield 59, 3) := by decide +kernel
theorem dX10_layOut_200 : decode cX10_layOut 200 = .ok (.iload 5, 2) := by decide +kernel
theorem dX10_layOut_202 : decode cX10_layOut 202 = .ok (.iaload, 1) := by decide +kernel
theorem dX10_layOut_203 : decode cX10_layOut 203 = .ok (.iconst 1, 1) := by decide +kernel
theorem dX10_layOut_204 : decode cX10_layOut 204 = .ok (.iadd, 1) := by decide +kernel
theorem dX10_layOut_205 : decode cX10_layOut 205 = .ok (.goto 22, 3) := by decide +kernel
theorem dX10_layOut_208 : decode cX10_layOut 208 = .ok (.aload_n 0, 1) := by decide +kernel
theorem dX10_layOut_209 : decode cX10_layOut 209 = .ok (.getfield 59, 3) := by decide +kernel
theorem dX10_layOut_212 : decode cX10_layOut 212 = .ok (.iload 6, 2) := by decide +kernel
theorem dX10_layOut_214 : decode cX10_layOut 214 = .ok (.iaload, 1) := by decide +kernel
theorem dX10_layOut_215 : decode cX10_layOut 215 = .ok (.aload_n 0, 1) := by decide +kernel
theorem dX10_layOut_216 : decode cX10_layOut 216 = .ok (.getfield 59, 3) := by decide +kernel
theorem dX10_layOut_219 : decode cX10_layOut 219 = .ok (.iload 5, 2) := by decide +kernel
theorem dX10_layOut_221 : decode cX10_layOut 221 = .ok (.iaload, 1) := by decide +kernel
theorem dX10_layOut_222 : decode cX10_layOut 222 = .ok (.iconst 1, 1) := by decide +kernel
theorem dX10_layOut_223 : decode cX10_layOut 223 = .ok (.iadd, 1) := by decide +kernel
theorem dX10_layOut_224 : decode cX10_layOut 224 = .ok (.invokestatic 202, 3) := by decide +kernel
theorem dX10_layOut_227 : decode cX10_layOut 227 = .ok (.iastore, 1) := by decide +kernel
theorem dX10_layOut_228 : decode cX10_layOut 228 = .ok (.aload_n 0, 1) := by decide +kernel
theorem dX10_layOut_229 : decode cX10_layOut 229 = .ok (.getfield 62, 3) := by decide +kernel
theorem dX10_layOut_232 : decode cX10_layOut 232 = .ok (.iload 6, 2) := by decide +kernel
theorem dX10_layOut_234 : decode cX10_layOut 234 = .ok (.aload_n 0, 1) := by decide +kernel
theorem dX10_layOut_235 : decode cX10_layOut 235 = .ok (.getfield 62, 3) := by decide +kernel
theorem dX10_layOut_238 : decode cX10_layOut 238 = .ok (.iload 6, 2) := by decide +kernel
theorem dX10_layOut_240 : decode cX10_layOut 240 = .ok (.iaload, 1) := by decide +kernel
theorem dX10_layOut_241 : decode cX10_layOut 241 = .ok (.iconst (-1), 1) := by decide +kernel
theorem dX10_layOut_242 : decode cX10_layOut 242 = .ok (.if_icmp .ne 16, 3) := by decide +kernel
theorem dX10_layOut_245 : decode cX10_layOut 245 = .ok (.aload_n 0, 1) := by decide +kernel
theorem dX10_layOut_246 : decode cX10_layOut 246 = .ok (.getfield 62, 3) := by decide +kernel
theorem dX10_layOut_249 : decode cX10_layOut 249 = .ok (.iload 5, 2) := by decide +kernel
theorem dX10_layOut_251 : decode cX10_layOut 251 = .ok (.iaload, 1) := by decide +kernel
theorem dX10_layOut_252 : decode cX10_layOut 252 = .ok (.iload 9, 2) := by decide +kernel
theorem dX10_layOut_254 : decode cX10_layOut 254 = .ok (.iadd, 1) := by decide +kernel
theorem dX10_layOut_255 : decode cX10_layOut 255 = .ok (.goto 23, 3) := by decide +kernel
theorem dX10_layOut_258 : decode cX10_layOut 258 = .ok (.aload_n 0, 1) := by decide +kernel
theorem dX10_layOut_259 : decode cX10_layOut 259 = .ok (.getfield 62, 3) := by decide +kernel
theorem dX10_layOut_262 : decode cX10_layOut 262 = .ok (.iload 6, 2) := by decide +kernel
theorem dX10_layOut_264 : decode cX10_layOut 264 = .ok (.iaload, 1) := by decide +kernel
theorem dX10_layOut_265 : decode cX10_layOut 265 = .ok (.aload_n 0, 1) := by decide +kernel
theorem dX10_layOut_266 : decode cX10_layOut 266 = .ok (.getfield 62, 3) := by decide +kernel
theorem dX10_layOut_269 : decode cX10_layOut 269 = .ok (.iload 5, 2) := by decide +kernel
theorem dX10_layOut_271 : decode cX10_layOut 271 = .ok (.iaload, 1) := by decide +kernel
theorem dX10_layOut_272 : decode cX10_layOut 272 = .ok (.iload 9, 2) := by decide +kernel
theorem dX10_layOut_274 : decode cX10_layOut 274 = .ok (.iadd, 1) := by decide +kernel
theorem dX10_layOut_275 : decode cX10_layOut 275 = .ok (.invokestatic 202, 3) := by decide +kernel
theorem dX10_layOut_278 : decode cX10_layOut 278 = .ok (.iastore, 1) := by decide +kernel
theorem dX10_layOut_279 : decode cX10_layOut 279 = .ok (.iinc 6 1, 3) := by decide +kernel
theorem dX10_layOut_282 : decode cX10_layOut 282 = .ok (.goto (-211), 3) := by decide +kernel
theorem dX10_layOut_285 : decode cX10_layOut 285 = .ok (.iinc 5 1, 3) := by decide +kernel
theorem dX10_layOut_288 : decode cX10_layOut 288 = .ok (.goto (-227), 3) := by decide +kernel
theorem dX10_layOut_291 : decode cX10_layOut 291 = .ok (.iinc 4 1, 3) := by decide +kernel
theorem dX10_layOut_294 : decode cX10_layOut 294 = .ok (.goto (-243), 3) := by decide +kernel
theorem dX10_layOut_297 : decode cX10_layOut 297 = .ok (.return_, 1) := by decide +kernel
theorem dX10_legs_0 : decode cX10_legs 0 = .ok (.aload_n 0, 1) := by decide +kernel
theorem dX10_legs_1 : decode cX10_legs 1 = .ok (.iload_n 1, 1) := by decide +kernel
theorem dX10_legs_2 : decode cX10_legs 2 = .ok (.invokevirtual 169, 3) := by decide +kernel
theorem dX10_legs_5 : decode cX10_legs 5 = .ok (.ifCond .eq 11, 3) := by decide +kernel
theorem dX10_legs_8 : decode cX10_legs 8 = .ok (.aload_n 0, 1) := by decide +kernel
theorem dX10_legs_9 : decode cX10_legs 9 = .ok (.iload_n 2, 1) := by decide +kernel
theorem dX10_legs_10 : decode cX10_legs 10 = .ok (.invokevirtual 159, 3) := by decide +kernel
theorem dX10_legs_13 : decode cX10_legs 13 = .ok (.ifCond .ne 6, 3) := by decide +kernel
theorem dX10_legs_16 : decode cX10_legs 16 = .ok (.bipush (-2), 2) := by decide +kernel
theorem dX10_legs_18 : decode cX10_legs 18 = .ok (.ireturn, 1) := by decide +kernel
theorem dX10_legs_19 : decode cX10_legs 19 = .ok (.iload_n 3, 1) := by decide +kernel
theorem dX10_legs_20 : decode cX10_legs 20 = .ok (.iconst 0, 1) := by decide +kernel
theorem dX10_legs_21 : decode cX10_legs 21 = .ok (.sipush 9999, 3) := by decide +kernel
theorem dX10_legs_24 : decode cX10_legs 24 = .ok (.invokestatic 71, 3) := by decide +kernel
theorem dX10_legs_27 : decode cX10_legs 27 = .ok (.ifCond .eq 13, 3) := by decide +kernel
theorem dX10_legs_30 : decode cX10_legs 30 = .ok (.iload 5, 2) := by decide +kernel
theorem dX10_legs_32 : decode cX10_legs 32 = .ok (.iconst 0, 1) := by decide +kernel
theorem dX10_legs_33 : decode cX10_legs 33 = .ok (.iconst 1, 1) := by decide +kernel
theorem dX10_legs_34 : decode cX10_legs 34 = .ok (.invokestatic 71, 3) := by decide +kernel
theorem dX10_legs_37 : decode cX10_legs 37 = .ok (.ifCond .ne 6, 3) := by decide +kernel
theorem dX10_legs_40 : decode cX10_legs 40 = .ok (.bipush (-3), 2) := by decide +kernel
theorem dX10_legs_42 : decode cX10_legs 42 = .ok (.ireturn, 1) := by decide +kernel
theorem dX10_legs_43 : decode cX10_legs 43 = .ok (.aload_n 0, 1) := by decide +kernel
theorem dX10_legs_44 : decode cX10_legs 44 = .ok (.aload_n 0, 1) := by decide +kernel
theorem dX10_legs_45 : decode cX10_legs 45 = .ok (.getfield 16, 3) := by decide +kernel
theorem dX10_legs_48 : decode cX10_legs 48 = .ok (.bipush 6, 2) := by decide +kernel
theorem dX10_legs_50 : decode cX10_legs 50 = .ok (.iload_n 2, 1) := by decide +kernel
theorem dX10_legs_51 : decode cX10_legs 51 = .ok (.imul, 1) := by decide +kernel
theorem dX10_legs_52 : decode cX10_legs 52 = .ok (.iaload, 1) := by decide +kernel
theorem dX10_legs_53 : decode cX10_legs 53 = .ok (.iload_n 3, 1) := by decide +kernel
theorem dX10_legs_54 : decode cX10_legs 54 = .ok (.iload 4, 2) := by decide +kernel
theorem dX10_legs_56 : decode cX10_legs 56 = .ok (.invokevirtual 223, 3) := by decide +kernel
theorem dX10_legs_59 : decode cX10_legs 59 = .ok (.iload 5, 2) := by decide +kernel
theorem dX10_legs_61 : decode cX10_legs 61 = .ok (.ifCond .ne 17, 3) := by decide +kernel
theorem dX10_legs_64 : decode cX10_legs 64 = .ok (.aload_n 0, 1) := by decide +kernel
theorem dX10_legs_65 : decode cX10_legs 65 = .ok (.getfield 59, 3) := by decide +kernel
theorem dX10_legs_68 : decode cX10_legs 68 = .ok (.aload_n 0, 1) := by decide +kernel
theorem dX10_legs_69 : decode cX10_legs 69 = .ok (.iload_n 1, 1) := by decide +kernel
theorem dX10_legs_70 : decode cX10_legs 70 = .ok (.iconst 0, 1) := by decide +kernel
theorem dX10_legs_71 : decode cX10_legs 71 = .ok (.invokevirtual 172, 3) := by decide +kernel
theorem dX10_legs_74 : decode cX10_legs 74 = .ok (.iaload, 1) := by decide +kernel
theorem dX10_legs_75 : decode cX10_legs 75 = .ok (.goto 14, 3) := by decide +kernel
theorem dX10_legs_78 : decode cX10_legs 78 = .ok (.aload_n 0, 1) := by decide +kernel
theorem dX10_legs_79 : decode cX10_legs 79 = .ok (.getfield 62, 3) := by decide +kernel
theorem dX10_legs_82 : decode cX10_legs 82 = .ok (.aload_n 0, 1) := by decide +kernel
theorem dX10_legs_83 : decode cX10_legs 83 = .ok (.iload_n 1, 1) := by decide +kernel
theorem dX10_legs_84 : decode cX10_legs 84 = .ok (.iconst 0, 1) := by decide +kernel
theorem dX10_legs_85 : decode cX10_legs 85 = .ok (.invokevirtual 172, 3) := by decide +kernel
theorem dX10_legs_88 : decode cX10_legs 88 = .ok (.iaload, 1) := by decide +kernel
theorem dX10_legs_89 : decode cX10_legs 89 = .ok (.ireturn, 1) := by decide +kernel
theorem dX10_comesBy_0 : decode cX10_comesBy 0 = .ok (.aload_n 0, 1) := by decide +kernel
theorem dX10_comesBy_1 : decode cX10_comesBy 1 = .ok (.getfield 35, 3) := by decide +kernel
theorem dX10_comesBy_4 : decode cX10_comesBy 4 = .ok (.iload_n 1, 1) := by decide +kernel
theorem dX10_comesBy_5 : decode cX10_comesBy 5 = .ok (.iaload, 1) := by decide +kernel
theorem dX10_comesBy_6 : decode cX10_comesBy 6 = .ok (.aload_n 0, 1) := by decide +kernel
theorem dX10_comesBy_7 : decode cX10_comesBy 7 = .ok (.getfield 16, 3) := by decide +kernel
theorem dX10_comesBy_10 : decode cX10_comesBy 10 = .ok (.bipush 6, 2) := by decide +kernel
theorem dX10_comesBy_12 : decode cX10_comesBy 12 = .ok (.iload_n 2, 1) := by decide +kernel
theorem dX10_comesBy_13 : decode cX10_comesBy 13 = .ok (.imul, 1) := by decide +kernel
theorem dX10_comesBy_14 : decode cX10_comesBy 14 = .ok (.iconst 1, 1) := by decide +kernel
theorem dX10_comesBy_15 : decode cX10_comesBy 15 = .ok (.iadd, 1) := by decide +kernel
theorem dX10_comesBy_16 : decode cX10_comesBy 16 = .ok (.iaload, 1) := by decide +kernel
theorem dX10_comesBy_17 : decode cX10_comesBy 17 = .ok (.invokestatic 199, 3) := by decide +kernel
theorem dX10_comesBy_20 : decode cX10_comesBy 20 = .ok (.istore 5, 2) := by decide +kernel
theorem dX10_comesBy_22 : decode cX10_comesBy 22 = .ok (.iconst (-1), 1) := by decide +kernel
theorem dX10_comesBy_23 : decode cX10_comesBy 23 = .ok (.istore 6, 2) := by decide +kernel
theorem dX10_comesBy_25 : decode cX10_comesBy 25 = .ok (.iconst (-1), 1) := by decide +kernel
theorem dX10_comesBy_26 : decode cX10_comesBy 26 = .ok (.istore 7, 2) := by decide +kernel
theorem dX10_comesBy_28 : decode cX10_comesBy 28 = .ok (.iconst 0, 1) := by decide +kernel
theorem dX10_comesBy_29 : decode cX10_comesBy 29 = .ok (.istore 8, 2) := by decide +kernel
theorem dX10_comesBy_31 : decode cX10_comesBy 31 = .ok (.iload 8, 2) := by decide +kernel
theorem dX10_comesBy_33 : decode cX10_comesBy 33 = .ok (.bipush 21, 2) := by decide +kernel
theorem dX10_comesBy_35 : decode cX10_comesBy 35 = .ok (.if_icmp .ge 162, 3) := by decide +kernel
theorem dX10_comesBy_38 : decode cX10_comesBy 38 = .ok (.iload 8, 2) := by decide +kernel
theorem dX10_comesBy_40 : decode cX10_comesBy 40 = .ok (.bipush 20, 2) := by decide +kernel
theorem dX10_comesBy_42 : decode cX10_comesBy 42 = .ok (.if_icmp .ne 8, 3) := by decide +kernel
theorem dX10_comesBy_45 : decode cX10_comesBy 45 = .ok (.iload 5, 2) := by decide +kernel
theorem dX10_comesBy_47 : decode cX10_comesBy 47 = .ok (.goto 39, 3) := by decide +kernel
theorem dX10_comesBy_50 : decode cX10_comesBy 50 = .ok (.iload 8, 2) := by decide +kernel
theorem dX10_comesBy_52 : decode cX10_comesBy 52 = .ok (.iconst 2, 1) := by decide +kernel
theorem dX10_comesBy_53 : decode cX10_comesBy 53 = .ok (.irem, 1) := by decide +kernel
theorem dX10_comesBy_54 : decode cX10_comesBy 54 = .ok (.ifCond .ne 17, 3) := by decide +kernel
theorem dX10_comesBy_57 : decode cX10_comesBy 57 = .ok (.aload_n 0, 1) := by decide +kernel
theorem dX10_comesBy_58 : decode cX10_comesBy 58 = .ok (.getfield 7, 3) := by decide +kernel
theorem dX10_comesBy_61 : decode cX10_comesBy 61 = .ok (.iconst 3, 1) := by decide +kernel
theorem dX10_comesBy_62 : decode cX10_comesBy 62 = .ok (.iload 8, 2) := by decide +kernel
theorem dX10_comesBy_64 : decode cX10_comesBy 64 = .ok (.iconst 2, 1) := by decide +kernel
theorem dX10_comesBy_65 : decode cX10_comesBy 65 = .ok (.idiv, 1) := by decide +kernel
theorem dX10_comesBy_66 : decode cX10_comesBy 66 = .ok (.imul, 1) := by decide +kernel
theorem dX10_comesBy_67 : decode cX10_comesBy 67 = .ok (.iaload, 1) := by decide +kernel
theorem dX10_comesBy_68 : decode cX10_comesBy 68 = .ok (.goto 18, 3) := by decide +kernel
theorem dX10_comesBy_71 : decode cX10_comesBy 71 = .ok (.aload_n 0, 1) := by decide +kernel
theorem dX10_comesBy_72 : decode cX10_comesBy 72 = .ok (.getfield 7, 3) := by decide +kernel
theorem dX10_comesBy_75 : decode cX10_comesBy 75 = .ok (.iconst 3, 1) := by decide +kernel
theorem dX10_comesBy_76 : decode cX10_comesBy 76 = .ok (.iload 8, 2) := by decide +kernel
theorem dX10_comesBy_78 : decode cX10_comesBy 78 = .ok (.iconst 2, 1) := by decide +kernel
theorem dX10_comesBy_79 : decode cX10_comesBy 79 = .ok (.idiv, 1) := by decide +kernel
theorem dX10_comesBy_80 : decode cX10_comesBy 80 = .ok (.imul, 1) := by decide +kernel
theorem dX10_comesBy_81 : decode cX10_comesBy 81 = .ok (.iconst 1, 1) := by decide +kernel
theorem dX10_comesBy_82 : decode cX10_comesBy 82 = .ok (.iadd, 1) := by decide +kernel
theorem dX10_comesBy_83 : decode cX10_comesBy 83 = .ok (.iaload, 1) := by decide +kernel
theorem dX10_comesBy_84 : decode cX10_comesBy 84 = .ok (.iconst 1, 1) := by decide +kernel
theorem dX10_comesBy_85 : decode cX10_comesBy 85 = .ok (.iadd, 1) := by decide +kernel
theorem dX10_comesBy_86 : decode cX10_comesBy 86 = .ok (.istore 9, 2) := by decide +kernel
theorem dX10_comesBy_88 : decode cX10_comesBy 88 = .ok (.iload 9, 2) := by decide +kernel
theorem dX10_comesBy_90 : decode cX10_comesBy 90 = .ok (.iload 5, 2) := by decide +kernel
theorem dX10_comesBy_92 : decode cX10_comesBy 92 = .ok (.if_icmp .lt 99, 3) := by decide +kernel
theorem dX10_comesBy_95 : decode cX10_comesBy 95 = .ok (.iload 9, 2) := by decide +kernel
theorem dX10_comesBy_97 : decode cX10_comesBy 97 = .ok (.aload_n 0, 1) := by decide +kernel
theorem dX10_comesBy_98 : decode cX10_comesBy 98 = .ok (.getfield 50, 3) := by decide +kernel
theorem dX10_comesBy_101 : decode cX10_comesBy 101 = .ok (.iload_n 1, 1) := by decide +kernel
theorem dX10_comesBy_102 : decode cX10_comesBy 102 = .ok (.iaload, 1) := by decide +kernel
theorem dX10_comesBy_103 : decode cX10_comesBy 103 = .ok (.if_icmp .gt 88, 3) := by decide +kernel
theorem dX10_comesBy_106 : decode cX10_comesBy 106 = .ok (.aload_n 0, 1) := by decide +kernel
theorem dX10_comesBy_107 : decode cX10_comesBy 107 = .ok (.aload_n 0, 1) := by decide +kernel
theorem dX10_comesBy_108 : decode cX10_comesBy 108 = .ok (.getfield 16, 3) := by decide +kernel
theorem dX10_comesBy_111 : decode cX10_comesBy 111 = .ok (.bipush 6, 2) := by decide +kernel
theorem dX10_comesBy_113 : decode cX10_comesBy 113 = .ok (.iload_n 2, 1) := by decide +kernel
theorem dX10_comesBy_114 : decode cX10_comesBy 114 = .ok (.imul, 1) := by decide +kernel
theorem dX10_comesBy_115 : decode cX10_comesBy 115 = .ok (.iaload, 1) := by decide +kernel
theorem dX10_comesBy_116 : decode cX10_comesBy 116 = .ok (.iload 9, 2) := by decide +kernel
theorem dX10_comesBy_118 : decode cX10_comesBy 118 = .ok (.iload_n 3, 1) := by decide +kernel
theorem dX10_comesBy_119 : decode cX10_comesBy 119 = .ok (.invokevirtual 223, 3) := by decide +kernel
theorem dX10_comesBy_122 : decode cX10_comesBy 122 = .ok (.aload_n 0, 1) := by decide +kernel
theorem dX10_comesBy_123 : decode cX10_comesBy 123 = .ok (.getfield 59, 3) := by decide +kernel
theorem dX10_comesBy_126 : decode cX10_comesBy 126 = .ok (.aload_n 0, 1) := by decide +kernel
theorem dX10_comesBy_127 : decode cX10_comesBy 127 = .ok (.iload_n 1, 1) := by decide +kernel
theorem dX10_comesBy_128 : decode cX10_comesBy 128 = .ok (.iconst 0, 1) := by decide +kernel
theorem dX10_comesBy_129 : decode cX10_comesBy 129 = .ok (.invokevirtual 172, 3) := by decide +kernel
theorem dX10_comesBy_132 : decode cX10_comesBy 132 = .ok (.iaload, 1) := by decide +kernel
theorem dX10_comesBy_133 : decode cX10_comesBy 133 = .ok (.istore 10, 2) := by decide +kernel
theorem dX10_comesBy_135 : decode cX10_comesBy 135 = .ok (.iload 10, 2) := by decide +kernel
theorem dX10_comesBy_137 : decode cX10_comesBy 137 = .ok (.iconst (-1), 1) := by decide +kernel
theorem dX10_comesBy_138 : decode cX10_comesBy 138 = .ok (.if_icmp .eq 21, 3) := by decide +kernel
theorem dX10_comesBy_141 : decode cX10_comesBy 141 = .ok (.iload 7, 2) := by decide +kernel
theorem dX10_comesBy_143 : decode cX10_comesBy 143 = .ok (.iconst (-1), 1) := by decide +kernel
theorem dX10_comesBy_144 : decode cX10_comesBy 144 = .ok (.if_icmp .eq 10, 3) := by decide +kernel
theorem dX10_comesBy_147 : decode cX10_comesBy 147 = .ok (.iload 9, 2) := by decide +kernel
theorem dX10_comesBy_149 : decode cX10_comesBy 149 = .ok (.iload 7, 2) := by decide +kernel
theorem dX10_comesBy_151 : decode cX10_comesBy 151 = .ok (.if_icmp .ge 8, 3) := by decide +kernel
theorem dX10_comesBy_154 : decode cX10_comesBy 154 = .ok (.iload 9, 2) := by decide +kernel
theorem dX10_comesBy_156 : decode cX10_comesBy 156 = .ok (.goto 5, 3) := by decide +kernel
theorem dX10_comesBy_159 : decode cX10_comesBy 159 = .ok (.iload 7, 2) := by decide +kernel
theorem dX10_comesBy_161 : decode cX10_comesBy 161 = .ok (.istore 7, 2) := by decide +kernel
theorem dX10_comesBy_163 : decode cX10_comesBy 163 = .ok (.iload 10, 2) := by decide +kernel
theorem dX10_comesBy_165 : decode cX10_comesBy 165 = .ok (.iconst (-1), 1) := by decide +kernel
theorem dX10_comesBy_166 : decode cX10_comesBy 166 = .ok (.if_icmp .eq 21, 3) := by decide +kernel
theorem dX10_comesBy_169 : decode cX10_comesBy 169 = .ok (.iload 6, 2) := by decide +kernel
theorem dX10_comesBy_171 : decode cX10_comesBy 171 = .ok (.iconst (-1), 1) := by decide +kernel
theorem dX10_comesBy_172 : decode cX10_comesBy 172 = .ok (.if_icmp .eq 10, 3) := by decide +kernel
theorem dX10_comesBy_175 : decode cX10_comesBy 175 = .ok (.iload 10, 2) := by decide +kernel
theorem dX10_comesBy_177 : decode cX10_comesBy 177 = .ok (.iload 6, 2) := by decide +kernel
theorem dX10_comesBy_179 : decode cX10_comesBy 179 = .ok (.if_icmp .ge 8, 3) := by decide +kernel
theorem dX10_comesBy_182 : decode cX10_comesBy 182 = .ok (.iload 10, 2) := by decide +kernel
theorem dX10_comesBy_184 : decode cX10_comesBy 184 = .ok (.goto 5, 3) := by decide +kernel
theorem dX10_comesBy_187 : decode cX10_comesBy 187 = .ok (.iload 6, 2) := by decide +kernel
theorem dX10_comesBy_189 : decode cX10_comesBy 189 = .ok (.istore 6, 2) := by decide +kernel
theorem dX10_comesBy_191 : decode cX10_comesBy 191 = .ok (.iinc 8 1, 3) := by decide +kernel
theorem dX10_comesBy_194 : decode cX10_comesBy 194 = .ok (.goto (-163), 3) := by decide +kernel
theorem dX10_comesBy_197 : decode cX10_comesBy 197 = .ok (.iload 4, 2) := by decide +kernel
theorem dX10_comesBy_199 : decode cX10_comesBy 199 = .ok (.ifCond .ne 8, 3) := by decide +kernel
theorem dX10_comesBy_202 : decode cX10_comesBy 202 = .ok (.iload 7, 2) := by decide +kernel
theorem dX10_comesBy_204 : decode cX10_comesBy 204 = .ok (.goto 5, 3) := by decide +kernel
theorem dX10_comesBy_207 : decode cX10_comesBy 207 = .ok (.iload 6, 2) := by decide +kernel
theorem dX10_comesBy_209 : decode cX10_comesBy 209 = .ok (.ireturn, 1) := by decide +kernel
theorem dX10_reach_0 : decode cX10_reach 0 = .ok (.aload_n 0, 1) := by decide +kernel
theorem dX10_reach_1 : decode cX10_reach 1 = .ok (.iload_n 1, 1) := by decide +kernel
theorem dX10_reach_2 : decode cX10_reach 2 = .ok (.invokevirtual 169, 3) := by decide +kernel
theorem dX10_reach_5 : decode cX10_reach 5 = .ok (.ifCond .eq 11, 3) := by decide +kernel
theorem dX10_reach_8 : decode cX10_reach 8 = .ok (.aload_n 0, 1) := by decide +kernel
theorem dX10_reach_9 : decode cX10_reach 9 = .ok (.iload_n 2, 1) := by decide +kernel
theorem dX10_reach_10 : decode cX10_reach 10 = .ok (.invokevirtual 159, 3) := by decide +kernel
theorem dX10_reach_13 : decode cX10_reach 13 = .ok (.ifCond .ne 6, 3) := by decide +kernel
theorem dX10_reach_16 : decode cX10_reach 16 = .ok (.bipush (-2), 2) := by decide +kernel
theorem dX10_reach_18 : decode cX10_reach 18 = .ok (.ireturn, 1) := by decide +kernel
theorem dX10_reach_19 : decode cX10_reach 19 = .ok (.iload 4, 2) := by decide +kernel
theorem dX10_reach_21 : decode cX10_reach 21 = .ok (.iconst 0, 1) := by decide +kernel
theorem dX10_reach_22 : decode cX10_reach 22 = .ok (.iconst 1, 1) := by decide +kernel
theorem dX10_reach_23 : decode cX10_reach 23 = .ok (.invokestatic 71, 3) := by decide +kernel
theorem dX10_reach_26 : decode cX10_reach 26 = .ok (.ifCond .ne 6, 3) := by decide +kernel
theorem dX10_reach_29 : decode cX10_reach 29 = .ok (.bipush (-3), 2) := by decide +kernel
theorem dX10_reach_31 : decode cX10_reach 31 = .ok (.ireturn, 1) := by decide +kernel
theorem dX10_reach_32 : decode cX10_reach 32 = .ok (.aload_n 0, 1) := by decide +kernel
theorem dX10_reach_33 : decode cX10_reach 33 = .ok (.invokevirtual 214, 3) := by decide +kernel
theorem dX10_reach_36 : decode cX10_reach 36 = .ok (.ifCond .eq 15, 3) := by decide +kernel
theorem dX10_reach_39 : decode cX10_reach 39 = .ok (.aload_n 0, 1) := by decide +kernel
theorem dX10_reach_40 : decode cX10_reach 40 = .ok (.iload_n 1, 1) := by decide +kernel
theorem dX10_reach_41 : decode cX10_reach 41 = .ok (.iload_n 2, 1) := by decide +kernel
theorem dX10_reach_42 : decode cX10_reach 42 = .ok (.iload_n 3, 1) := by decide +kernel
theorem dX10_reach_43 : decode cX10_reach 43 = .ok (.iload 4, 2) := by decide +kernel
theorem dX10_reach_45 : decode cX10_reach 45 = .ok (.invokevirtual 227, 3) := by decide +kernel
theorem dX10_reach_48 : decode cX10_reach 48 = .ok (.goto 4, 3) := by decide +kernel
theorem dX10_reach_51 : decode cX10_reach 51 = .ok (.iconst (-1), 1) := by decide +kernel
theorem dX10_reach_52 : decode cX10_reach 52 = .ok (.ireturn, 1) := by decide +kernel
theorem dX10_byBoat_0 : decode cX10_byBoat 0 = .ok (.aload_n 0, 1) := by decide +kernel
theorem dX10_byBoat_1 : decode cX10_byBoat 1 = .ok (.invokevirtual 214, 3) := by decide +kernel
theorem dX10_byBoat_4 : decode cX10_byBoat 4 = .ok (.ifCond .ne 5, 3) := by decide +kernel
theorem dX10_byBoat_7 : decode cX10_byBoat 7 = .ok (.iconst 0, 1) := by decide +kernel
theorem dX10_byBoat_8 : decode cX10_byBoat 8 = .ok (.ireturn, 1) := by decide +kernel
theorem dX10_byBoat_9 : decode cX10_byBoat 9 = .ok (.iconst 0, 1) := by decide +kernel
theorem dX10_byBoat_10 : decode cX10_byBoat 10 = .ok (.istore_n 1, 1) := by decide +kernel
theorem dX10_byBoat_11 : decode cX10_byBoat 11 = .ok (.iconst 0, 1) := by decide +kernel
theorem dX10_byBoat_12 : decode cX10_byBoat 12 = .ok (.istore_n 2, 1) := by decide +kernel
theorem dX10_byBoat_13 : decode cX10_byBoat 13 = .ok (.iload_n 2, 1) := by decide +kernel
theorem dX10_byBoat_14 : decode cX10_byBoat 14 = .ok (.aload_n 0, 1) := by decide +kernel
theorem dX10_byBoat_15 : decode cX10_byBoat 15 = .ok (.getfield 78, 3) := by decide +kernel
theorem dX10_byBoat_18 : decode cX10_byBoat 18 = .ok (.if_icmp .ge 117, 3) := by decide +kernel
theorem dX10_byBoat_21 : decode cX10_byBoat 21 = .ok (.aload_n 0, 1) := by decide +kernel
theorem dX10_byBoat_22 : decode cX10_byBoat 22 = .ok (.iload_n 2, 1) := by decide +kernel
theorem dX10_byBoat_23 : decode cX10_byBoat 23 = .ok (.invokevirtual 179, 3) := by decide +kernel
theorem dX10_byBoat_26 : decode cX10_byBoat 26 = .ok (.istore_n 3, 1) := by decide +kernel
theorem dX10_byBoat_27 : decode cX10_byBoat 27 = .ok (.iconst 0, 1) := by decide +kernel
theorem dX10_byBoat_28 : decode cX10_byBoat 28 = .ok (.istore 4, 2) := by decide +kernel
theorem dX10_byBoat_30 : decode cX10_byBoat 30 = .ok (.iconst 0, 1) := by decide +kernel
theorem dX10_byBoat_31 : decode cX10_byBoat 31 = .ok (.istore 5, 2) := by decide +kernel
theorem dX10_byBoat_33 : decode cX10_byBoat 33 = .ok (.iconst 0, 1) := by decide +kernel
theorem dX10_byBoat_34 : decode cX10_byBoat 34 = .ok (.istore 6, 2) := by decide +kernel
theorem dX10_byBoat_36 : decode cX10_byBoat 36 = .ok (.iload 6, 2) := by decide +kernel
theorem dX10_byBoat_38 : decode cX10_byBoat 38 = .ok (.bipush 9, 2) := by decide +kernel
theorem dX10_byBoat_40 : decode cX10_byBoat 40 = .ok (.if_icmp .ge 69, 3) := by decide +kernel
theorem dX10_byBoat_43 : decode cX10_byBoat 43 = .ok (.iload_n 3, 1) := by decide +kernel
theorem dX10_byBoat_44 : decode cX10_byBoat 44 = .ok (.iload 6, 2) := by decide +kernel
theorem dX10_byBoat_46 : decode cX10_byBoat 46 = .ok (.ishr, 1) := by decide +kernel
theorem dX10_byBoat_47 : decode cX10_byBoat 47 = .ok (.iconst 1, 1) := by decide +kernel
theorem dX10_byBoat_48 : decode cX10_byBoat 48 = .ok (.iand, 1) := by decide +kernel
theorem dX10_byBoat_49 : decode cX10_byBoat 49 = .ok (.iconst 1, 1) := by decide +kernel
theorem dX10_byBoat_50 : decode cX10_byBoat 50 = .ok (.if_icmp .ne 53, 3) := by decide +kernel
theorem dX10_byBoat_53 : decode cX10_byBoat 53 = .ok (.iload 4, 2) := by decide +kernel
theorem dX10_byBoat_55 : decode cX10_byBoat 55 = .ok (.ifCond .ne 16, 3) := by decide +kernel
theorem dX10_byBoat_58 : decode cX10_byBoat 58 = .ok (.aload_n 0, 1) := by decide +kernel
theorem dX10_byBoat_59 : decode cX10_byBoat 59 = .ok (.iload_n 2, 1) := by decide +kernel
theorem dX10_byBoat_60 : decode cX10_byBoat 60 = .ok (.iload 6, 2) := by decide +kernel
theorem dX10_byBoat_62 : decode cX10_byBoat 62 = .ok (.iconst 0, 1) := by decide +kernel
theorem dX10_byBoat_63 : decode cX10_byBoat 63 = .ok (.iconst 0, 1) := by decide +kernel
theorem dX10_byBoat_64 : decode cX10_byBoat 64 = .ok (.invokevirtual 227, 3) := by decide +kernel
theorem dX10_byBoat_67 : decode cX10_byBoat 67 = .ok (.iconst (-1), 1) := by decide +kernel
theorem dX10_byBoat_68 : decode cX10_byBoat 68 = .ok (.if_icmp .eq 7, 3) := by decide +kernel
theorem dX10_byBoat_71 : decode cX10_byBoat 71 = .ok (.iconst 1, 1) := by decide +kernel
theorem dX10_byBoat_72 : decode cX10_byBoat 72 = .ok (.goto 4, 3) := by decide +kernel
theorem dX10_byBoat_75 : decode cX10_byBoat 75 = .ok (.iconst 0, 1) := by decide +kernel
theorem dX10_byBoat_76 : decode cX10_byBoat 76 = .ok (.istore 4, 2) := by decide +kernel
theorem dX10_byBoat_78 : decode cX10_byBoat 78 = .ok (.iload 5, 2) := by decide +kernel
theorem dX10_byBoat_80 : decode cX10_byBoat 80 = .ok (.ifCond .ne 16, 3) := by decide +kernel
theorem dX10_byBoat_83 : decode cX10_byBoat 83 = .ok (.aload_n 0, 1) := by decide +kernel
theorem dX10_byBoat_84 : decode cX10_byBoat 84 = .ok (.iload_n 2, 1) := by decide +kernel
theorem dX10_byBoat_85 : decode cX10_byBoat 85 = .ok (.iload 6, 2) := by decide +kernel
theorem dX10_byBoat_87 : decode cX10_byBoat 87 = .ok (.iconst 1, 1) := by decide +kernel
theorem dX10_byBoat_88 : decode cX10_byBoat 88 = .ok (.iconst 0, 1) := by decide +kernel
theorem dX10_byBoat_89 : decode cX10_byBoat 89 = .ok (.invokevirtual 227, 3) := by decide +kernel
theorem dX10_byBoat_92 : decode cX10_byBoat 92 = .ok (.iconst (-1), 1) := by decide +kernel
theorem dX10_byBoat_93 : decode cX10_byBoat 93 = .ok (.if_icmp .eq 7, 3) := by decide +kernel
theorem dX10_byBoat_96 : decode cX10_byBoat 96 = .ok (.iconst 1, 1) := by decide +kernel
theorem dX10_byBoat_97 : decode cX10_byBoat 97 = .ok (.goto 4, 3) := by decide +kernel
theorem dX10_byBoat_100 : decode cX10_byBoat 100 = .ok (.iconst 0, 1) := by decide +kernel
theorem dX10_byBoat_101 : decode cX10_byBoat 101 = .ok (.istore 5, 2) := by decide +kernel
theorem dX10_byBoat_103 : decode cX10_byBoat 103 = .ok (.iinc 6 1, 3) := by decide +kernel
theorem dX10_byBoat_106 : decode cX10_byBoat 106 = .ok (.goto (-70), 3) := by decide +kernel
theorem dX10_byBoat_109 : decode cX10_byBoat 109 = .ok (.iload_n 1, 1) := by decide +kernel
theorem dX10_byBoat_110 : decode cX10_byBoat 110 = .ok (.iload 5, 2) := by decide +kernel
theorem dX10_byBoat_112 : decode cX10_byBoat 112 = .ok (.ifCond .eq 14, 3) := by decide +kernel
theorem dX10_byBoat_115 : decode cX10_byBoat 115 = .ok (.iload 4, 2) := by decide +kernel
theorem dX10_byBoat_117 : decode cX10_byBoat 117 = .ok (.ifCond .ne 9, 3) := by decide +kernel
theorem dX10_byBoat_120 : decode cX10_byBoat 120 = .ok (.iconst 1, 1) := by decide +kernel
theorem dX10_byBoat_121 : decode cX10_byBoat 121 = .ok (.iload_n 2, 1) := by decide +kernel
theorem dX10_byBoat_122 : decode cX10_byBoat 122 = .ok (.ishl, 1) := by decide +kernel
theorem dX10_byBoat_123 : decode cX10_byBoat 123 = .ok (.goto 4, 3) := by decide +kernel
theorem dX10_byBoat_126 : decode cX10_byBoat 126 = .ok (.iconst 0, 1) := by decide +kernel
theorem dX10_byBoat_127 : decode cX10_byBoat 127 = .ok (.ior, 1) := by decide +kernel
theorem dX10_byBoat_128 : decode cX10_byBoat 128 = .ok (.istore_n 1, 1) := by decide +kernel
theorem dX10_byBoat_129 : decode cX10_byBoat 129 = .ok (.iinc 2 1, 3) := by decide +kernel
theorem dX10_byBoat_132 : decode cX10_byBoat 132 = .ok (.goto (-119), 3) := by decide +kernel
theorem dX10_byBoat_135 : decode cX10_byBoat 135 = .ok (.iload_n 1, 1) := by decide +kernel
theorem dX10_byBoat_136 : decode cX10_byBoat 136 = .ok (.ireturn, 1) := by decide +kernel
theorem dX10_boats_0 : decode cX10_boats 0 = .ok (.aload_n 0, 1) := by decide +kernel
theorem dX10_boats_1 : decode cX10_boats 1 = .ok (.invokevirtual 231, 3) := by decide +kernel
theorem dX10_boats_4 : decode cX10_boats 4 = .ok (.ireturn, 1) := by decide +kernel
theorem dX10_sea_0 : decode cX10_sea 0 = .ok (.aload_n 0, 1) := by decide +kernel
theorem dX10_sea_1 : decode cX10_sea 1 = .ok (.invokevirtual 231, 3) := by decide +kernel
theorem dX10_sea_4 : decode cX10_sea 4 = .ok (.istore_n 1, 1) := by decide +kernel
theorem dX10_sea_5 : decode cX10_sea 5 = .ok (.iconst (-1), 1) := by decide +kernel
theorem dX10_sea_6 : decode cX10_sea 6 = .ok (.istore_n 2, 1) := by decide +kernel
theorem dX10_sea_7 : decode cX10_sea 7 = .ok (.iconst 0, 1) := by decide +kernel
theorem dX10_sea_8 : decode cX10_sea 8 = .ok (.istore_n 3, 1) := by decide +kernel
theorem dX10_sea_9 : decode cX10_sea 9 = .ok (.iload_n 3, 1) := by decide +kernel
theorem dX10_sea_10 : decode cX10_sea 10 = .ok (.aload_n 0, 1) := by decide +kernel
theorem dX10_sea_11 : decode cX10_sea 11 = .ok (.getfield 78, 3) := by decide +kernel
theorem dX10_sea_14 : decode cX10_sea 14 = .ok (.if_icmp .ge 44, 3) := by decide +kernel
theorem dX10_sea_17 : decode cX10_sea 17 = .ok (.iload_n 1, 1) := by decide +kernel
theorem dX10_sea_18 : decode cX10_sea 18 = .ok (.iload_n 3, 1) := by decide +kernel
theorem dX10_sea_19 : decode cX10_sea 19 = .ok (.ishr, 1) := by decide +kernel
theorem dX10_sea_20 : decode cX10_sea 20 = .ok (.iconst 1, 1) := by decide +kernel
theorem dX10_sea_21 : decode cX10_sea 21 = .ok (.iand, 1) := by decide +kernel
theorem dX10_sea_22 : decode cX10_sea 22 = .ok (.iconst 1, 1) := by decide +kernel
theorem dX10_sea_23 : decode cX10_sea 23 = .ok (.if_icmp .ne 27, 3) := by decide +kernel
theorem dX10_sea_26 : decode cX10_sea 26 = .ok (.iload_n 2, 1) := by decide +kernel
theorem dX10_sea_27 : decode cX10_sea 27 = .ok (.iconst (-1), 1) := by decide +kernel
theorem dX10_sea_28 : decode cX10_sea 28 = .ok (.if_icmp .eq 13, 3) := by decide +kernel
theorem dX10_sea_31 : decode cX10_sea 31 = .ok (.aload_n 0, 1) := by decide +kernel
theorem dX10_sea_32 : decode cX10_sea 32 = .ok (.getfield 50, 3) := by decide +kernel
theorem dX10_sea_35 : decode cX10_sea 35 = .ok (.iload_n 3, 1) := by decide +kernel
theorem dX10_sea_36 : decode cX10_sea 36 = .ok (.iaload, 1) := by decide +kernel
theorem dX10_sea_37 : decode cX10_sea 37 = .ok (.iload_n 2, 1) := by decide +kernel
theorem dX10_sea_38 : decode cX10_sea 38 = .ok (.if_icmp .ge 12, 3) := by decide +kernel
theorem dX10_sea_41 : decode cX10_sea 41 = .ok (.aload_n 0, 1) := by decide +kernel
theorem dX10_sea_42 : decode cX10_sea 42 = .ok (.getfield 50, 3) := by decide +kernel
theorem dX10_sea_45 : decode cX10_sea 45 = .ok (.iload_n 3, 1) := by decide +kernel
theorem dX10_sea_46 : decode cX10_sea 46 = .ok (.iaload, 1) := by decide +kernel
theorem dX10_sea_47 : decode cX10_sea 47 = .ok (.goto 4, 3) := by decide +kernel
theorem dX10_sea_50 : decode cX10_sea 50 = .ok (.iload_n 2, 1) := by decide +kernel
theorem dX10_sea_51 : decode cX10_sea 51 = .ok (.istore_n 2, 1) := by decide +kernel
theorem dX10_sea_52 : decode cX10_sea 52 = .ok (.iinc 3 1, 3) := by decide +kernel
theorem dX10_sea_55 : decode cX10_sea 55 = .ok (.goto (-46), 3) := by decide +kernel
theorem dX10_sea_58 : decode cX10_sea 58 = .ok (.iload_n 2, 1) := by decide +kernel
theorem dX10_sea_59 : decode cX10_sea 59 = .ok (.ireturn, 1) := by decide +kernel
theorem dX10_next_0 : decode cX10_next 0 = .ok (.iconst (-1), 1) := by decide +kernel
theorem dX10_next_1 : decode cX10_next 1 = .ok (.istore_n 1, 1) := by decide +kernel
theorem dX10_next_2 : decode cX10_next 2 = .ok (.iconst 0, 1) := by decide +kernel
theorem dX10_next_3 : decode cX10_next 3 = .ok (.istore_n 2, 1) := by decide +kernel
theorem dX10_next_4 : decode cX10_next 4 = .ok (.iload_n 2, 1) := by decide +kernel
theorem dX10_next_5 : decode cX10_next 5 = .ok (.aload_n 0, 1) := by decide +kernel
theorem dX10_next_6 : decode cX10_next 6 = .ok (.getfield 78, 3) := by decide +kernel
theorem dX10_next_9 : decode cX10_next 9 = .ok (.if_icmp .ge 75, 3) := by decide +kernel
theorem dX10_next_12 : decode cX10_next 12 = .ok (.aload_n 0, 1) := by decide +kernel
theorem dX10_next_13 : decode cX10_next 13 = .ok (.iload_n 2, 1) := by decide +kernel
theorem dX10_next_14 : decode cX10_next 14 = .ok (.invokevirtual 179, 3) := by decide +kernel
theorem dX10_next_17 : decode cX10_next 17 = .ok (.invokestatic 183, 3) := by decide +kernel
theorem dX10_next_20 : decode cX10_next 20 = .ok (.istore_n 3, 1) := by decide +kernel
theorem dX10_next_21 : decode cX10_next 21 = .ok (.iload_n 1, 1) := by decide +kernel
theorem dX10_next_22 : decode cX10_next 22 = .ok (.iconst (-1), 1) := by decide +kernel
theorem dX10_next_23 : decode cX10_next 23 = .ok (.if_icmp .ne 7, 3) := by decide +kernel
theorem dX10_next_26 : decode cX10_next 26 = .ok (.iconst 1, 1) := by decide +kernel
theorem dX10_next_27 : decode cX10_next 27 = .ok (.goto 11, 3) := by decide +kernel
theorem dX10_next_30 : decode cX10_next 30 = .ok (.aload_n 0, 1) := by decide +kernel
theorem dX10_next_31 : decode cX10_next 31 = .ok (.iload_n 1, 1) := by decide +kernel
theorem dX10_next_32 : decode cX10_next 32 = .ok (.invokevirtual 179, 3) := by decide +kernel
theorem dX10_next_35 : decode cX10_next 35 = .ok (.invokestatic 183, 3) := by decide +kernel
theorem dX10_next_38 : decode cX10_next 38 = .ok (.istore 4, 2) := by decide +kernel
theorem dX10_next_40 : decode cX10_next 40 = .ok (.iload_n 3, 1) := by decide +kernel
theorem dX10_next_41 : decode cX10_next 41 = .ok (.iload 4, 2) := by decide +kernel
theorem dX10_next_43 : decode cX10_next 43 = .ok (.if_icmp .gt 29, 3) := by decide +kernel
theorem dX10_next_46 : decode cX10_next 46 = .ok (.iload_n 3, 1) := by decide +kernel
theorem dX10_next_47 : decode cX10_next 47 = .ok (.iload 4, 2) := by decide +kernel
theorem dX10_next_49 : decode cX10_next 49 = .ok (.if_icmp .ne 27, 3) := by decide +kernel
theorem dX10_next_52 : decode cX10_next 52 = .ok (.iload_n 1, 1) := by decide +kernel
theorem dX10_next_53 : decode cX10_next 53 = .ok (.iconst (-1), 1) := by decide +kernel
theorem dX10_next_54 : decode cX10_next 54 = .ok (.if_icmp .eq 22, 3) := by decide +kernel
theorem dX10_next_57 : decode cX10_next 57 = .ok (.aload_n 0, 1) := by decide +kernel
theorem dX10_next_58 : decode cX10_next 58 = .ok (.iload_n 2, 1) := by decide +kernel
theorem dX10_next_59 : decode cX10_next 59 = .ok (.iconst 4, 1) := by decide +kernel
theorem dX10_next_60 : decode cX10_next 60 = .ok (.invokevirtual 172, 3) := by decide +kernel
theorem dX10_next_63 : decode cX10_next 63 = .ok (.aload_n 0, 1) := by decide +kernel
theorem dX10_next_64 : decode cX10_next 64 = .ok (.iload_n 1, 1) := by decide +kernel
theorem dX10_next_65 : decode cX10_next 65 = .ok (.iconst 4, 1) := by decide +kernel
theorem dX10_next_66 : decode cX10_next 66 = .ok (.invokevirtual 172, 3) := by decide +kernel
theorem dX10_next_69 : decode cX10_next 69 = .ok (.if_icmp .le 7, 3) := by decide +kernel
theorem dX10_next_72 : decode cX10_next 72 = .ok (.iload_n 2, 1) := by decide +kernel
theorem dX10_next_73 : decode cX10_next 73 = .ok (.goto 4, 3) := by decide +kernel
theorem dX10_next_76 : decode cX10_next 76 = .ok (.iload_n 1, 1) := by decide +kernel
theorem dX10_next_77 : decode cX10_next 77 = .ok (.istore_n 1, 1) := by decide +kernel
theorem dX10_next_78 : decode cX10_next 78 = .ok (.iinc 2 1, 3) := by decide +kernel
theorem dX10_next_81 : decode cX10_next 81 = .ok (.goto (-77), 3) := by decide +kernel
theorem dX10_next_84 : decode cX10_next 84 = .ok (.iload_n 1, 1) := by decide +kernel
theorem dX10_next_85 : decode cX10_next 85 = .ok (.ireturn, 1) := by decide +kernel
theorem dX10_counts_0 : decode cX10_counts 0 = .ok (.iload_n 1, 1) := by decide +kernel
theorem dX10_counts_1 : decode cX10_counts 1 = .ok (.invokestatic 156, 3) := by decide +kernel
theorem dX10_counts_4 : decode cX10_counts 4 = .ok (.ifCond .eq 11, 3) := by decide +kernel
theorem dX10_counts_7 : decode cX10_counts 7 = .ok (.aload_n 0, 1) := by decide +kernel
theorem dX10_counts_8 : decode cX10_counts 8 = .ok (.iload_n 2, 1) := by decide +kernel
theorem dX10_counts_9 : decode cX10_counts 9 = .ok (.invokevirtual 159, 3) := by decide +kernel
theorem dX10_counts_12 : decode cX10_counts 12 = .ok (.ifCond .ne 6, 3) := by decide +kernel
theorem dX10_counts_15 : decode cX10_counts 15 = .ok (.bipush (-2), 2) := by decide +kernel
theorem dX10_counts_17 : decode cX10_counts 17 = .ok (.ireturn, 1) := by decide +kernel
theorem dX10_counts_18 : decode cX10_counts 18 = .ok (.iload 4, 2) := by decide +kernel
theorem dX10_counts_20 : decode cX10_counts 20 = .ok (.iconst 1, 1) := by decide +kernel
theorem dX10_counts_21 : decode cX10_counts 21 = .ok (.sipush 999, 3) := by decide +kernel
theorem dX10_counts_24 : decode cX10_counts 24 = .ok (.invokestatic 71, 3) := by decide +kernel
theorem dX10_counts_27 : decode cX10_counts 27 = .ok (.ifCond .eq 13, 3) := by decide +kernel
theorem dX10_counts_30 : decode cX10_counts 30 = .ok (.iload_n 3, 1) := by decide +kernel
theorem dX10_counts_31 : decode cX10_counts 31 = .ok (.iconst 0, 1) := by decide +kernel
theorem dX10_counts_32 : decode cX10_counts 32 = .ok (.iload 4, 2) := by decide +kernel
theorem dX10_counts_34 : decode cX10_counts 34 = .ok (.invokestatic 71, 3) := by decide +kernel
theorem dX10_counts_37 : decode cX10_counts 37 = .ok (.ifCond .ne 6, 3) := by decide +kernel
theorem dX10_counts_40 : decode cX10_counts 40 = .ok (.bipush (-3), 2) := by decide +kernel
theorem dX10_counts_42 : decode cX10_counts 42 = .ok (.ireturn, 1) := by decide +kernel
theorem dX10_counts_43 : decode cX10_counts 43 = .ok (.aload_n 0, 1) := by decide +kernel
theorem dX10_counts_44 : decode cX10_counts 44 = .ok (.getfield 65, 3) := by decide +kernel
theorem dX10_counts_47 : decode cX10_counts 47 = .ok (.bipush 10, 2) := by decide +kernel
theorem dX10_counts_49 : decode cX10_counts 49 = .ok (.iload_n 2, 1) := by decide +kernel
theorem dX10_counts_50 : decode cX10_counts 50 = .ok (.imul, 1) := by decide +kernel
theorem dX10_counts_51 : decode cX10_counts 51 = .ok (.iload_n 1, 1) := by decide +kernel
theorem dX10_counts_52 : decode cX10_counts 52 = .ok (.iadd, 1) := by decide +kernel
theorem dX10_counts_53 : decode cX10_counts 53 = .ok (.iload_n 3, 1) := by decide +kernel
theorem dX10_counts_54 : decode cX10_counts 54 = .ok (.iastore, 1) := by decide +kernel
theorem dX10_counts_55 : decode cX10_counts 55 = .ok (.aload_n 0, 1) := by decide +kernel
theorem dX10_counts_56 : decode cX10_counts 56 = .ok (.getfield 68, 3) := by decide +kernel
theorem dX10_counts_59 : decode cX10_counts 59 = .ok (.bipush 10, 2) := by decide +kernel
theorem dX10_counts_61 : decode cX10_counts 61 = .ok (.iload_n 2, 1) := by decide +kernel
theorem dX10_counts_62 : decode cX10_counts 62 = .ok (.imul, 1) := by decide +kernel
theorem dX10_counts_63 : decode cX10_counts 63 = .ok (.iload_n 1, 1) := by decide +kernel
theorem dX10_counts_64 : decode cX10_counts 64 = .ok (.iadd, 1) := by decide +kernel
theorem dX10_counts_65 : decode cX10_counts 65 = .ok (.iload 4, 2) := by decide +kernel
theorem dX10_counts_67 : decode cX10_counts 67 = .ok (.iastore, 1) := by decide +kernel
theorem dX10_counts_68 : decode cX10_counts 68 = .ok (.iconst 1, 1) := by decide +kernel
theorem dX10_counts_69 : decode cX10_counts 69 = .ok (.ireturn, 1) := by decide +kernel
theorem dX10_shareBy_0 : decode cX10_shareBy 0 = .ok (.iload_n 0, 1) := by decide +kernel
theorem dX10_shareBy_1 : decode cX10_shareBy 1 = .ok (.iconst 1, 1) := by decide +kernel
theorem dX10_shareBy_2 : decode cX10_shareBy 2 = .ok (.if_icmp .ne 18, 3) := by decide +kernel
theorem dX10_shareBy_5 : decode cX10_shareBy 5 = .ok (.iconst 0, 1) := by decide +kernel
theorem dX10_shareBy_6 : decode cX10_shareBy 6 = .ok (.sipush 1000, 3) := by decide +kernel
theorem dX10_shareBy_9 : decode cX10_shareBy 9 = .ok (.iload_n 1, 1) := by decide +kernel
theorem dX10_shareBy_10 : decode cX10_shareBy 10 = .ok (.iload_n 2, 1) := by decide +kernel
theorem dX10_shareBy_11 : decode cX10_shareBy 11 = .ok (.imul, 1) := by decide +kernel
theorem dX10_shareBy_12 : decode cX10_shareBy 12 = .ok (.bipush 10, 2) := by decide +kernel
theorem dX10_shareBy_14 : decode cX10_shareBy 14 = .ok (.idiv, 1) := by decide +kernel
theorem dX10_shareBy_15 : decode cX10_shareBy 15 = .ok (.isub, 1) := by decide +kernel
theorem dX10_shareBy_16 : decode cX10_shareBy 16 = .ok (.invokestatic 199, 3) := by decide +kernel
theorem dX10_shareBy_19 : decode cX10_shareBy 19 = .ok (.ireturn, 1) := by decide +kernel
theorem dX10_shareBy_20 : decode cX10_shareBy 20 = .ok (.iload_n 0, 1) := by decide +kernel
theorem dX10_shareBy_21 : decode cX10_shareBy 21 = .ok (.iconst 2, 1) := by decide +kernel
theorem dX10_shareBy_22 : decode cX10_shareBy 22 = .ok (.if_icmp .ne 20, 3) := by decide +kernel
theorem dX10_shareBy_25 : decode cX10_shareBy 25 = .ok (.iload_n 2, 1) := by decide +kernel
theorem dX10_shareBy_26 : decode cX10_shareBy 26 = .ok (.bipush 10, 2) := by decide +kernel
theorem dX10_shareBy_28 : decode cX10_shareBy 28 = .ok (.iload_n 1, 1) := by decide +kernel
theorem dX10_shareBy_29 : decode cX10_shareBy 29 = .ok (.imul, 1) := by decide +kernel
theorem dX10_shareBy_30 : decode cX10_shareBy 30 = .ok (.if_icmp .gt 9, 3) := by decide +kernel
theorem dX10_shareBy_33 : decode cX10_shareBy 33 = .ok (.sipush 900, 3) := by decide +kernel
theorem dX10_shareBy_36 : decode cX10_shareBy 36 = .ok (.goto 5, 3) := by decide +kernel
theorem dX10_shareBy_39 : decode cX10_shareBy 39 = .ok (.bipush 100, 2) := by decide +kernel
theorem dX10_shareBy_41 : decode cX10_shareBy 41 = .ok (.ireturn, 1) := by decide +kernel
theorem dX10_shareBy_42 : decode cX10_shareBy 42 = .ok (.sipush 1000, 3) := by decide +kernel
theorem dX10_shareBy_45 : decode cX10_shareBy 45 = .ok (.istore_n 3, 1) := by decide +kernel
theorem dX10_shareBy_46 : decode cX10_shareBy 46 = .ok (.iload_n 2, 1) := by decide +kernel
theorem dX10_shareBy_47 : decode cX10_shareBy 47 = .ok (.bipush 10, 2) := by decide +kernel
theorem dX10_shareBy_49 : decode cX10_shareBy 49 = .ok (.iload_n 1, 1) := by decide +kernel
theorem dX10_shareBy_50 : decode cX10_shareBy 50 = .ok (.imul, 1) := by decide +kernel
theorem dX10_shareBy_51 : decode cX10_shareBy 51 = .ok (.idiv, 1) := by decide +kernel
theorem dX10_shareBy_52 : decode cX10_shareBy 52 = .ok (.istore 4, 2) := by decide +kernel
theorem dX10_shareBy_54 : decode cX10_shareBy 54 = .ok (.iload 4, 2) := by decide +kernel
theorem dX10_shareBy_56 : decode cX10_shareBy 56 = .ok (.ifCond .le 17, 3) := by decide +kernel
theorem dX10_shareBy_59 : decode cX10_shareBy 59 = .ok (.iload_n 3, 1) := by decide +kernel
theorem dX10_shareBy_60 : decode cX10_shareBy 60 = .ok (.ifCond .le 13, 3) := by decide +kernel
theorem dX10_shareBy_63 : decode cX10_shareBy 63 = .ok (.iload_n 3, 1) := by decide +kernel
theorem dX10_shareBy_64 : decode cX10_shareBy 64 = .ok (.iconst 2, 1) := by decide +kernel
theorem dX10_shareBy_65 : decode cX10_shareBy 65 = .ok (.idiv, 1) := by decide +kernel
theorem dX10_shareBy_66 : decode cX10_shareBy 66 = .ok (.istore_n 3, 1) := by decide +kernel
theorem dX10_shareBy_67 : decode cX10_shareBy 67 = .ok (.iinc 4 (-1), 3) := by decide +kernel
theorem dX10_shareBy_70 : decode cX10_shareBy 70 = .ok (.goto (-16), 3) := by decide +kernel
theorem dX10_shareBy_73 : decode cX10_shareBy 73 = .ok (.iload_n 3, 1) := by decide +kernel
theorem dX10_shareBy_74 : decode cX10_shareBy 74 = .ok (.ireturn, 1) := by decide +kernel
theorem dX10_missBy_0 : decode cX10_missBy 0 = .ok (.iconst 0, 1) := by decide +kernel
theorem dX10_missBy_1 : decode cX10_missBy 1 = .ok (.istore 4, 2) := by decide +kernel
theorem dX10_missBy_3 : decode cX10_missBy 3 = .ok (.iconst 0, 1) := by decide +kernel
theorem dX10_missBy_4 : decode cX10_missBy 4 = .ok (.istore 5, 2) := by decide +kernel
theorem dX10_missBy_6 : decode cX10_missBy 6 = .ok (.iload 5, 2) := by decide +kernel
theorem dX10_missBy_8 : decode cX10_missBy 8 = .ok (.bipush 10, 2) := by decide +kernel
theorem dX10_missBy_10 : decode cX10_missBy 10 = .ok (.if_icmp .ge 97, 3) := by decide +kernel
theorem dX10_missBy_13 : decode cX10_missBy 13 = .ok (.aload_n 0, 1) := by decide +kernel
theorem dX10_missBy_14 : decode cX10_missBy 14 = .ok (.getfield 68, 3) := by decide +kernel
theorem dX10_missBy_17 : decode cX10_missBy 17 = .ok (.bipush 10, 2) := by decide +kernel
theorem dX10_missBy_19 : decode cX10_missBy 19 = .ok (.iload_n 1, 1) := by decide +kernel
theorem dX10_missBy_20 : decode cX10_missBy 20 = .ok (.imul, 1) := by decide +kernel
theorem dX10_missBy_21 : decode cX10_missBy 21 = .ok (.iload 5, 2) := by decide +kernel
theorem dX10_missBy_23 : decode cX10_missBy 23 = .ok (.iadd, 1) := by decide +kernel
theorem dX10_missBy_24 : decode cX10_missBy 24 = .ok (.iaload, 1) := by decide +kernel
theorem dX10_missBy_25 : decode cX10_missBy 25 = .ok (.ifCond .le 76, 3) := by decide +kernel
theorem dX10_missBy_28 : decode cX10_missBy 28 = .ok (.aload_n 0, 1) := by decide +kernel
theorem dX10_missBy_29 : decode cX10_missBy 29 = .ok (.getfield 62, 3) := by decide +kernel
theorem dX10_missBy_32 : decode cX10_missBy 32 = .ok (.iload 5, 2) := by decide +kernel
theorem dX10_missBy_34 : decode cX10_missBy 34 = .ok (.iaload, 1) := by decide +kernel
theorem dX10_missBy_35 : decode cX10_missBy 35 = .ok (.iconst (-1), 1) := by decide +kernel
theorem dX10_missBy_36 : decode cX10_missBy 36 = .ok (.if_icmp .eq 65, 3) := by decide +kernel
theorem dX10_missBy_39 : decode cX10_missBy 39 = .ok (.sipush 1000, 3) := by decide +kernel
theorem dX10_missBy_42 : decode cX10_missBy 42 = .ok (.aload_n 0, 1) := by decide +kernel
theorem dX10_missBy_43 : decode cX10_missBy 43 = .ok (.getfield 65, 3) := by decide +kernel
theorem dX10_missBy_46 : decode cX10_missBy 46 = .ok (.bipush 10, 2) := by decide +kernel
theorem dX10_missBy_48 : decode cX10_missBy 48 = .ok (.iload_n 1, 1) := by decide +kernel
theorem dX10_missBy_49 : decode cX10_missBy 49 = .ok (.imul, 1) := by decide +kernel
theorem dX10_missBy_50 : decode cX10_missBy 50 = .ok (.iload 5, 2) := by decide +kernel
theorem dX10_missBy_52 : decode cX10_missBy 52 = .ok (.iadd, 1) := by decide +kernel
theorem dX10_missBy_53 : decode cX10_missBy 53 = .ok (.iaload, 1) := by decide +kernel
theorem dX10_missBy_54 : decode cX10_missBy 54 = .ok (.imul, 1) := by decide +kernel
theorem dX10_missBy_55 : decode cX10_missBy 55 = .ok (.aload_n 0, 1) := by decide +kernel
theorem dX10_missBy_56 : decode cX10_missBy 56 = .ok (.getfield 68, 3) := by decide +kernel
theorem dX10_missBy_59 : decode cX10_missBy 59 = .ok (.bipush 10, 2) := by decide +kernel
theorem dX10_missBy_61 : decode cX10_missBy 61 = .ok (.iload_n 1, 1) := by decide +kernel
theorem dX10_missBy_62 : decode cX10_missBy 62 = .ok (.imul, 1) := by decide +kernel
theorem dX10_missBy_63 : decode cX10_missBy 63 = .ok (.iload 5, 2) := by decide +kernel
theorem dX10_missBy_65 : decode cX10_missBy 65 = .ok (.iadd, 1) := by decide +kernel
theorem dX10_missBy_66 : decode cX10_missBy 66 = .ok (.iaload, 1) := by decide +kernel
theorem dX10_missBy_67 : decode cX10_missBy 67 = .ok (.idiv, 1) := by decide +kernel
theorem dX10_missBy_68 : decode cX10_missBy 68 = .ok (.iload_n 2, 1) := by decide +kernel
theorem dX10_missBy_69 : decode cX10_missBy 69 = .ok (.iload_n 3, 1) := by decide +kernel
theorem dX10_missBy_70 : decode cX10_missBy 70 = .ok (.aload_n 0, 1) := by decide +kernel
theorem dX10_missBy_71 : decode cX10_missBy 71 = .ok (.getfield 62, 3) := by decide +kernel
theorem dX10_missBy_74 : decode cX10_missBy 74 = .ok (.iload 5, 2) := by decide +kernel
theorem dX10_missBy_76 : decode cX10_missBy 76 = .ok (.iaload, 1) := by decide +kernel
theorem dX10_missBy_77 : decode cX10_missBy 77 = .ok (.invokestatic 235, 3) := by decide +kernel
theorem dX10_missBy_80 : decode cX10_missBy 80 = .ok (.isub, 1) := by decide +kernel
theorem dX10_missBy_81 : decode cX10_missBy 81 = .ok (.istore 6, 2) := by decide +kernel
theorem dX10_missBy_83 : decode cX10_missBy 83 = .ok (.iload 4, 2) := by decide +kernel
theorem dX10_missBy_85 : decode cX10_missBy 85 = .ok (.iload 6, 2) := by decide +kernel
theorem dX10_missBy_87 : decode cX10_missBy 87 = .ok (.ifCond .ge 9, 3) := by decide +kernel
theorem dX10_missBy_90 : decode cX10_missBy 90 = .ok (.iload 6, 2) := by decide +kernel
theorem dX10_missBy_92 : decode cX10_missBy 92 = .ok (.ineg, 1) := by decide +kernel
theorem dX10_missBy_93 : decode cX10_missBy 93 = .ok (.goto 5, 3) := by decide +kernel
theorem dX10_missBy_96 : decode cX10_missBy 96 = .ok (.iload 6, 2) := by decide +kernel
theorem dX10_missBy_98 : decode cX10_missBy 98 = .ok (.iadd, 1) := by decide +kernel
theorem dX10_missBy_99 : decode cX10_missBy 99 = .ok (.istore 4, 2) := by decide +kernel
theorem dX10_missBy_101 : decode cX10_missBy 101 = .ok (.iinc 5 1, 3) := by decide +kernel
theorem dX10_missBy_104 : decode cX10_missBy 104 = .ok (.goto (-98), 3) := by decide +kernel
theorem dX10_missBy_107 : decode cX10_missBy 107 = .ok (.iload 4, 2) := by decide +kernel
theorem dX10_missBy_109 : decode cX10_missBy 109 = .ok (.ireturn, 1) := by decide +kernel
theorem dX10_miss_0 : decode cX10_miss 0 = .ok (.aload_n 0, 1) := by decide +kernel
theorem dX10_miss_1 : decode cX10_miss 1 = .ok (.iload_n 1, 1) := by decide +kernel
theorem dX10_miss_2 : decode cX10_miss 2 = .ok (.invokevirtual 159, 3) := by decide +kernel
theorem dX10_miss_5 : decode cX10_miss 5 = .ok (.ifCond .ne 6, 3) := by decide +kernel
theorem dX10_miss_8 : decode cX10_miss 8 = .ok (.bipush (-2), 2) := by decide +kernel
theorem dX10_miss_10 : decode cX10_miss 10 = .ok (.ireturn, 1) := by decide +kernel
theorem dX10_miss_11 : decode cX10_miss 11 = .ok (.iload_n 2, 1) := by decide +kernel
theorem dX10_miss_12 : decode cX10_miss 12 = .ok (.iconst 0, 1) := by decide +kernel
theorem dX10_miss_13 : decode cX10_miss 13 = .ok (.iconst 2, 1) := by decide +kernel
theorem dX10_miss_14 : decode cX10_miss 14 = .ok (.invokestatic 71, 3) := by decide +kernel
theorem dX10_miss_17 : decode cX10_miss 17 = .ok (.ifCond .eq 13, 3) := by decide +kernel
theorem dX10_miss_20 : decode cX10_miss 20 = .ok (.iload_n 3, 1) := by decide +kernel
theorem dX10_miss_21 : decode cX10_miss 21 = .ok (.iconst 1, 1) := by decide +kernel
theorem dX10_miss_22 : decode cX10_miss 22 = .ok (.bipush 99, 2) := by decide +kernel
theorem dX10_miss_24 : decode cX10_miss 24 = .ok (.invokestatic 71, 3) := by decide +kernel
theorem dX10_miss_27 : decode cX10_miss 27 = .ok (.ifCond .ne 6, 3) := by decide +kernel
theorem dX10_miss_30 : decode cX10_miss 30 = .ok (.bipush (-3), 2) := by decide +kernel
theorem dX10_miss_32 : decode cX10_miss 32 = .ok (.ireturn, 1) := by decide +kernel
theorem dX10_miss_33 : decode cX10_miss 33 = .ok (.aload_n 0, 1) := by decide +kernel
theorem dX10_miss_34 : decode cX10_miss 34 = .ok (.aload_n 0, 1) := by decide +kernel
theorem dX10_miss_35 : decode cX10_miss 35 = .ok (.getfield 16, 3) := by decide +kernel
theorem dX10_miss_38 : decode cX10_miss 38 = .ok (.bipush 6, 2) := by decide +kernel
theorem dX10_miss_40 : decode cX10_miss 40 = .ok (.iload_n 1, 1) := by decide +kernel
theorem dX10_miss_41 : decode cX10_miss 41 = .ok (.imul, 1) := by decide +kernel
theorem dX10_miss_42 : decode cX10_miss 42 = .ok (.iaload, 1) := by decide +kernel
theorem dX10_miss_43 : decode cX10_miss 43 = .ok (.iconst (-1), 1) := by decide +kernel
theorem dX10_miss_44 : decode cX10_miss 44 = .ok (.iconst 1, 1) := by decide +kernel
theorem dX10_miss_45 : decode cX10_miss 45 = .ok (.invokevirtual 223, 3) := by decide +kernel
theorem dX10_miss_48 : decode cX10_miss 48 = .ok (.aload_n 0, 1) := by decide +kernel
theorem dX10_miss_49 : decode cX10_miss 49 = .ok (.iload_n 1, 1) := by decide +kernel
theorem dX10_miss_50 : decode cX10_miss 50 = .ok (.iload_n 2, 1) := by decide +kernel
theorem dX10_miss_51 : decode cX10_miss 51 = .ok (.iload_n 3, 1) := by decide +kernel
theorem dX10_miss_52 : decode cX10_miss 52 = .ok (.invokevirtual 239, 3) := by decide +kernel
theorem dX10_miss_55 : decode cX10_miss 55 = .ok (.ireturn, 1) := by decide +kernel
theorem dX10_law_0 : decode cX10_law 0 = .ok (.aload_n 0, 1) := by decide +kernel
theorem dX10_law_1 : decode cX10_law 1 = .ok (.iload_n 1, 1) := by decide +kernel
theorem dX10_law_2 : decode cX10_law 2 = .ok (.invokevirtual 159, 3) := by decide +kernel
theorem dX10_law_5 : decode cX10_law 5 = .ok (.ifCond .ne 6, 3) := by decide +kernel
theorem dX10_law_8 : decode cX10_law 8 = .ok (.bipush (-2), 2) := by decide +kernel
theorem dX10_law_10 : decode cX10_law 10 = .ok (.ireturn, 1) := by decide +kernel
theorem dX10_law_11 : decode cX10_law 11 = .ok (.iload_n 2, 1) := by decide +kernel
theorem dX10_law_12 : decode cX10_law 12 = .ok (.iconst 0, 1) := by decide +kernel
theorem dX10_law_13 : decode cX10_law 13 = .ok (.iconst 1, 1) := by decide +kernel
theorem dX10_law_14 : decode cX10_law 14 = .ok (.invokestatic 71, 3) := by decide +kernel
theorem dX10_law_17 : decode cX10_law 17 = .ok (.ifCond .ne 6, 3) := by decide +kernel
theorem dX10_law_20 : decode cX10_law 20 = .ok (.bipush (-3), 2) := by decide +kernel
theorem dX10_law_22 : decode cX10_law 22 = .ok (.ireturn, 1) := by decide +kernel
theorem dX10_law_23 : decode cX10_law 23 = .ok (.aload_n 0, 1) := by decide +kernel
theorem dX10_law_24 : decode cX10_law 24 = .ok (.aload_n 0, 1) := by decide +kernel
theorem dX10_law_25 : decode cX10_law 25 = .ok (.getfield 16, 3) := by decide +kernel
theorem dX10_law_28 : decode cX10_law 28 = .ok (.bipush 6, 2) := by decide +kernel
theorem dX10_law_30 : decode cX10_law 30 = .ok (.iload_n 1, 1) := by decide +kernel
theorem dX10_law_31 : decode cX10_law 31 = .ok (.imul, 1) := by decide +kernel
theorem dX10_law_32 : decode cX10_law 32 = .ok (.iaload, 1) := by decide +kernel
theorem dX10_law_33 : decode cX10_law 33 = .ok (.iconst (-1), 1) := by decide +kernel
theorem dX10_law_34 : decode cX10_law 34 = .ok (.iconst 1, 1) := by decide +kernel
theorem dX10_law_35 : decode cX10_law 35 = .ok (.invokevirtual 223, 3) := by decide +kernel
theorem dX10_law_38 : decode cX10_law 38 = .ok (.iconst (-1), 1) := by decide +kernel
theorem dX10_law_39 : decode cX10_law 39 = .ok (.istore_n 3, 1) := by decide +kernel
theorem dX10_law_40 : decode cX10_law 40 = .ok (.iconst 0, 1) := by decide +kernel
theorem dX10_law_41 : decode cX10_law 41 = .ok (.istore 4, 2) := by decide +kernel
theorem dX10_law_43 : decode cX10_law 43 = .ok (.iconst 0, 1) := by decide +kernel
theorem dX10_law_44 : decode cX10_law 44 = .ok (.istore 5, 2) := by decide +kernel
theorem dX10_law_46 : decode cX10_law 46 = .ok (.iload 5, 2) := by decide +kernel
theorem dX10_law_48 : decode cX10_law 48 = .ok (.iconst 3, 1) := by decide +kernel
theorem dX10_law_49 : decode cX10_law 49 = .ok (.if_icmp .ge 61, 3) := by decide +kernel
theorem dX10_law_52 : decode cX10_law 52 = .ok (.iconst 1, 1) := by decide +kernel
theorem dX10_law_53 : decode cX10_law 53 = .ok (.istore 6, 2) := by decide +kernel
theorem dX10_law_55 : decode cX10_law 55 = .ok (.iload 6, 2) := by decide +kernel
theorem dX10_law_57 : decode cX10_law 57 = .ok (.bipush 100, 2) := by decide +kernel
theorem dX10_law_59 : decode cX10_law 59 = .ok (.if_icmp .ge 45, 3) := by decide +kernel
theorem dX10_law_62 : decode cX10_law 62 = .ok (.aload_n 0, 1) := by decide +kernel
theorem dX10_law_63 : decode cX10_law 63 = .ok (.iload_n 1, 1) := by decide +kernel
theorem dX10_law_64 : decode cX10_law 64 = .ok (.iload 5, 2) := by decide +kernel
theorem dX10_law_66 : decode cX10_law 66 = .ok (.iload 6, 2) := by decide +kernel
theorem dX10_law_68 : decode cX10_law 68 = .ok (.invokevirtual 239, 3) := by decide +kernel
theorem dX10_law_71 : decode cX10_law 71 = .ok (.istore 7, 2) := by decide +kernel
theorem dX10_law_73 : decode cX10_law 73 = .ok (.iload_n 3, 1) := by decide +kernel
theorem dX10_law_74 : decode cX10_law 74 = .ok (.iconst (-1), 1) := by decide +kernel
theorem dX10_law_75 : decode cX10_law 75 = .ok (.if_icmp .eq 10, 3) := by decide +kernel
theorem dX10_law_78 : decode cX10_law 78 = .ok (.iload 7, 2) := by decide +kernel
theorem dX10_law_80 : decode cX10_law 80 = .ok (.iload 4, 2) := by decide +kernel
theorem dX10_law_82 : decode cX10_law 82 = .ok (.if_icmp .ge 16, 3) := by decide +kernel
theorem dX10_law_85 : decode cX10_law 85 = .ok (.bipush 100, 2) := by decide +kernel
theorem dX10_law_87 : decode cX10_law 87 = .ok (.iload 5, 2) := by decide +kernel
theorem dX10_law_89 : decode cX10_law 89 = .ok (.imul, 1) := by decide +kernel
theorem dX10_law_90 : decode cX10_law 90 = .ok (.iload 6, 2) := by decide +kernel
theorem dX10_law_92 : decode cX10_law 92 = .ok (.iadd, 1) := by decide +kernel
theorem dX10_law_93 : decode cX10_law 93 = .ok (.istore_n 3, 1) := by decide +kernel
theorem dX10_law_94 : decode cX10_law 94 = .ok (.iload 7, 2) := by decide +kernel
theorem dX10_law_96 : decode cX10_law 96 = .ok (.istore 4, 2) := by decide +kernel
theorem dX10_law_98 : decode cX10_law 98 = .ok (.iinc 6 1, 3) := by decide +kernel
theorem dX10_law_101 : decode cX10_law 101 = .ok (.goto (-46), 3) := by decide +kernel
theorem dX10_law_104 : decode cX10_law 104 = .ok (.iinc 5 1, 3) := by decide +kernel
theorem dX10_law_107 : decode cX10_law 107 = .ok (.goto (-61), 3) := by decide +kernel
theorem dX10_law_110 : decode cX10_law 110 = .ok (.iload_n 2, 1) := by decide +kernel
theorem dX10_law_111 : decode cX10_law 111 = .ok (.ifCond .ne 7, 3) := by decide +kernel
theorem dX10_law_114 : decode cX10_law 114 = .ok (.iload_n 3, 1) := by decide +kernel
theorem dX10_law_115 : decode cX10_law 115 = .ok (.goto 5, 3) := by decide +kernel
theorem dX10_law_118 : decode cX10_law 118 = .ok (.iload 4, 2) := by decide +kernel
theorem dX10_law_120 : decode cX10_law 120 = .ok (.ireturn, 1) := by decide +kernel
theorem dX10_dated_0 : decode cX10_dated 0 = .ok (.aload_n 0, 1) := by decide +kernel
theorem dX10_dated_1 : decode cX10_dated 1 = .ok (.iload_n 1, 1) := by decide +kernel
theorem dX10_dated_2 : decode cX10_dated 2 = .ok (.invokevirtual 169, 3) := by decide +kernel
theorem dX10_dated_5 : decode cX10_dated 5 = .ok (.ifCond .ne 6, 3) := by decide +kernel
theorem dX10_dated_8 : decode cX10_dated 8 = .ok (.bipush (-2), 2) := by decide +kernel
theorem dX10_dated_10 : decode cX10_dated 10 = .ok (.ireturn, 1) := by decide +kernel
theorem dX10_dated_11 : decode cX10_dated 11 = .ok (.iload_n 2, 1) := by decide +kernel
theorem dX10_dated_12 : decode cX10_dated 12 = .ok (.iconst (-1), 1) := by decide +kernel
theorem dX10_dated_13 : decode cX10_dated 13 = .ok (.sipush 9999, 3) := by decide +kernel
theorem dX10_dated_16 : decode cX10_dated 16 = .ok (.invokestatic 71, 3) := by decide +kernel
theorem dX10_dated_19 : decode cX10_dated 19 = .ok (.ifCond .ne 6, 3) := by decide +kernel
theorem dX10_dated_22 : decode cX10_dated 22 = .ok (.bipush (-3), 2) := by decide +kernel
theorem dX10_dated_24 : decode cX10_dated 24 = .ok (.ireturn, 1) := by decide +kernel
theorem dX10_dated_25 : decode cX10_dated 25 = .ok (.aload_n 0, 1) := by decide +kernel
theorem dX10_dated_26 : decode cX10_dated 26 = .ok (.getfield 32, 3) := by decide +kernel
theorem dX10_dated_29 : decode cX10_dated 29 = .ok (.bipush 11, 2) := by decide +kernel
theorem dX10_dated_31 : decode cX10_dated 31 = .ok (.iload_n 1, 1) := by decide +kernel
theorem dX10_dated_32 : decode cX10_dated 32 = .ok (.imul, 1) := by decide +kernel
theorem dX10_dated_33 : decode cX10_dated 33 = .ok (.bipush 10, 2) := by decide +kernel
theorem dX10_dated_35 : decode cX10_dated 35 = .ok (.iadd, 1) := by decide +kernel
theorem dX10_dated_36 : decode cX10_dated 36 = .ok (.iload_n 2, 1) := by decide +kernel
theorem dX10_dated_37 : decode cX10_dated 37 = .ok (.iastore, 1) := by decide +kernel
theorem dX10_dated_38 : decode cX10_dated 38 = .ok (.iconst 1, 1) := by decide +kernel
theorem dX10_dated_39 : decode cX10_dated 39 = .ok (.ireturn, 1) := by decide +kernel
theorem dX10_learnt_0 : decode cX10_learnt 0 = .ok (.iload_n 1, 1) := by decide +kernel
theorem dX10_learnt_1 : decode cX10_learnt 1 = .ok (.invokestatic 156, 3) := by decide +kernel
theorem dX10_learnt_4 : decode cX10_learnt 4 = .ok (.ifCond .ne 6, 3) := by decide +kernel
theorem dX10_learnt_7 : decode cX10_learnt 7 = .ok (.bipush (-2), 2) := by decide +kernel
theorem dX10_learnt_9 : decode cX10_learnt 9 = .ok (.ireturn, 1) := by decide +kernel
theorem dX10_learnt_10 : decode cX10_learnt 10 = .ok (.iload_n 2, 1) := by decide +kernel
theorem dX10_learnt_11 : decode cX10_learnt 11 = .ok (.iconst 0, 1) := by decide +kernel
theorem dX10_learnt_12 : decode cX10_learnt 12 = .ok (.iconst 1, 1) := by decide +kernel
theorem dX10_learnt_13 : decode cX10_learnt 13 = .ok (.invokestatic 71, 3) := by decide +kernel
theorem dX10_learnt_16 : decode cX10_learnt 16 = .ok (.ifCond .ne 6, 3) := by decide +kernel
theorem dX10_learnt_19 : decode cX10_learnt 19 = .ok (.bipush (-3), 2) := by decide +kernel
theorem dX10_learnt_21 : decode cX10_learnt 21 = .ok (.ireturn, 1) := by decide +kernel
theorem dX10_learnt_22 : decode cX10_learnt 22 = .ok (.iconst (-1), 1) := by decide +kernel
theorem dX10_learnt_23 : decode cX10_learnt 23 = .ok (.istore_n 3, 1) := by decide +kernel
theorem dX10_learnt_24 : decode cX10_learnt 24 = .ok (.iconst (-1), 1) := by decide +kernel
theorem dX10_learnt_25 : decode cX10_learnt 25 = .ok (.istore 4, 2) := by decide +kernel
theorem dX10_learnt_27 : decode cX10_learnt 27 = .ok (.iconst 1, 1) := by decide +kernel
theorem dX10_learnt_28 : decode cX10_learnt 28 = .ok (.istore 5, 2) := by decide +kernel
theorem dX10_learnt_30 : decode cX10_learnt 30 = .ok (.iload 5, 2) := by decide +kernel
theorem dX10_learnt_32 : decode cX10_learnt 32 = .ok (.sipush 1000, 3) := by decide +kernel
theorem dX10_learnt_35 : decode cX10_learnt 35 = .ok (.if_icmp .ge 167, 3) := by decide +kernel
theorem dX10_learnt_38 : decode cX10_learnt 38 = .ok (.iconst 1, 1) := by decide +kernel
theorem dX10_learnt_39 : decode cX10_learnt 39 = .ok (.istore 6, 2) := by decide +kernel
theorem dX10_learnt_41 : decode cX10_learnt 41 = .ok (.iconst 0, 1) := by decide +kernel
theorem dX10_learnt_42 : decode cX10_learnt 42 = .ok (.istore 7, 2) := by decide +kernel
theorem dX10_learnt_44 : decode cX10_learnt 44 = .ok (.iconst 0, 1) := by decide +kernel
theorem dX10_learnt_45 : decode cX10_learnt 45 = .ok (.istore 8, 2) := by decide +kernel
theorem dX10_learnt_47 : decode cX10_learnt 47 = .ok (.iload 8, 2) := by decide +kernel
theorem dX10_learnt_49 : decode cX10_learnt 49 = .ok (.aload_n 0, 1) := by decide +kernel
theorem dX10_learnt_50 : decode cX10_learnt 50 = .ok (.getfield 78, 3) := by decide +kernel
theorem dX10_learnt_53 : decode cX10_learnt 53 = .ok (.if_icmp .ge 102, 3) := by decide +kernel
theorem dX10_learnt_56 : decode cX10_learnt 56 = .ok (.aload_n 0, 1) := by decide +kernel
theorem dX10_learnt_57 : decode cX10_learnt 57 = .ok (.iload 8, 2) := by decide +kernel
theorem dX10_learnt_59 : decode cX10_learnt 59 = .ok (.iconst 0, 1) := by decide +kernel
theorem dX10_learnt_60 : decode cX10_learnt 60 = .ok (.invokevirtual 172, 3) := by decide +kernel
theorem dX10_learnt_63 : decode cX10_learnt 63 = .ok (.iload_n 1, 1) := by decide +kernel
theorem dX10_learnt_64 : decode cX10_learnt 64 = .ok (.if_icmp .ne 85, 3) := by decide +kernel
theorem dX10_learnt_67 : decode cX10_learnt 67 = .ok (.aload_n 0, 1) := by decide +kernel
theorem dX10_learnt_68 : decode cX10_learnt 68 = .ok (.iload 8, 2) := by decide +kernel
theorem dX10_learnt_70 : decode cX10_learnt 70 = .ok (.bipush 7, 2) := by decide +kernel
theorem dX10_learnt_72 : decode cX10_learnt 72 = .ok (.invokevirtual 172, 3) := by decide +kernel
theorem dX10_learnt_75 : decode cX10_learnt 75 = .ok (.ifCond .le 74, 3) := by decide +kernel
theorem dX10_learnt_78 : decode cX10_learnt 78 = .ok (.aload_n 0, 1) := by decide +kernel
theorem dX10_learnt_79 : decode cX10_learnt 79 = .ok (.iload 8, 2) := by decide +kernel
theorem dX10_learnt_81 : decode cX10_learnt 81 = .ok (.bipush 10, 2) := by decide +kernel
theorem dX10_learnt_83 : decode cX10_learnt 83 = .ok (.invokevirtual 172, 3) := by decide +kernel
theorem dX10_learnt_86 : decode cX10_learnt 86 = .ok (.iconst (-1), 1) := by decide +kernel
theorem dX10_learnt_87 : decode cX10_learnt 87 = .ok (.if_icmp .eq 62, 3) := by decide +kernel
theorem dX10_learnt_90 : decode cX10_learnt 90 = .ok (.iconst 1, 1) := by decide +kernel
theorem dX10_learnt_91 : decode cX10_learnt 91 = .ok (.istore 7, 2) := by decide +kernel
theorem dX10_learnt_93 : decode cX10_learnt 93 = .ok (.iload 6, 2) := by decide +kernel
theorem dX10_learnt_95 : decode cX10_learnt 95 = .ok (.ifCond .eq 51, 3) := by decide +kernel
theorem dX10_learnt_98 : decode cX10_learnt 98 = .ok (.aload_n 0, 1) := by decide +kernel
theorem dX10_learnt_99 : decode cX10_learnt 99 = .ok (.iload 8, 2) := by decide +kernel
theorem dX10_learnt_101 : decode cX10_learnt 101 = .ok (.bipush 10, 2) := by decide +kernel
theorem dX10_learnt_103 : decode cX10_learnt 103 = .ok (.invokevirtual 172, 3) := by decide +kernel
theorem dX10_learnt_106 : decode cX10_learnt 106 = .ok (.aload_n 0, 1) := by decide +kernel
theorem dX10_learnt_107 : decode cX10_learnt 107 = .ok (.iload 8, 2) := by decide +kernel
theorem dX10_learnt_109 : decode cX10_learnt 109 = .ok (.bipush 7, 2) := by decide +kernel
theorem dX10_learnt_111 : decode cX10_learnt 111 = .ok (.invokevirtual 172, 3) := by decide +kernel
theorem dX10_learnt_114 : decode cX10_learnt 114 = .ok (.iconst 1, 1) := by decide +kernel
theorem dX10_learnt_115 : decode cX10_learnt 115 = .ok (.iadd, 1) := by decide +kernel
theorem dX10_learnt_116 : decode cX10_learnt 116 = .ok (.iload 5, 2) := by decide +kernel
theorem dX10_learnt_118 : decode cX10_learnt 118 = .ok (.invokestatic 193, 3) := by decide +kernel
theorem dX10_learnt_121 : decode cX10_learnt 121 = .ok (.aload_n 0, 1) := by decide +kernel
theorem dX10_learnt_122 : decode cX10_learnt 122 = .ok (.iload 8, 2) := by decide +kernel
theorem dX10_learnt_124 : decode cX10_learnt 124 = .ok (.bipush 7, 2) := by decide +kernel
theorem dX10_learnt_126 : decode cX10_learnt 126 = .ok (.invokevirtual 172, 3) := by decide +kernel
theorem dX10_learnt_129 : decode cX10_learnt 129 = .ok (.iconst 1, 1) := by decide +kernel
theorem dX10_learnt_130 : decode cX10_learnt 130 = .ok (.isub, 1) := by decide +kernel
theorem dX10_learnt_131 : decode cX10_learnt 131 = .ok (.iload 5, 2) := by decide +kernel
theorem dX10_learnt_133 : decode cX10_learnt 133 = .ok (.invokestatic 193, 3) := by decide +kernel
theorem dX10_learnt_136 : decode cX10_learnt 136 = .ok (.invokestatic 71, 3) := by decide +kernel
theorem dX10_learnt_139 : decode cX10_learnt 139 = .ok (.ifCond .eq 7, 3) := by decide +kernel
theorem dX10_learnt_142 : decode cX10_learnt 142 = .ok (.iconst 1, 1) := by decide +kernel
theorem dX10_learnt_143 : decode cX10_learnt 143 = .ok (.goto 4, 3) := by decide +kernel
theorem dX10_learnt_146 : decode cX10_learnt 146 = .ok (.iconst 0, 1) := by decide +kernel
theorem dX10_learnt_147 : decode cX10_learnt 147 = .ok (.istore 6, 2) := by decide +kernel
theorem dX10_learnt_149 : decode cX10_learnt 149 = .ok (.iinc 8 1, 3) := by decide +kernel
theorem dX10_learnt_152 : decode cX10_learnt 152 = .ok (.goto (-105), 3) := by decide +kernel
theorem dX10_learnt_155 : decode cX10_learnt 155 = .ok (.iload 6, 2) := by decide +kernel
theorem dX10_learnt_157 : decode cX10_learnt 157 = .ok (.ifCond .eq 18, 3) := by decide +kernel
theorem dX10_learnt_160 : decode cX10_learnt 160 = .ok (.iload 7, 2) := by decide +kernel
theorem dX10_learnt_162 : decode cX10_learnt 162 = .ok (.ifCond .eq 13, 3) := by decide +kernel
theorem dX10_learnt_165 : decode cX10_learnt 165 = .ok (.iload_n 3, 1) := by decide +kernel
theorem dX10_learnt_166 : decode cX10_learnt 166 = .ok (.iconst (-1), 1) := by decide +kernel
theorem dX10_learnt_167 : decode cX10_learnt 167 = .ok (.if_icmp .ne 8, 3) := by decide +kernel
theorem dX10_learnt_170 : decode cX10_learnt 170 = .ok (.iload 5, 2) := by decide +kernel
theorem dX10_learnt_172 : decode cX10_learnt 172 = .ok (.goto 4, 3) := by decide +kernel
theorem dX10_learnt_175 : decode cX10_learnt 175 = .ok (.iload_n 3, 1) := by decide +kernel
theorem dX10_learnt_176 : decode cX10_learnt 176 = .ok (.istore_n 3, 1) := by decide +kernel
theorem dX10_learnt_177 : decode cX10_learnt 177 = .ok (.iload 6, 2) := by decide +kernel
theorem dX10_learnt_179 : decode cX10_learnt 179 = .ok (.ifCond .eq 13, 3) := by decide +kernel
theorem dX10_learnt_182 : decode cX10_learnt 182 = .ok (.iload 7, 2) := by decide +kernel
theorem dX10_learnt_184 : decode cX10_learnt 184 = .ok (.ifCond .eq 8, 3) := by decide +kernel
theorem dX10_learnt_187 : decode cX10_learnt 187 = .ok (.iload 5, 2) := by decide +kernel
theorem dX10_learnt_189 : decode cX10_learnt 189 = .ok (.goto 5, 3) := by decide +kernel
theorem dX10_learnt_192 : decode cX10_learnt 192 = .ok (.iload 4, 2) := by decide +kernel
theorem dX10_learnt_194 : decode cX10_learnt 194 = .ok (.istore 4, 2) := by decide +kernel
theorem dX10_learnt_196 : decode cX10_learnt 196 = .ok (.iinc 5 1, 3) := by decide +kernel
theorem dX10_learnt_199 : decode cX10_learnt 199 = .ok (.goto (-169), 3) := by decide +kernel
theorem dX10_learnt_202 : decode cX10_learnt 202 = .ok (.iload_n 2, 1) := by decide +kernel
theorem dX10_learnt_203 : decode cX10_learnt 203 = .ok (.ifCond .ne 7, 3) := by decide +kernel
theorem dX10_learnt_206 : decode cX10_learnt 206 = .ok (.iload_n 3, 1) := by decide +kernel
theorem dX10_learnt_207 : decode cX10_learnt 207 = .ok (.goto 5, 3) := by decide +kernel
theorem dX10_learnt_210 : decode cX10_learnt 210 = .ok (.iload 4, 2) := by decide +kernel
theorem dX10_learnt_212 : decode cX10_learnt 212 = .ok (.ireturn, 1) := by decide +kernel
theorem dX10_count_0 : decode cX10_count 0 = .ok (.iconst 0, 1) := by decide +kernel
theorem dX10_count_1 : decode cX10_count 1 = .ok (.istore_n 2, 1) := by decide +kernel
theorem dX10_count_2 : decode cX10_count 2 = .ok (.iload_n 1, 1) := by decide +kernel
theorem dX10_count_3 : decode cX10_count 3 = .ok (.tableswitch 102 0 5 #[37, 45, 50, 55, 60, 65], 37) := by decide +kernel
theorem dX10_count_40 : decode cX10_count 40 = .ok (.aload_n 0, 1) := by decide +kernel
theorem dX10_count_41 : decode cX10_count 41 = .ok (.getfield 75, 3) := by decide +kernel
theorem dX10_count_44 : decode cX10_count 44 = .ok (.invokestatic 183, 3) := by decide +kernel
theorem dX10_count_47 : decode cX10_count 47 = .ok (.ireturn, 1) := by decide +kernel
theorem dX10_count_48 : decode cX10_count 48 = .ok (.aload_n 0, 1) := by decide +kernel
theorem dX10_count_49 : decode cX10_count 49 = .ok (.getfield 81, 3) := by decide +kernel
theorem dX10_count_52 : decode cX10_count 52 = .ok (.ireturn, 1) := by decide +kernel
theorem dX10_count_53 : decode cX10_count 53 = .ok (.aload_n 0, 1) := by decide +kernel
theorem dX10_count_54 : decode cX10_count 54 = .ok (.getfield 78, 3) := by decide +kernel
theorem dX10_count_57 : decode cX10_count 57 = .ok (.ireturn, 1) := by decide +kernel
theorem dX10_count_58 : decode cX10_count 58 = .ok (.aload_n 0, 1) := by decide +kernel
theorem dX10_count_59 : decode cX10_count 59 = .ok (.getfield 19, 3) := by decide +kernel
theorem dX10_count_62 : decode cX10_count 62 = .ok (.ireturn, 1) := by decide +kernel
theorem dX10_count_63 : decode cX10_count 63 = .ok (.aload_n 0, 1) := by decide +kernel
theorem dX10_count_64 : decode cX10_count 64 = .ok (.getfield 23, 3) := by decide +kernel
theorem dX10_count_67 : decode cX10_count 67 = .ok (.ireturn, 1) := by decide +kernel
theorem dX10_count_68 : decode cX10_count 68 = .ok (.iconst 0, 1) := by decide +kernel
theorem dX10_count_69 : decode cX10_count 69 = .ok (.istore_n 3, 1) := by decide +kernel
theorem dX10_count_70 : decode cX10_count 70 = .ok (.iload_n 3, 1) := by decide +kernel
theorem dX10_count_71 : decode cX10_count 71 = .ok (.aload_n 0, 1) := by decide +kernel
theorem dX10_count_72 : decode cX10_count 72 = .ok (.getfield 78, 3) := by decide +kernel
theorem dX10_count_75 : decode cX10_count 75 = .ok (.if_icmp .ge 28, 3) := by decide +kernel
theorem dX10_count_78 : decode cX10_count 78 = .ok (.iload_n 2, 1) := by decide +kernel
theorem dX10_count_79 : decode cX10_count 79 = .ok (.aload_n 0, 1) := by decide +kernel
theorem dX10_count_80 : decode cX10_count 80 = .ok (.iload_n 3, 1) := by decide +kernel
theorem dX10_count_81 : decode cX10_count 81 = .ok (.bipush 9, 2) := by decide +kernel
theorem dX10_count_83 : decode cX10_count 83 = .ok (.invokevirtual 172, 3) := by decide +kernel
theorem dX10_count_86 : decode cX10_count 86 = .ok (.iconst (-1), 1) := by decide +kernel
theorem dX10_count_87 : decode cX10_count 87 = .ok (.if_icmp .eq 7, 3) := by decide +kernel
theorem dX10_count_90 : decode cX10_count 90 = .ok (.iconst 1, 1) := by decide +kernel
theorem dX10_count_91 : decode cX10_count 91 = .ok (.goto 4, 3) := by decide +kernel
theorem dX10_count_94 : decode cX10_count 94 = .ok (.iconst 0, 1) := by decide +kernel
theorem dX10_count_95 : decode cX10_count 95 = .ok (.iadd, 1) := by decide +kernel
theorem dX10_count_96 : decode cX10_count 96 = .ok (.istore_n 2, 1) := by decide +kernel
theorem dX10_count_97 : decode cX10_count 97 = .ok (.iinc 3 1, 3) := by decide +kernel
theorem dX10_count_100 : decode cX10_count 100 = .ok (.goto (-30), 3) := by decide +kernel
theorem dX10_count_103 : decode cX10_count 103 = .ok (.iload_n 2, 1) := by decide +kernel
theorem dX10_count_104 : decode cX10_count 104 = .ok (.ireturn, 1) := by decide +kernel
theorem dX10_count_105 : decode cX10_count 105 = .ok (.bipush (-3), 2) := by decide +kernel
theorem dX10_count_107 : decode cX10_count 107 = .ok (.ireturn, 1) := by decide +kernel
end
section
theorem dL_law_0 : decode cL_law 0 = .ok (.new 7, 3) := by decide +kernel
theorem dL_law_3 : decode cL_law 3 = .ok (.dup, 1) := by decide +kernel
theorem dL_law_4 : decode cL_law 4 = .ok (.invokespecial 9, 3) := by decide +kernel
theorem dL_law_7 : decode cL_law 7 = .ok (.astore_n 1, 1) := by decide +kernel
theorem dL_law_8 : decode cL_law 8 = .ok (.new 10, 3) := by decide +kernel
theorem dL_law_11 : decode cL_law 11 = .ok (.dup, 1) := by decide +kernel
theorem dL_law_12 : decode cL_law 12 = .ok (.invokespecial 12, 3) := by decide +kernel
theorem dL_law_15 : decode cL_law 15 = .ok (.astore_n 2, 1) := by decide +kernel
theorem dL_law_16 : decode cL_law 16 = .ok (.iconst 0, 1) := by decide +kernel
theorem dL_law_17 : decode cL_law 17 = .ok (.istore_n 3, 1) := by decide +kernel
theorem dL_law_18 : decode cL_law 18 = .ok (.iload_n 3, 1) := by decide +kernel
theorem dL_law_19 : decode cL_law 19 = .ok (.aload_n 0, 1) := by decide +kernel
theorem dL_law_20 : decode cL_law 20 = .ok (.arraylength, 1) := by decide +kernel
theorem dL_law_21 : decode cL_law 21 = .ok (.bipush 6, 2) := by decide +kernel
theorem dL_law_23 : decode cL_law 23 = .ok (.isub, 1) := by decide +kernel
theorem dL_law_24 : decode cL_law 24 = .ok (.if_icmp .gt 1189, 3) := by decide +kernel
theorem dL_law_27 : decode cL_law 27 = .ok (.aload_n 0, 1) := by decide +kernel
theorem dL_law_28 : decode cL_law 28 = .ok (.iload_n 3, 1) := by decide +kernel
theorem dL_law_29 : decode cL_law 29 = .ok (.iaload, 1) := by decide +kernel
theorem dL_law_30 : decode cL_law 30 = .ok (.bipush 31, 2) := by decide +kernel
theorem dL_law_32 : decode cL_law 32 = .ok (.iand, 1) := by decide +kernel
theorem dL_law_33 : decode cL_law 33 = .ok (.tableswitch 1174 0 30 #[139, 202, 215, 228, 241, 274, 307, 350, 413, 456, 499, 532, 565, 588, 611, 644, 667, 700, 723, 746, 769, 848, 917, 930, 943, 956, 1009, 1052, 1085, 1118, 1151], 139) := by decide +kernel
theorem dL_law_172 : decode cL_law 172 = .ok (.aload_n 1, 1) := by decide +kernel
theorem dL_law_173 : decode cL_law 173 = .ok (.aload_n 0, 1) := by decide +kernel
theorem dL_law_174 : decode cL_law 174 = .ok (.iload_n 3, 1) := by decide +kernel
theorem dL_law_175 : decode cL_law 175 = .ok (.iconst 1, 1) := by decide +kernel
theorem dL_law_176 : decode cL_law 176 = .ok (.iadd, 1) := by decide +kernel
theorem dL_law_177 : decode cL_law 177 = .ok (.iaload, 1) := by decide +kernel
theorem dL_law_178 : decode cL_law 178 = .ok (.i2l, 1) := by decide +kernel
theorem dL_law_179 : decode cL_law 179 = .ok (.bipush 32, 2) := by decide +kernel
theorem dL_law_181 : decode cL_law 181 = .ok (.lshl, 1) := by decide +kernel
theorem dL_law_182 : decode cL_law 182 = .ok (.aload_n 0, 1) := by decide +kernel
theorem dL_law_183 : decode cL_law 183 = .ok (.iload_n 3, 1) := by decide +kernel
theorem dL_law_184 : decode cL_law 184 = .ok (.iconst 2, 1) := by decide +kernel
theorem dL_law_185 : decode cL_law 185 = .ok (.iadd, 1) := by decide +kernel
theorem dL_law_186 : decode cL_law 186 = .ok (.iaload, 1) := by decide +kernel
theorem dL_law_187 : decode cL_law 187 = .ok (.i2l, 1) := by decide +kernel
theorem dL_law_188 : decode cL_law 188 = .ok (.ldc2_w 13, 3) := by decide +kernel
theorem dL_law_191 : decode cL_law 191 = .ok (.land, 1) := by decide +kernel
theorem dL_law_192 : decode cL_law 192 = .ok (.lor, 1) := by decide +kernel
theorem dL_law_193 : decode cL_law 193 = .ok (.aload_n 0, 1) := by decide +kernel
theorem dL_law_194 : decode cL_law 194 = .ok (.iload_n 3, 1) := by decide +kernel
theorem dL_law_195 : decode cL_law 195 = .ok (.iconst 3, 1) := by decide +kernel
theorem dL_law_196 : decode cL_law 196 = .ok (.iadd, 1) := by decide +kernel
theorem dL_law_197 : decode cL_law 197 = .ok (.iaload, 1) := by decide +kernel
theorem dL_law_198 : decode cL_law 198 = .ok (.invokevirtual 15, 3) := by decide +kernel
theorem dL_law_201 : decode cL_law 201 = .ok (.aload_n 2, 1) := by decide +kernel
theorem dL_law_202 : decode cL_law 202 = .ok (.aload_n 0, 1) := by decide +kernel
theorem dL_law_203 : decode cL_law 203 = .ok (.iload_n 3, 1) := by decide +kernel
theorem dL_law_204 : decode cL_law 204 = .ok (.iconst 1, 1) := by decide +kernel
theorem dL_law_205 : decode cL_law 205 = .ok (.iadd, 1) := by decide +kernel
theorem dL_law_206 : decode cL_law 206 = .ok (.iaload, 1) := by decide +kernel
theorem dL_law_207 : decode cL_law 207 = .ok (.i2l, 1) := by decide +kernel
theorem dL_law_208 : decode cL_law 208 = .ok (.bipush 32, 2) := by decide +kernel
theorem dL_law_210 : decode cL_law 210 = .ok (.lshl, 1) := by decide +kernel
theorem dL_law_211 : decode cL_law 211 = .ok (.aload_n 0, 1) := by decide +kernel
theorem dL_law_212 : decode cL_law 212 = .ok (.iload_n 3, 1) := by decide +kernel
theorem dL_law_213 : decode cL_law 213 = .ok (.iconst 2, 1) := by decide +kernel
theorem dL_law_214 : decode cL_law 214 = .ok (.iadd, 1) := by decide +kernel
theorem dL_law_215 : decode cL_law 215 = .ok (.iaload, 1) := by decide +kernel
theorem dL_law_216 : decode cL_law 216 = .ok (.i2l, 1) := by decide +kernel
theorem dL_law_217 : decode cL_law 217 = .ok (.ldc2_w 13, 3) := by decide +kernel
theorem dL_law_220 : decode cL_law 220 = .ok (.land, 1) := by decide +kernel
theorem dL_law_221 : decode cL_law 221 = .ok (.lor, 1) := by decide +kernel
theorem dL_law_222 : decode cL_law 222 = .ok (.aload_n 0, 1) := by decide +kernel
theorem dL_law_223 : decode cL_law 223 = .ok (.iload_n 3, 1) := by decide +kernel
theorem dL_law_224 : decode cL_law 224 = .ok (.iconst 3, 1) := by decide +kernel
theorem dL_law_225 : decode cL_law 225 = .ok (.iadd, 1) := by decide +kernel
theorem dL_law_226 : decode cL_law 226 = .ok (.iaload, 1) := by decide +kernel
theorem dL_law_227 : decode cL_law 227 = .ok (.invokevirtual 19, 3) := by decide +kernel
theorem dL_law_230 : decode cL_law 230 = .ok (.if_icmp .eq 977, 3) := by decide +kernel
theorem dL_law_233 : decode cL_law 233 = .ok (.iconst 0, 1) := by decide +kernel
theorem dL_law_234 : decode cL_law 234 = .ok (.ireturn, 1) := by decide +kernel
theorem dL_law_235 : decode cL_law 235 = .ok (.aload_n 1, 1) := by decide +kernel
theorem dL_law_236 : decode cL_law 236 = .ok (.invokevirtual 20, 3) := by decide +kernel
theorem dL_law_239 : decode cL_law 239 = .ok (.aload_n 2, 1) := by decide +kernel
theorem dL_law_240 : decode cL_law 240 = .ok (.invokevirtual 24, 3) := by decide +kernel
theorem dL_law_243 : decode cL_law 243 = .ok (.if_icmp .eq 964, 3) := by decide +kernel
theorem dL_law_246 : decode cL_law 246 = .ok (.iconst 0, 1) := by decide +kernel
theorem dL_law_247 : decode cL_law 247 = .ok (.ireturn, 1) := by decide +kernel
theorem dL_law_248 : decode cL_law 248 = .ok (.aload_n 1, 1) := by decide +kernel
theorem dL_law_249 : decode cL_law 249 = .ok (.invokevirtual 25, 3) := by decide +kernel
theorem dL_law_252 : decode cL_law 252 = .ok (.aload_n 2, 1) := by decide +kernel
theorem dL_law_253 : decode cL_law 253 = .ok (.invokevirtual 28, 3) := by decide +kernel
theorem dL_law_256 : decode cL_law 256 = .ok (.if_icmp .eq 951, 3) := by decide +kernel
theorem dL_law_259 : decode cL_law 259 = .ok (.iconst 0, 1) := by decide +kernel
theorem dL_law_260 : decode cL_law 260 = .ok (.ireturn, 1) := by decide +kernel
theorem dL_law_261 : decode cL_law 261 = .ok (.aload_n 1, 1) := by decide +kernel
theorem dL_law_262 : decode cL_law 262 = .ok (.invokevirtual 29, 3) := by decide +kernel
theorem dL_law_265 : decode cL_law 265 = .ok (.aload_n 2, 1) := by decide +kernel
theorem dL_law_266 : decode cL_law 266 = .ok (.invokevirtual 32, 3) := by decide +kernel
theorem dL_law_269 : decode cL_law 269 = .ok (.if_icmp .eq 938, 3) := by decide +kernel
theorem dL_law_272 : decode cL_law 272 = .ok (.iconst 0, 1) := by decide +kernel
theorem dL_law_273 : decode cL_law 273 = .ok (.ireturn, 1) := by decide +kernel
theorem dL_law_274 : decode cL_law 274 = .ok (.aload_n 1, 1) := by decide +kernel
theorem dL_law_275 : decode cL_law 275 = .ok (.aload_n 0, 1) := by decide +kernel
theorem dL_law_276 : decode cL_law 276 = .ok (.iload_n 3, 1) := by decide +kernel
theorem dL_law_277 : decode cL_law 277 = .ok (.iconst 1, 1) := by decide +kernel
theorem dL_law_278 : decode cL_law 278 = .ok (.iadd, 1) := by decide +kernel
theorem dL_law_279 : decode cL_law 279 = .ok (.iaload, 1) := by decide +kernel
theorem dL_law_280 : decode cL_law 280 = .ok (.aload_n 0, 1) := by decide +kernel
theorem dL_law_281 : decode cL_law 281 = .ok (.iload_n 3, 1) := by decide +kernel
theorem dL_law_282 : decode cL_law 282 = .ok (.iconst 2, 1) := by decide +kernel
theorem dL_law_283 : decode cL_law 283 = .ok (.iadd, 1) := by decide +kernel
theorem dL_law_284 : decode cL_law 284 = .ok (.iaload, 1) := by decide +kernel
theorem dL_law_285 : decode cL_law 285 = .ok (.invokevirtual 33, 3) := by decide +kernel
theorem dL_law_288 : decode cL_law 288 = .ok (.aload_n 2, 1) := by decide +kernel
theorem dL_law_289 : decode cL_law 289 = .ok (.aload_n 0, 1) := by decide +kernel
theorem dL_law_290 : decode cL_law 290 = .ok (.iload_n 3, 1) := by decide +kernel
theorem dL_law_291 : decode cL_law 291 = .ok (.iconst 1, 1) := by decide +kernel
theorem dL_law_292 : decode cL_law 292 = .ok (.iadd, 1) := by decide +kernel
theorem dL_law_293 : decode cL_law 293 = .ok (.iaload, 1) := by decide +kernel
theorem dL_law_294 : decode cL_law 294 = .ok (.aload_n 0, 1) := by decide +kernel
theorem dL_law_295 : decode cL_law 295 = .ok (.iload_n 3, 1) := by decide +kernel
theorem dL_law_296 : decode cL_law 296 = .ok (.iconst 2, 1) := by decide +kernel
theorem dL_law_297 : decode cL_law 297 = .ok (.iadd, 1) := by decide +kernel
theorem dL_law_298 : decode cL_law 298 = .ok (.iaload, 1) := by decide +kernel
theorem dL_law_299 : decode cL_law 299 = .ok (.invokevirtual 37, 3) := by decide +kernel
theorem dL_law_302 : decode cL_law 302 = .ok (.if_icmp .eq 905, 3) := by decide +kernel
theorem dL_law_305 : decode cL_law 305 = .ok (.iconst 0, 1) := by decide +kernel
theorem dL_law_306 : decode cL_law 306 = .ok (.ireturn, 1) := by decide +kernel
theorem dL_law_307 : decode cL_law 307 = .ok (.aload_n 1, 1) := by decide +kernel
theorem dL_law_308 : decode cL_law 308 = .ok (.aload_n 0, 1) := by decide +kernel
theorem dL_law_309 : decode cL_law 309 = .ok (.iload_n 3, 1) := by decide +kernel
theorem dL_law_310 : decode cL_law 310 = .ok (.iconst 1, 1) := by decide +kernel
theorem dL_law_311 : decode cL_law 311 = .ok (.iadd, 1) := by decide +kernel
theorem dL_law_312 : decode cL_law 312 = .ok (.iaload, 1) := by decide +kernel
theorem dL_law_313 : decode cL_law 313 = .ok (.aload_n 0, 1) := by decide +kernel
theorem dL_law_314 : decode cL_law 314 = .ok (.iload_n 3, 1) := by decide +kernel
theorem dL_law_315 : decode cL_law 315 = .ok (.iconst 2, 1) := by decide +kernel
theorem dL_law_316 : decode cL_law 316 = .ok (.iadd, 1) := by decide +kernel
theorem dL_law_317 : decode cL_law 317 = .ok (.iaload, 1) := by decide +kernel
theorem dL_law_318 : decode cL_law 318 = .ok (.invokevirtual 38, 3) := by decide +kernel
theorem dL_law_321 : decode cL_law 321 = .ok (.aload_n 2, 1) := by decide +kernel
theorem dL_law_322 : decode cL_law 322 = .ok (.aload_n 0, 1) := by decide +kernel
theorem dL_law_323 : decode cL_law 323 = .ok (.iload_n 3, 1) := by decide +kernel
theorem dL_law_324 : decode cL_law 324 = .ok (.iconst 1, 1) := by decide +kernel
theorem dL_law_325 : decode cL_law 325 = .ok (.iadd, 1) := by decide +kernel
theorem dL_law_326 : decode cL_law 326 = .ok (.iaload, 1) := by decide +kernel
theorem dL_law_327 : decode cL_law 327 = .ok (.aload_n 0, 1) := by decide +kernel
theorem dL_law_328 : decode cL_law 328 = .ok (.iload_n 3, 1) := by decide +kernel
theorem dL_law_329 : decode cL_law 329 = .ok (.iconst 2, 1) := by decide +kernel
theorem dL_law_330 : decode cL_law 330 = .ok (.iadd, 1) := by decide +kernel
theorem dL_law_331 : decode cL_law 331 = .ok (.iaload, 1) := by decide +kernel
theorem dL_law_332 : decode cL_law 332 = .ok (.invokevirtual 41, 3) := by decide +kernel
theorem dL_law_335 : decode cL_law 335 = .ok (.if_icmp .eq 872, 3) := by decide +kernel
theorem dL_law_338 : decode cL_law 338 = .ok (.iconst 0, 1) := by decide +kernel
theorem dL_law_339 : decode cL_law 339 = .ok (.ireturn, 1) := by decide +kernel
theorem dL_law_340 : decode cL_law 340 = .ok (.aload_n 1, 1) := by decide +kernel
theorem dL_law_341 : decode cL_law 341 = .ok (.aload_n 0, 1) := by decide +kernel
theorem dL_law_342 : decode cL_law 342 = .ok (.iload_n 3, 1) := by decide +kernel
theorem dL_law_343 : decode cL_law 343 = .ok (.iconst 1, 1) := by decide +kernel
theorem dL_law_344 : decode cL_law 344 = .ok (.iadd, 1) := by decide +kernel
theorem dL_law_345 : decode cL_law 345 = .ok (.iaload, 1) := by decide +kernel
theorem dL_law_346 : decode cL_law 346 = .ok (.aload_n 0, 1) := by decide +kernel
theorem dL_law_347 : decode cL_law 347 = .ok (.iload_n 3, 1) := by decide +kernel
theorem dL_law_348 : decode cL_law 348 = .ok (.iconst 2, 1) := by decide +kernel
theorem dL_law_349 : decode cL_law 349 = .ok (.iadd, 1) := by decide +kernel
theorem dL_law_350 : decode cL_law 350 = .ok (.iaload, 1) := by decide +kernel
theorem dL_law_351 : decode cL_law 351 = .ok (.aload_n 0, 1) := by decide +kernel
theorem dL_law_352 : decode cL_law 352 = .ok (.iload_n 3, 1) := by decide +kernel
theorem dL_law_353 : decode cL_law 353 = .ok (.iconst 3, 1) := by decide +kernel
theorem dL_law_354 : decode cL_law 354 = .ok (.iadd, 1) := by decide +kernel
theorem dL_law_355 : decode cL_law 355 = .ok (.iaload, 1) := by decide +kernel
theorem dL_law_356 : decode cL_law 356 = .ok (.invokevirtual 42, 3) := by decide +kernel
theorem dL_law_359 : decode cL_law 359 = .ok (.aload_n 2, 1) := by decide +kernel
theorem dL_law_360 : decode cL_law 360 = .ok (.aload_n 0, 1) := by decide +kernel
theorem dL_law_361 : decode cL_law 361 = .ok (.iload_n 3, 1) := by decide +kernel
theorem dL_law_362 : decode cL_law 362 = .ok (.iconst 1, 1) := by decide +kernel
theorem dL_law_363 : decode cL_law 363 = .ok (.iadd, 1) := by decide +kernel
theorem dL_law_364 : decode cL_law 364 = .ok (.iaload, 1) := by decide +kernel
theorem dL_law_365 : decode cL_law 365 = .ok (.aload_n 0, 1) := by decide +kernel
theorem dL_law_366 : decode cL_law 366 = .ok (.iload_n 3, 1) := by decide +kernel
theorem dL_law_367 : decode cL_law 367 = .ok (.iconst 2, 1) := by decide +kernel
theorem dL_law_368 : decode cL_law 368 = .ok (.iadd, 1) := by decide +kernel
theorem dL_law_369 : decode cL_law 369 = .ok (.iaload, 1) := by decide +kernel
theorem dL_law_370 : decode cL_law 370 = .ok (.aload_n 0, 1) := by decide +kernel
theorem dL_law_371 : decode cL_law 371 = .ok (.iload_n 3, 1) := by decide +kernel
theorem dL_law_372 : decode cL_law 372 = .ok (.iconst 3, 1) := by decide +kernel
theorem dL_law_373 : decode cL_law 373 = .ok (.iadd, 1) := by decide +kernel
theorem dL_law_374 : decode cL_law 374 = .ok (.iaload, 1) := by decide +kernel
theorem dL_law_375 : decode cL_law 375 = .ok (.invokevirtual 46, 3) := by decide +kernel
theorem dL_law_378 : decode cL_law 378 = .ok (.if_icmp .eq 829, 3) := by decide +kernel
theorem dL_law_381 : decode cL_law 381 = .ok (.iconst 0, 1) := by decide +kernel
theorem dL_law_382 : decode cL_law 382 = .ok (.ireturn, 1) := by decide +kernel
theorem dL_law_383 : decode cL_law 383 = .ok (.aload_n 1, 1) := by decide +kernel
theorem dL_law_384 : decode cL_law 384 = .ok (.aload_n 0, 1) := by decide +kernel
theorem dL_law_385 : decode cL_law 385 = .ok (.iload_n 3, 1) := by decide +kernel
theorem dL_law_386 : decode cL_law 386 = .ok (.iconst 1, 1) := by decide +kernel
theorem dL_law_387 : decode cL_law 387 = .ok (.iadd, 1) := by decide +kernel
theorem dL_law_388 : decode cL_law 388 = .ok (.iaload, 1) := by decide +kernel
theorem dL_law_389 : decode cL_law 389 = .ok (.aload_n 0, 1) := by decide +kernel
theorem dL_law_390 : decode cL_law 390 = .ok (.iload_n 3, 1) := by decide +kernel
theorem dL_law_391 : decode cL_law 391 = .ok (.iconst 2, 1) := by decide +kernel
theorem dL_law_392 : decode cL_law 392 = .ok (.iadd, 1) := by decide +kernel
theorem dL_law_393 : decode cL_law 393 = .ok (.iaload, 1) := by decide +kernel
theorem dL_law_394 : decode cL_law 394 = .ok (.aload_n 0, 1) := by decide +kernel
theorem dL_law_395 : decode cL_law 395 = .ok (.iload_n 3, 1) := by decide +kernel
theorem dL_law_396 : decode cL_law 396 = .ok (.iconst 3, 1) := by decide +kernel
theorem dL_law_397 : decode cL_law 397 = .ok (.iadd, 1) := by decide +kernel
theorem dL_law_398 : decode cL_law 398 = .ok (.iaload, 1) := by decide +kernel
theorem dL_law_399 : decode cL_law 399 = .ok (.aload_n 0, 1) := by decide +kernel
theorem dL_law_400 : decode cL_law 400 = .ok (.iload_n 3, 1) := by decide +kernel
theorem dL_law_401 : decode cL_law 401 = .ok (.iconst 4, 1) := by decide +kernel
theorem dL_law_402 : decode cL_law 402 = .ok (.iadd, 1) := by decide +kernel
theorem dL_law_403 : decode cL_law 403 = .ok (.iaload, 1) := by decide +kernel
theorem dL_law_404 : decode cL_law 404 = .ok (.aload_n 0, 1) := by decide +kernel
theorem dL_law_405 : decode cL_law 405 = .ok (.iload_n 3, 1) := by decide +kernel
theorem dL_law_406 : decode cL_law 406 = .ok (.iconst 5, 1) := by decide +kernel
theorem dL_law_407 : decode cL_law 407 = .ok (.iadd, 1) := by decide +kernel
theorem dL_law_408 : decode cL_law 408 = .ok (.iaload, 1) := by decide +kernel
theorem dL_law_409 : decode cL_law 409 = .ok (.invokevirtual 47, 3) := by decide +kernel
theorem dL_law_412 : decode cL_law 412 = .ok (.aload_n 2, 1) := by decide +kernel
theorem dL_law_413 : decode cL_law 413 = .ok (.aload_n 0, 1) := by decide +kernel
theorem dL_law_414 : decode cL_law 414 = .ok (.iload_n 3, 1) := by decide +kernel
theorem dL_law_415 : decode cL_law 415 = .ok (.iconst 1, 1) := by decide +kernel
theorem dL_law_416 : decode cL_law 416 = .ok (.iadd, 1) := by decide +kernel
theorem dL_law_417 : decode cL_law 417 = .ok (.iaload, 1) := by decide +kernel
theorem dL_law_418 : decode cL_law 418 = .ok (.aload_n 0, 1) := by decide +kernel
theorem dL_law_419 : decode cL_law 419 = .ok (.iload_n 3, 1) := by decide +kernel
theorem dL_law_420 : decode cL_law 420 = .ok (.iconst 2, 1) := by decide +kernel
theorem dL_law_421 : decode cL_law 421 = .ok (.iadd, 1) := by decide +kernel
theorem dL_law_422 : decode cL_law 422 = .ok (.iaload, 1) := by decide +kernel
theorem dL_law_423 : decode cL_law 423 = .ok (.aload_n 0, 1) := by decide +kernel
theorem dL_law_424 : decode cL_law 424 = .ok (.iload_n 3, 1) := by decide +kernel
theorem dL_law_425 : decode cL_law 425 = .ok (.iconst 3, 1) := by decide +kernel
theorem dL_law_426 : decode cL_law 426 = .ok (.iadd, 1) := by decide +kernel
theorem dL_law_427 : decode cL_law 427 = .ok (.iaload, 1) := by decide +kernel
theorem dL_law_428 : decode cL_law 428 = .ok (.aload_n 0, 1) := by decide +kernel
theorem dL_law_429 : decode cL_law 429 = .ok (.iload_n 3, 1) := by decide +kernel
theorem dL_law_430 : decode cL_law 430 = .ok (.iconst 4, 1) := by decide +kernel
theorem dL_law_431 : decode cL_law 431 = .ok (.iadd, 1) := by decide +kernel
theorem dL_law_432 : decode cL_law 432 = .ok (.iaload, 1) := by decide +kernel
theorem dL_law_433 : decode cL_law 433 = .ok (.aload_n 0, 1) := by decide +kernel
theorem dL_law_434 : decode cL_law 434 = .ok (.iload_n 3, 1) := by decide +kernel
theorem dL_law_435 : decode cL_law 435 = .ok (.iconst 5, 1) := by decide +kernel
theorem dL_law_436 : decode cL_law 436 = .ok (.iadd, 1) := by decide +kernel
theorem dL_law_437 : decode cL_law 437 = .ok (.iaload, 1) := by decide +kernel
theorem dL_law_438 : decode cL_law 438 = .ok (.invokevirtual 51, 3) := by decide +kernel
theorem dL_law_441 : decode cL_law 441 = .ok (.if_icmp .eq 766, 3) := by decide +kernel
theorem dL_law_444 : decode cL_law 444 = .ok (.iconst 0, 1) := by decide +kernel
theorem dL_law_445 : decode cL_law 445 = .ok (.ireturn, 1) := by decide +kernel
theorem dL_law_446 : decode cL_law 446 = .ok (.aload_n 1, 1) := by decide +kernel
theorem dL_law_447 : decode cL_law 447 = .ok (.aload_n 0, 1) := by decide +kernel
theorem dL_law_448 : decode cL_law 448 = .ok (.iload_n 3, 1) := by decide +kernel
theorem dL_law_449 : decode cL_law 449 = .ok (.iconst 1, 1) := by decide +kernel
theorem dL_law_450 : decode cL_law 450 = .ok (.iadd, 1) := by decide +kernel
theorem dL_law_451 : decode cL_law 451 = .ok (.iaload, 1) := by decide +kernel
theorem dL_law_452 : decode cL_law 452 = .ok (.aload_n 0, 1) := by decide +kernel
theorem dL_law_453 : decode cL_law 453 = .ok (.iload_n 3, 1) := by decide +kernel
theorem dL_law_454 : decode cL_law 454 = .ok (.iconst 2, 1) := by decide +kernel
theorem dL_law_455 : decode cL_law 455 = .ok (.iadd, 1) := by decide +kernel
theorem dL_law_456 : decode cL_law 456 = .ok (.iaload, 1) := by decide +kernel
theorem dL_law_457 : decode cL_law 457 = .ok (.aload_n 0, 1) := by decide +kernel
theorem dL_law_458 : decode cL_law 458 = .ok (.iload_n 3, 1) := by decide +kernel
theorem dL_law_459 : decode cL_law 459 = .ok (.iconst 3, 1) := by decide +kernel
theorem dL_law_460 : decode cL_law 460 = .ok (.iadd, 1) := by decide +kernel
theorem dL_law_461 : decode cL_law 461 = .ok (.iaload, 1) := by decide +kernel
theorem dL_law_462 : decode cL_law 462 = .ok (.invokevirtual 52, 3) := by decide +kernel
theorem dL_law_465 : decode cL_law 465 = .ok (.aload_n 2, 1) := by decide +kernel
theorem dL_law_466 : decode cL_law 466 = .ok (.aload_n 0, 1) := by decide +kernel
theorem dL_law_467 : decode cL_law 467 = .ok (.iload_n 3, 1) := by decide +kernel
theorem dL_law_468 : decode cL_law 468 = .ok (.iconst 1, 1) := by decide +kernel
theorem dL_law_469 : decode cL_law 469 = .ok (.iadd, 1) := by decide +kernel
theorem dL_law_470 : decode cL_law 470 = .ok (.iaload, 1) := by decide +kernel
theorem dL_law_471 : decode cL_law 471 = .ok (.aload_n 0, 1) := by decide +kernel
theorem dL_law_472 : decode cL_law 472 = .ok (.iload_n 3, 1) := by decide +kernel
theorem dL_law_473 : decode cL_law 473 = .ok (.iconst 2, 1) := by decide +kernel
theorem dL_law_474 : decode cL_law 474 = .ok (.iadd, 1) := by decide +kernel
theorem dL_law_475 : decode cL_law 475 = .ok (.iaload, 1) := by decide +kernel
theorem dL_law_476 : decode cL_law 476 = .ok (.aload_n 0, 1) := by decide +kernel
theorem dL_law_477 : decode cL_law 477 = .ok (.iload_n 3, 1) := by decide +kernel
theorem dL_law_478 : decode cL_law 478 = .ok (.iconst 3, 1) := by decide +kernel
theorem dL_law_479 : decode cL_law 479 = .ok (.iadd, 1) := by decide +kernel
theorem dL_law_480 : decode cL_law 480 = .ok (.iaload, 1) := by decide +kernel
theorem dL_law_481 : decode cL_law 481 = .ok (.invokevirtual 55, 3) := by decide +kernel
theorem dL_law_484 : decode cL_law 484 = .ok (.if_icmp .eq 723, 3) := by decide +kernel
theorem dL_law_487 : decode cL_law 487 = .ok (.iconst 0, 1) := by decide +kernel
theorem dL_law_488 : decode cL_law 488 = .ok (.ireturn, 1) := by decide +kernel
theorem dL_law_489 : decode cL_law 489 = .ok (.aload_n 1, 1) := by decide +kernel
theorem dL_law_490 : decode cL_law 490 = .ok (.aload_n 0, 1) := by decide +kernel
theorem dL_law_491 : decode cL_law 491 = .ok (.iload_n 3, 1) := by decide +kernel
theorem dL_law_492 : decode cL_law 492 = .ok (.iconst 1, 1) := by decide +kernel
theorem dL_law_493 : decode cL_law 493 = .ok (.iadd, 1) := by decide +kernel
theorem dL_law_494 : decode cL_law 494 = .ok (.iaload, 1) := by decide +kernel
theorem dL_law_495 : decode cL_law 495 = .ok (.aload_n 0, 1) := by decide +kernel
theorem dL_law_496 : decode cL_law 496 = .ok (.iload_n 3, 1) := by decide +kernel
theorem dL_law_497 : decode cL_law 497 = .ok (.iconst 2, 1) := by decide +kernel
theorem dL_law_498 : decode cL_law 498 = .ok (.iadd, 1) := by decide +kernel
theorem dL_law_499 : decode cL_law 499 = .ok (.iaload, 1) := by decide +kernel
theorem dL_law_500 : decode cL_law 500 = .ok (.aload_n 0, 1) := by decide +kernel
theorem dL_law_501 : decode cL_law 501 = .ok (.iload_n 3, 1) := by decide +kernel
theorem dL_law_502 : decode cL_law 502 = .ok (.iconst 3, 1) := by decide +kernel
theorem dL_law_503 : decode cL_law 503 = .ok (.iadd, 1) := by decide +kernel
theorem dL_law_504 : decode cL_law 504 = .ok (.iaload, 1) := by decide +kernel
theorem dL_law_505 : decode cL_law 505 = .ok (.invokevirtual 56, 3) := by decide +kernel
theorem dL_law_508 : decode cL_law 508 = .ok (.aload_n 2, 1) := by decide +kernel
theorem dL_law_509 : decode cL_law 509 = .ok (.aload_n 0, 1) := by decide +kernel
theorem dL_law_510 : decode cL_law 510 = .ok (.iload_n 3, 1) := by decide +kernel
theorem dL_law_511 : decode cL_law 511 = .ok (.iconst 1, 1) := by decide +kernel
theorem dL_law_512 : decode cL_law 512 = .ok (.iadd, 1) := by decide +kernel
theorem dL_law_513 : decode cL_law 513 = .ok (.iaload, 1) := by decide +kernel
theorem dL_law_514 : decode cL_law 514 = .ok (.aload_n 0, 1) := by decide +kernel
theorem dL_law_515 : decode cL_law 515 = .ok (.iload_n 3, 1) := by decide +kernel
theorem dL_law_516 : decode cL_law 516 = .ok (.iconst 2, 1) := by decide +kernel
theorem dL_law_517 : decode cL_law 517 = .ok (.iadd, 1) := by decide +kernel
theorem dL_law_518 : decode cL_law 518 = .ok (.iaload, 1) := by decide +kernel
theorem dL_law_519 : decode cL_law 519 = .ok (.aload_n 0, 1) := by decide +kernel
theorem dL_law_520 : decode cL_law 520 = .ok (.iload_n 3, 1) := by decide +kernel
theorem dL_law_521 : decode cL_law 521 = .ok (.iconst 3, 1) := by decide +kernel
theorem dL_law_522 : decode cL_law 522 = .ok (.iadd, 1) := by decide +kernel
theorem dL_law_523 : decode cL_law 523 = .ok (.iaload, 1) := by decide +kernel
theorem dL_law_524 : decode cL_law 524 = .ok (.invokevirtual 59, 3) := by decide +kernel
theorem dL_law_527 : decode cL_law 527 = .ok (.if_icmp .eq 680, 3) := by decide +kernel
theorem dL_law_530 : decode cL_law 530 = .ok (.iconst 0, 1) := by decide +kernel
theorem dL_law_531 : decode cL_law 531 = .ok (.ireturn, 1) := by decide +kernel
theorem dL_law_532 : decode cL_law 532 = .ok (.aload_n 1, 1) := by decide +kernel
theorem dL_law_533 : decode cL_law 533 = .ok (.aload_n 0, 1) := by decide +kernel
theorem dL_law_534 : decode cL_law 534 = .ok (.iload_n 3, 1) := by decide +kernel
theorem dL_law_535 : decode cL_law 535 = .ok (.iconst 1, 1) := by decide +kernel
theorem dL_law_536 : decode cL_law 536 = .ok (.iadd, 1) := by decide +kernel
theorem dL_law_537 : decode cL_law 537 = .ok (.iaload, 1) := by decide +kernel
theorem dL_law_538 : decode cL_law 538 = .ok (.aload_n 0, 1) := by decide +kernel
theorem dL_law_539 : decode cL_law 539 = .ok (.iload_n 3, 1) := by decide +kernel
theorem dL_law_540 : decode cL_law 540 = .ok (.iconst 2, 1) := by decide +kernel
theorem dL_law_541 : decode cL_law 541 = .ok (.iadd, 1) := by decide +kernel
theorem dL_law_542 : decode cL_law 542 = .ok (.iaload, 1) := by decide +kernel
theorem dL_law_543 : decode cL_law 543 = .ok (.invokevirtual 60, 3) := by decide +kernel
theorem dL_law_546 : decode cL_law 546 = .ok (.aload_n 2, 1) := by decide +kernel
theorem dL_law_547 : decode cL_law 547 = .ok (.aload_n 0, 1) := by decide +kernel
theorem dL_law_548 : decode cL_law 548 = .ok (.iload_n 3, 1) := by decide +kernel
theorem dL_law_549 : decode cL_law 549 = .ok (.iconst 1, 1) := by decide +kernel
theorem dL_law_550 : decode cL_law 550 = .ok (.iadd, 1) := by decide +kernel
theorem dL_law_551 : decode cL_law 551 = .ok (.iaload, 1) := by decide +kernel
theorem dL_law_552 : decode cL_law 552 = .ok (.aload_n 0, 1) := by decide +kernel
theorem dL_law_553 : decode cL_law 553 = .ok (.iload_n 3, 1) := by decide +kernel
theorem dL_law_554 : decode cL_law 554 = .ok (.iconst 2, 1) := by decide +kernel
theorem dL_law_555 : decode cL_law 555 = .ok (.iadd, 1) := by decide +kernel
theorem dL_law_556 : decode cL_law 556 = .ok (.iaload, 1) := by decide +kernel
theorem dL_law_557 : decode cL_law 557 = .ok (.invokevirtual 63, 3) := by decide +kernel
theorem dL_law_560 : decode cL_law 560 = .ok (.if_icmp .eq 647, 3) := by decide +kernel
theorem dL_law_563 : decode cL_law 563 = .ok (.iconst 0, 1) := by decide +kernel
theorem dL_law_564 : decode cL_law 564 = .ok (.ireturn, 1) := by decide +kernel
theorem dL_law_565 : decode cL_law 565 = .ok (.aload_n 1, 1) := by decide +kernel
theorem dL_law_566 : decode cL_law 566 = .ok (.aload_n 0, 1) := by decide +kernel
theorem dL_law_567 : decode cL_law 567 = .ok (.iload_n 3, 1) := by decide +kernel
theorem dL_law_568 : decode cL_law 568 = .ok (.iconst 1, 1) := by decide +kernel
theorem dL_law_569 : decode cL_law 569 = .ok (.iadd, 1) := by decide +kernel
theorem dL_law_570 : decode cL_law 570 = .ok (.iaload, 1) := by decide +kernel
theorem dL_law_571 : decode cL_law 571 = .ok (.aload_n 0, 1) := by decide +kernel
theorem dL_law_572 : decode cL_law 572 = .ok (.iload_n 3, 1) := by decide +kernel
theorem dL_law_573 : decode cL_law 573 = .ok (.iconst 2, 1) := by decide +kernel
theorem dL_law_574 : decode cL_law 574 = .ok (.iadd, 1) := by decide +kernel
theorem dL_law_575 : decode cL_law 575 = .ok (.iaload, 1) := by decide +kernel
theorem dL_law_576 : decode cL_law 576 = .ok (.invokevirtual 64, 3) := by decide +kernel
theorem dL_law_579 : decode cL_law 579 = .ok (.aload_n 2, 1) := by decide +kernel
theorem dL_law_580 : decode cL_law 580 = .ok (.aload_n 0, 1) := by decide +kernel
theorem dL_law_581 : decode cL_law 581 = .ok (.iload_n 3, 1) := by decide +kernel
theorem dL_law_582 : decode cL_law 582 = .ok (.iconst 1, 1) := by decide +kernel
theorem dL_law_583 : decode cL_law 583 = .ok (.iadd, 1) := by decide +kernel
theorem dL_law_584 : decode cL_law 584 = .ok (.iaload, 1) := by decide +kernel
theorem dL_law_585 : decode cL_law 585 = .ok (.aload_n 0, 1) := by decide +kernel
theorem dL_law_586 : decode cL_law 586 = .ok (.iload_n 3, 1) := by decide +kernel
theorem dL_law_587 : decode cL_law 587 = .ok (.iconst 2, 1) := by decide +kernel
theorem dL_law_588 : decode cL_law 588 = .ok (.iadd, 1) := by decide +kernel
theorem dL_law_589 : decode cL_law 589 = .ok (.iaload, 1) := by decide +kernel
theorem dL_law_590 : decode cL_law 590 = .ok (.invokevirtual 67, 3) := by decide +kernel
theorem dL_law_593 : decode cL_law 593 = .ok (.if_icmp .eq 614, 3) := by decide +kernel
theorem dL_law_596 : decode cL_law 596 = .ok (.iconst 0, 1) := by decide +kernel
theorem dL_law_597 : decode cL_law 597 = .ok (.ireturn, 1) := by decide +kernel
theorem dL_law_598 : decode cL_law 598 = .ok (.aload_n 1, 1) := by decide +kernel
theorem dL_law_599 : decode cL_law 599 = .ok (.aload_n 0, 1) := by decide +kernel
theorem dL_law_600 : decode cL_law 600 = .ok (.iload_n 3, 1) := by decide +kernel
theorem dL_law_601 : decode cL_law 601 = .ok (.iconst 1, 1) := by decide +kernel
theorem dL_law_602 : decode cL_law 602 = .ok (.iadd, 1) := by decide +kernel
theorem dL_law_603 : decode cL_law 603 = .ok (.iaload, 1) := by decide +kernel
theorem dL_law_604 : decode cL_law 604 = .ok (.invokevirtual 68, 3) := by decide +kernel
theorem dL_law_607 : decode cL_law 607 = .ok (.aload_n 2, 1) := by decide +kernel
theorem dL_law_608 : decode cL_law 608 = .ok (.aload_n 0, 1) := by decide +kernel
theorem dL_law_609 : decode cL_law 609 = .ok (.iload_n 3, 1) := by decide +kernel
theorem dL_law_610 : decode cL_law 610 = .ok (.iconst 1, 1) := by decide +kernel
theorem dL_law_611 : decode cL_law 611 = .ok (.iadd, 1) := by decide +kernel
theorem dL_law_612 : decode cL_law 612 = .ok (.iaload, 1) := by decide +kernel
theorem dL_law_613 : decode cL_law 613 = .ok (.invokevirtual 72, 3) := by decide +kernel
theorem dL_law_616 : decode cL_law 616 = .ok (.if_icmp .eq 591, 3) := by decide +kernel
theorem dL_law_619 : decode cL_law 619 = .ok (.iconst 0, 1) := by decide +kernel
theorem dL_law_620 : decode cL_law 620 = .ok (.ireturn, 1) := by decide +kernel
theorem dL_law_621 : decode cL_law 621 = .ok (.aload_n 1, 1) := by decide +kernel
theorem dL_law_622 : decode cL_law 622 = .ok (.aload_n 0, 1) := by decide +kernel
theorem dL_law_623 : decode cL_law 623 = .ok (.iload_n 3, 1) := by decide +kernel
theorem dL_law_624 : decode cL_law 624 = .ok (.iconst 1, 1) := by decide +kernel
theorem dL_law_625 : decode cL_law 625 = .ok (.iadd, 1) := by decide +kernel
theorem dL_law_626 : decode cL_law 626 = .ok (.iaload, 1) := by decide +kernel
theorem dL_law_627 : decode cL_law 627 = .ok (.invokevirtual 73, 3) := by decide +kernel
theorem dL_law_630 : decode cL_law 630 = .ok (.aload_n 2, 1) := by decide +kernel
theorem dL_law_631 : decode cL_law 631 = .ok (.aload_n 0, 1) := by decide +kernel
theorem dL_law_632 : decode cL_law 632 = .ok (.iload_n 3, 1) := by decide +kernel
theorem dL_law_633 : decode cL_law 633 = .ok (.iconst 1, 1) := by decide +kernel
theorem dL_law_634 : decode cL_law 634 = .ok (.iadd, 1) := by decide +kernel
theorem dL_law_635 : decode cL_law 635 = .ok (.iaload, 1) := by decide +kernel
theorem dL_law_636 : decode cL_law 636 = .ok (.invokevirtual 76, 3) := by decide +kernel
theorem dL_law_639 : decode cL_law 639 = .ok (.if_icmp .eq 568, 3) := by decide +kernel
theorem dL_law_642 : decode cL_law 642 = .ok (.iconst 0, 1) := by decide +kernel
theorem dL_law_643 : decode cL_law 643 = .ok (.ireturn, 1) := by decide +kernel
theorem dL_law_644 : decode cL_law 644 = .ok (.aload_n 1, 1) := by decide +kernel
theorem dL_law_645 : decode cL_law 645 = .ok (.aload_n 0, 1) := by decide +kernel
theorem dL_law_646 : decode cL_law 646 = .ok (.iload_n 3, 1) := by decide +kernel
theorem dL_law_647 : decode cL_law 647 = .ok (.iconst 1, 1) := by decide +kernel
theorem dL_law_648 : decode cL_law 648 = .ok (.iadd, 1) := by decide +kernel
theorem dL_law_649 : decode cL_law 649 = .ok (.iaload, 1) := by decide +kernel
theorem dL_law_650 : decode cL_law 650 = .ok (.aload_n 0, 1) := by decide +kernel
theorem dL_law_651 : decode cL_law 651 = .ok (.iload_n 3, 1) := by decide +kernel
theorem dL_law_652 : decode cL_law 652 = .ok (.iconst 2, 1) := by decide +kernel
theorem dL_law_653 : decode cL_law 653 = .ok (.iadd, 1) := by decide +kernel
theorem dL_law_654 : decode cL_law 654 = .ok (.iaload, 1) := by decide +kernel
theorem dL_law_655 : decode cL_law 655 = .ok (.invokevirtual 77, 3) := by decide +kernel
theorem dL_law_658 : decode cL_law 658 = .ok (.aload_n 2, 1) := by decide +kernel
theorem dL_law_659 : decode cL_law 659 = .ok (.aload_n 0, 1) := by decide +kernel
theorem dL_law_660 : decode cL_law 660 = .ok (.iload_n 3, 1) := by decide +kernel
theorem dL_law_661 : decode cL_law 661 = .ok (.iconst 1, 1) := by decide +kernel
theorem dL_law_662 : decode cL_law 662 = .ok (.iadd, 1) := by decide +kernel
theorem dL_law_663 : decode cL_law 663 = .ok (.iaload, 1) := by decide +kernel
theorem dL_law_664 : decode cL_law 664 = .ok (.aload_n 0, 1) := by decide +kernel
theorem dL_law_665 : decode cL_law 665 = .ok (.iload_n 3, 1) := by decide +kernel
theorem dL_law_666 : decode cL_law 666 = .ok (.iconst 2, 1) := by decide +kernel
theorem dL_law_667 : decode cL_law 667 = .ok (.iadd, 1) := by decide +kernel
theorem dL_law_668 : decode cL_law 668 = .ok (.iaload, 1) := by decide +kernel
theorem dL_law_669 : decode cL_law 669 = .ok (.invokevirtual 80, 3) := by decide +kernel
theorem dL_law_672 : decode cL_law 672 = .ok (.if_icmp .eq 535, 3) := by decide +kernel
theorem dL_law_675 : decode cL_law 675 = .ok (.iconst 0, 1) := by decide +kernel
theorem dL_law_676 : decode cL_law 676 = .ok (.ireturn, 1) := by decide +kernel
theorem dL_law_677 : decode cL_law 677 = .ok (.aload_n 1, 1) := by decide +kernel
theorem dL_law_678 : decode cL_law 678 = .ok (.aload_n 0, 1) := by decide +kernel
theorem dL_law_679 : decode cL_law 679 = .ok (.iload_n 3, 1) := by decide +kernel
theorem dL_law_680 : decode cL_law 680 = .ok (.iconst 1, 1) := by decide +kernel
theorem dL_law_681 : decode cL_law 681 = .ok (.iadd, 1) := by decide +kernel
theorem dL_law_682 : decode cL_law 682 = .ok (.iaload, 1) := by decide +kernel
theorem dL_law_683 : decode cL_law 683 = .ok (.invokevirtual 81, 3) := by decide +kernel
theorem dL_law_686 : decode cL_law 686 = .ok (.aload_n 2, 1) := by decide +kernel
theorem dL_law_687 : decode cL_law 687 = .ok (.aload_n 0, 1) := by decide +kernel
theorem dL_law_688 : decode cL_law 688 = .ok (.iload_n 3, 1) := by decide +kernel
theorem dL_law_689 : decode cL_law 689 = .ok (.iconst 1, 1) := by decide +kernel
theorem dL_law_690 : decode cL_law 690 = .ok (.iadd, 1) := by decide +kernel
theorem dL_law_691 : decode cL_law 691 = .ok (.iaload, 1) := by decide +kernel
theorem dL_law_692 : decode cL_law 692 = .ok (.invokevirtual 84, 3) := by decide +kernel
theorem dL_law_695 : decode cL_law 695 = .ok (.if_icmp .eq 512, 3) := by decide +kernel
theorem dL_law_698 : decode cL_law 698 = .ok (.iconst 0, 1) := by decide +kernel
theorem dL_law_699 : decode cL_law 699 = .ok (.ireturn, 1) := by decide +kernel
theorem dL_law_700 : decode cL_law 700 = .ok (.aload_n 1, 1) := by decide +kernel
theorem dL_law_701 : decode cL_law 701 = .ok (.aload_n 0, 1) := by decide +kernel
theorem dL_law_702 : decode cL_law 702 = .ok (.iload_n 3, 1) := by decide +kernel
theorem dL_law_703 : decode cL_law 703 = .ok (.iconst 1, 1) := by decide +kernel
theorem dL_law_704 : decode cL_law 704 = .ok (.iadd, 1) := by decide +kernel
theorem dL_law_705 : decode cL_law 705 = .ok (.iaload, 1) := by decide +kernel
theorem dL_law_706 : decode cL_law 706 = .ok (.aload_n 0, 1) := by decide +kernel
theorem dL_law_707 : decode cL_law 707 = .ok (.iload_n 3, 1) := by decide +kernel
theorem dL_law_708 : decode cL_law 708 = .ok (.iconst 2, 1) := by decide +kernel
theorem dL_law_709 : decode cL_law 709 = .ok (.iadd, 1) := by decide +kernel
theorem dL_law_710 : decode cL_law 710 = .ok (.iaload, 1) := by decide +kernel
theorem dL_law_711 : decode cL_law 711 = .ok (.invokevirtual 85, 3) := by decide +kernel
theorem dL_law_714 : decode cL_law 714 = .ok (.aload_n 2, 1) := by decide +kernel
theorem dL_law_715 : decode cL_law 715 = .ok (.aload_n 0, 1) := by decide +kernel
theorem dL_law_716 : decode cL_law 716 = .ok (.iload_n 3, 1) := by decide +kernel
theorem dL_law_717 : decode cL_law 717 = .ok (.iconst 1, 1) := by decide +kernel
theorem dL_law_718 : decode cL_law 718 = .ok (.iadd, 1) := by decide +kernel
theorem dL_law_719 : decode cL_law 719 = .ok (.iaload, 1) := by decide +kernel
theorem dL_law_720 : decode cL_law 720 = .ok (.aload_n 0, 1) := by decide +kernel
theorem dL_law_721 : decode cL_law 721 = .ok (.iload_n 3, 1) := by decide +kernel
theorem dL_law_722 : decode cL_law 722 = .ok (.iconst 2, 1) := by decide +kernel
theorem dL_law_723 : decode cL_law 723 = .ok (.iadd, 1) := by decide +kernel
theorem dL_law_724 : decode cL_law 724 = .ok (.iaload, 1) := by decide +kernel
theorem dL_law_725 : decode cL_law 725 = .ok (.invokevirtual 88, 3) := by decide +kernel
theorem dL_law_728 : decode cL_law 728 = .ok (.if_icmp .eq 479, 3) := by decide +kernel
theorem dL_law_731 : decode cL_law 731 = .ok (.iconst 0, 1) := by decide +kernel
theorem dL_law_732 : decode cL_law 732 = .ok (.ireturn, 1) := by decide +kernel
theorem dL_law_733 : decode cL_law 733 = .ok (.aload_n 1, 1) := by decide +kernel
theorem dL_law_734 : decode cL_law 734 = .ok (.aload_n 0, 1) := by decide +kernel
theorem dL_law_735 : decode cL_law 735 = .ok (.iload_n 3, 1) := by decide +kernel
theorem dL_law_736 : decode cL_law 736 = .ok (.iconst 1, 1) := by decide +kernel
theorem dL_law_737 : decode cL_law 737 = .ok (.iadd, 1) := by decide +kernel
theorem dL_law_738 : decode cL_law 738 = .ok (.iaload, 1) := by decide +kernel
theorem dL_law_739 : decode cL_law 739 = .ok (.invokevirtual 89, 3) := by decide +kernel
theorem dL_law_742 : decode cL_law 742 = .ok (.aload_n 2, 1) := by decide +kernel
theorem dL_law_743 : decode cL_law 743 = .ok (.aload_n 0, 1) := by decide +kernel
theorem dL_law_744 : decode cL_law 744 = .ok (.iload_n 3, 1) := by decide +kernel
theorem dL_law_745 : decode cL_law 745 = .ok (.iconst 1, 1) := by decide +kernel
theorem dL_law_746 : decode cL_law 746 = .ok (.iadd, 1) := by decide +kernel
theorem dL_law_747 : decode cL_law 747 = .ok (.iaload, 1) := by decide +kernel
theorem dL_law_748 : decode cL_law 748 = .ok (.invokevirtual 92, 3) := by decide +kernel
theorem dL_law_751 : decode cL_law 751 = .ok (.if_icmp .eq 456, 3) := by decide +kernel
theorem dL_law_754 : decode cL_law 754 = .ok (.iconst 0, 1) := by decide +kernel
theorem dL_law_755 : decode cL_law 755 = .ok (.ireturn, 1) := by decide +kernel
theorem dL_law_756 : decode cL_law 756 = .ok (.aload_n 1, 1) := by decide +kernel
theorem dL_law_757 : decode cL_law 757 = .ok (.aload_n 0, 1) := by decide +kernel
theorem dL_law_758 : decode cL_law 758 = .ok (.iload_n 3, 1) := by decide +kernel
theorem dL_law_759 : decode cL_law 759 = .ok (.iconst 1, 1) := by decide +kernel
theorem dL_law_760 : decode cL_law 760 = .ok (.iadd, 1) := by decide +kernel
theorem dL_law_761 : decode cL_law 761 = .ok (.iaload, 1) := by decide +kernel
theorem dL_law_762 : decode cL_law 762 = .ok (.invokevirtual 93, 3) := by decide +kernel
theorem dL_law_765 : decode cL_law 765 = .ok (.aload_n 2, 1) := by decide +kernel
theorem dL_law_766 : decode cL_law 766 = .ok (.aload_n 0, 1) := by decide +kernel
theorem dL_law_767 : decode cL_law 767 = .ok (.iload_n 3, 1) := by decide +kernel
theorem dL_law_768 : decode cL_law 768 = .ok (.iconst 1, 1) := by decide +kernel
theorem dL_law_769 : decode cL_law 769 = .ok (.iadd, 1) := by decide +kernel
theorem dL_law_770 : decode cL_law 770 = .ok (.iaload, 1) := by decide +kernel
theorem dL_law_771 : decode cL_law 771 = .ok (.invokevirtual 96, 3) := by decide +kernel
theorem dL_law_774 : decode cL_law 774 = .ok (.if_icmp .eq 433, 3) := by decide +kernel
theorem dL_law_777 : decode cL_law 777 = .ok (.iconst 0, 1) := by decide +kernel
theorem dL_law_778 : decode cL_law 778 = .ok (.ireturn, 1) := by decide +kernel
theorem dL_law_779 : decode cL_law 779 = .ok (.aload_n 1, 1) := by decide +kernel
theorem dL_law_780 : decode cL_law 780 = .ok (.aload_n 0, 1) := by decide +kernel
theorem dL_law_781 : decode cL_law 781 = .ok (.iload_n 3, 1) := by decide +kernel
theorem dL_law_782 : decode cL_law 782 = .ok (.iconst 1, 1) := by decide +kernel
theorem dL_law_783 : decode cL_law 783 = .ok (.iadd, 1) := by decide +kernel
theorem dL_law_784 : decode cL_law 784 = .ok (.iaload, 1) := by decide +kernel
theorem dL_law_785 : decode cL_law 785 = .ok (.invokevirtual 97, 3) := by decide +kernel
theorem dL_law_788 : decode cL_law 788 = .ok (.aload_n 2, 1) := by decide +kernel
theorem dL_law_789 : decode cL_law 789 = .ok (.aload_n 0, 1) := by decide +kernel
theorem dL_law_790 : decode cL_law 790 = .ok (.iload_n 3, 1) := by decide +kernel
theorem dL_law_791 : decode cL_law 791 = .ok (.iconst 1, 1) := by decide +kernel
theorem dL_law_792 : decode cL_law 792 = .ok (.iadd, 1) := by decide +kernel
theorem dL_law_793 : decode cL_law 793 = .ok (.iaload, 1) := by decide +kernel
theorem dL_law_794 : decode cL_law 794 = .ok (.invokevirtual 100, 3) := by decide +kernel
theorem dL_law_797 : decode cL_law 797 = .ok (.if_icmp .eq 410, 3) := by decide +kernel
theorem dL_law_800 : decode cL_law 800 = .ok (.iconst 0, 1) := by decide +kernel
theorem dL_law_801 : decode cL_law 801 = .ok (.ireturn, 1) := by decide +kernel
theorem dL_law_802 : decode cL_law 802 = .ok (.aload_n 1, 1) := by decide +kernel
theorem dL_law_803 : decode cL_law 803 = .ok (.aload_n 0, 1) := by decide +kernel
theorem dL_law_804 : decode cL_law 804 = .ok (.iload_n 3, 1) := by decide +kernel
theorem dL_law_805 : decode cL_law 805 = .ok (.iconst 1, 1) := by decide +kernel
theorem dL_law_806 : decode cL_law 806 = .ok (.iadd, 1) := by decide +kernel
theorem dL_law_807 : decode cL_law 807 = .ok (.iaload, 1) := by decide +kernel
theorem dL_law_808 : decode cL_law 808 = .ok (.aload_n 0, 1) := by decide +kernel
theorem dL_law_809 : decode cL_law 809 = .ok (.iload_n 3, 1) := by decide +kernel
theorem dL_law_810 : decode cL_law 810 = .ok (.iconst 2, 1) := by decide +kernel
theorem dL_law_811 : decode cL_law 811 = .ok (.iadd, 1) := by decide +kernel
theorem dL_law_812 : decode cL_law 812 = .ok (.iaload, 1) := by decide +kernel
theorem dL_law_813 : decode cL_law 813 = .ok (.aload_n 0, 1) := by decide +kernel
theorem dL_law_814 : decode cL_law 814 = .ok (.iload_n 3, 1) := by decide +kernel
theorem dL_law_815 : decode cL_law 815 = .ok (.iconst 3, 1) := by decide +kernel
theorem dL_law_816 : decode cL_law 816 = .ok (.iadd, 1) := by decide +kernel
theorem dL_law_817 : decode cL_law 817 = .ok (.iaload, 1) := by decide +kernel
theorem dL_law_818 : decode cL_law 818 = .ok (.aload_n 0, 1) := by decide +kernel
theorem dL_law_819 : decode cL_law 819 = .ok (.iload_n 3, 1) := by decide +kernel
theorem dL_law_820 : decode cL_law 820 = .ok (.iconst 4, 1) := by decide +kernel
theorem dL_law_821 : decode cL_law 821 = .ok (.iadd, 1) := by decide +kernel
theorem dL_law_822 : decode cL_law 822 = .ok (.iaload, 1) := by decide +kernel
theorem dL_law_823 : decode cL_law 823 = .ok (.ifCond .eq 7, 3) := by decide +kernel
theorem dL_law_826 : decode cL_law 826 = .ok (.iconst 1, 1) := by decide +kernel
theorem dL_law_827 : decode cL_law 827 = .ok (.goto 4, 3) := by decide +kernel
theorem dL_law_830 : decode cL_law 830 = .ok (.iconst 0, 1) := by decide +kernel
theorem dL_law_831 : decode cL_law 831 = .ok (.aload_n 0, 1) := by decide +kernel
theorem dL_law_832 : decode cL_law 832 = .ok (.iload_n 3, 1) := by decide +kernel
theorem dL_law_833 : decode cL_law 833 = .ok (.iconst 5, 1) := by decide +kernel
theorem dL_law_834 : decode cL_law 834 = .ok (.iadd, 1) := by decide +kernel
theorem dL_law_835 : decode cL_law 835 = .ok (.iaload, 1) := by decide +kernel
theorem dL_law_836 : decode cL_law 836 = .ok (.invokevirtual 101, 3) := by decide +kernel
theorem dL_law_839 : decode cL_law 839 = .ok (.aload_n 2, 1) := by decide +kernel
theorem dL_law_840 : decode cL_law 840 = .ok (.aload_n 0, 1) := by decide +kernel
theorem dL_law_841 : decode cL_law 841 = .ok (.iload_n 3, 1) := by decide +kernel
theorem dL_law_842 : decode cL_law 842 = .ok (.iconst 1, 1) := by decide +kernel
theorem dL_law_843 : decode cL_law 843 = .ok (.iadd, 1) := by decide +kernel
theorem dL_law_844 : decode cL_law 844 = .ok (.iaload, 1) := by decide +kernel
theorem dL_law_845 : decode cL_law 845 = .ok (.aload_n 0, 1) := by decide +kernel
theorem dL_law_846 : decode cL_law 846 = .ok (.iload_n 3, 1) := by decide +kernel
theorem dL_law_847 : decode cL_law 847 = .ok (.iconst 2, 1) := by decide +kernel
theorem dL_law_848 : decode cL_law 848 = .ok (.iadd, 1) := by decide +kernel
theorem dL_law_849 : decode cL_law 849 = .ok (.iaload, 1) := by decide +kernel
theorem dL_law_850 : decode cL_law 850 = .ok (.aload_n 0, 1) := by decide +kernel
theorem dL_law_851 : decode cL_law 851 = .ok (.iload_n 3, 1) := by decide +kernel
theorem dL_law_852 : decode cL_law 852 = .ok (.iconst 3, 1) := by decide +kernel
theorem dL_law_853 : decode cL_law 853 = .ok (.iadd, 1) := by decide +kernel
theorem dL_law_854 : decode cL_law 854 = .ok (.iaload, 1) := by decide +kernel
theorem dL_law_855 : decode cL_law 855 = .ok (.aload_n 0, 1) := by decide +kernel
theorem dL_law_856 : decode cL_law 856 = .ok (.iload_n 3, 1) := by decide +kernel
theorem dL_law_857 : decode cL_law 857 = .ok (.iconst 4, 1) := by decide +kernel
theorem dL_law_858 : decode cL_law 858 = .ok (.iadd, 1) := by decide +kernel
theorem dL_law_859 : decode cL_law 859 = .ok (.iaload, 1) := by decide +kernel
theorem dL_law_860 : decode cL_law 860 = .ok (.ifCond .eq 7, 3) := by decide +kernel
theorem dL_law_863 : decode cL_law 863 = .ok (.iconst 1, 1) := by decide +kernel
theorem dL_law_864 : decode cL_law 864 = .ok (.goto 4, 3) := by decide +kernel
theorem dL_law_867 : decode cL_law 867 = .ok (.iconst 0, 1) := by decide +kernel
theorem dL_law_868 : decode cL_law 868 = .ok (.aload_n 0, 1) := by decide +kernel
theorem dL_law_869 : decode cL_law 869 = .ok (.iload_n 3, 1) := by decide +kernel
theorem dL_law_870 : decode cL_law 870 = .ok (.iconst 5, 1) := by decide +kernel
theorem dL_law_871 : decode cL_law 871 = .ok (.iadd, 1) := by decide +kernel
theorem dL_law_872 : decode cL_law 872 = .ok (.iaload, 1) := by decide +kernel
theorem dL_law_873 : decode cL_law 873 = .ok (.invokevirtual 105, 3) := by decide +kernel
theorem dL_law_876 : decode cL_law 876 = .ok (.if_icmp .eq 331, 3) := by decide +kernel
theorem dL_law_879 : decode cL_law 879 = .ok (.iconst 0, 1) := by decide +kernel
theorem dL_law_880 : decode cL_law 880 = .ok (.ireturn, 1) := by decide +kernel
theorem dL_law_881 : decode cL_law 881 = .ok (.aload_n 1, 1) := by decide +kernel
theorem dL_law_882 : decode cL_law 882 = .ok (.aload_n 0, 1) := by decide +kernel
theorem dL_law_883 : decode cL_law 883 = .ok (.iload_n 3, 1) := by decide +kernel
theorem dL_law_884 : decode cL_law 884 = .ok (.iconst 1, 1) := by decide +kernel
theorem dL_law_885 : decode cL_law 885 = .ok (.iadd, 1) := by decide +kernel
theorem dL_law_886 : decode cL_law 886 = .ok (.iaload, 1) := by decide +kernel
theorem dL_law_887 : decode cL_law 887 = .ok (.aload_n 0, 1) := by decide +kernel
theorem dL_law_888 : decode cL_law 888 = .ok (.iload_n 3, 1) := by decide +kernel
theorem dL_law_889 : decode cL_law 889 = .ok (.iconst 2, 1) := by decide +kernel
theorem dL_law_890 : decode cL_law 890 = .ok (.iadd, 1) := by decide +kernel
theorem dL_law_891 : decode cL_law 891 = .ok (.iaload, 1) := by decide +kernel
theorem dL_law_892 : decode cL_law 892 = .ok (.aload_n 0, 1) := by decide +kernel
theorem dL_law_893 : decode cL_law 893 = .ok (.iload_n 3, 1) := by decide +kernel
theorem dL_law_894 : decode cL_law 894 = .ok (.iconst 3, 1) := by decide +kernel
theorem dL_law_895 : decode cL_law 895 = .ok (.iadd, 1) := by decide +kernel
theorem dL_law_896 : decode cL_law 896 = .ok (.iaload, 1) := by decide +kernel
theorem dL_law_897 : decode cL_law 897 = .ok (.ifCond .eq 7, 3) := by decide +kernel
theorem dL_law_900 : decode cL_law 900 = .ok (.iconst 1, 1) := by decide +kernel
theorem dL_law_901 : decode cL_law 901 = .ok (.goto 4, 3) := by decide +kernel
theorem dL_law_904 : decode cL_law 904 = .ok (.iconst 0, 1) := by decide +kernel
theorem dL_law_905 : decode cL_law 905 = .ok (.aload_n 0, 1) := by decide +kernel
theorem dL_law_906 : decode cL_law 906 = .ok (.iload_n 3, 1) := by decide +kernel
theorem dL_law_907 : decode cL_law 907 = .ok (.iconst 4, 1) := by decide +kernel
theorem dL_law_908 : decode cL_law 908 = .ok (.iadd, 1) := by decide +kernel
theorem dL_law_909 : decode cL_law 909 = .ok (.iaload, 1) := by decide +kernel
theorem dL_law_910 : decode cL_law 910 = .ok (.invokevirtual 106, 3) := by decide +kernel
theorem dL_law_913 : decode cL_law 913 = .ok (.aload_n 2, 1) := by decide +kernel
theorem dL_law_914 : decode cL_law 914 = .ok (.aload_n 0, 1) := by decide +kernel
theorem dL_law_915 : decode cL_law 915 = .ok (.iload_n 3, 1) := by decide +kernel
theorem dL_law_916 : decode cL_law 916 = .ok (.iconst 1, 1) := by decide +kernel
theorem dL_law_917 : decode cL_law 917 = .ok (.iadd, 1) := by decide +kernel
theorem dL_law_918 : decode cL_law 918 = .ok (.iaload, 1) := by decide +kernel
theorem dL_law_919 : decode cL_law 919 = .ok (.aload_n 0, 1) := by decide +kernel
theorem dL_law_920 : decode cL_law 920 = .ok (.iload_n 3, 1) := by decide +kernel
theorem dL_law_921 : decode cL_law 921 = .ok (.iconst 2, 1) := by decide +kernel
theorem dL_law_922 : decode cL_law 922 = .ok (.iadd, 1) := by decide +kernel
theorem dL_law_923 : decode cL_law 923 = .ok (.iaload, 1) := by decide +kernel
theorem dL_law_924 : decode cL_law 924 = .ok (.aload_n 0, 1) := by decide +kernel
theorem dL_law_925 : decode cL_law 925 = .ok (.iload_n 3, 1) := by decide +kernel
theorem dL_law_926 : decode cL_law 926 = .ok (.iconst 3, 1) := by decide +kernel
theorem dL_law_927 : decode cL_law 927 = .ok (.iadd, 1) := by decide +kernel
theorem dL_law_928 : decode cL_law 928 = .ok (.iaload, 1) := by decide +kernel
theorem dL_law_929 : decode cL_law 929 = .ok (.ifCond .eq 7, 3) := by decide +kernel
theorem dL_law_932 : decode cL_law 932 = .ok (.iconst 1, 1) := by decide +kernel
theorem dL_law_933 : decode cL_law 933 = .ok (.goto 4, 3) := by decide +kernel
theorem dL_law_936 : decode cL_law 936 = .ok (.iconst 0, 1) := by decide +kernel
theorem dL_law_937 : decode cL_law 937 = .ok (.aload_n 0, 1) := by decide +kernel
theorem dL_law_938 : decode cL_law 938 = .ok (.iload_n 3, 1) := by decide +kernel
theorem dL_law_939 : decode cL_law 939 = .ok (.iconst 4, 1) := by decide +kernel
theorem dL_law_940 : decode cL_law 940 = .ok (.iadd, 1) := by decide +kernel
theorem dL_law_941 : decode cL_law 941 = .ok (.iaload, 1) := by decide +kernel
theorem dL_law_942 : decode cL_law 942 = .ok (.invokevirtual 110, 3) := by decide +kernel
theorem dL_law_945 : decode cL_law 945 = .ok (.if_icmp .eq 262, 3) := by decide +kernel
theorem dL_law_948 : decode cL_law 948 = .ok (.iconst 0, 1) := by decide +kernel
theorem dL_law_949 : decode cL_law 949 = .ok (.ireturn, 1) := by decide +kernel
theorem dL_law_950 : decode cL_law 950 = .ok (.aload_n 1, 1) := by decide +kernel
theorem dL_law_951 : decode cL_law 951 = .ok (.invokevirtual 111, 3) := by decide +kernel
theorem dL_law_954 : decode cL_law 954 = .ok (.aload_n 2, 1) := by decide +kernel
theorem dL_law_955 : decode cL_law 955 = .ok (.invokevirtual 114, 3) := by decide +kernel
theorem dL_law_958 : decode cL_law 958 = .ok (.if_icmp .eq 249, 3) := by decide +kernel
theorem dL_law_961 : decode cL_law 961 = .ok (.iconst 0, 1) := by decide +kernel
theorem dL_law_962 : decode cL_law 962 = .ok (.ireturn, 1) := by decide +kernel
theorem dL_law_963 : decode cL_law 963 = .ok (.aload_n 1, 1) := by decide +kernel
theorem dL_law_964 : decode cL_law 964 = .ok (.invokevirtual 115, 3) := by decide +kernel
theorem dL_law_967 : decode cL_law 967 = .ok (.aload_n 2, 1) := by decide +kernel
theorem dL_law_968 : decode cL_law 968 = .ok (.invokevirtual 118, 3) := by decide +kernel
theorem dL_law_971 : decode cL_law 971 = .ok (.if_icmp .eq 236, 3) := by decide +kernel
theorem dL_law_974 : decode cL_law 974 = .ok (.iconst 0, 1) := by decide +kernel
theorem dL_law_975 : decode cL_law 975 = .ok (.ireturn, 1) := by decide +kernel
theorem dL_law_976 : decode cL_law 976 = .ok (.aload_n 1, 1) := by decide +kernel
theorem dL_law_977 : decode cL_law 977 = .ok (.invokevirtual 119, 3) := by decide +kernel
theorem dL_law_980 : decode cL_law 980 = .ok (.aload_n 2, 1) := by decide +kernel
theorem dL_law_981 : decode cL_law 981 = .ok (.invokevirtual 122, 3) := by decide +kernel
theorem dL_law_984 : decode cL_law 984 = .ok (.if_icmp .eq 223, 3) := by decide +kernel
theorem dL_law_987 : decode cL_law 987 = .ok (.iconst 0, 1) := by decide +kernel
theorem dL_law_988 : decode cL_law 988 = .ok (.ireturn, 1) := by decide +kernel
theorem dL_law_989 : decode cL_law 989 = .ok (.aload_n 1, 1) := by decide +kernel
theorem dL_law_990 : decode cL_law 990 = .ok (.aload_n 0, 1) := by decide +kernel
theorem dL_law_991 : decode cL_law 991 = .ok (.iload_n 3, 1) := by decide +kernel
theorem dL_law_992 : decode cL_law 992 = .ok (.iconst 1, 1) := by decide +kernel
theorem dL_law_993 : decode cL_law 993 = .ok (.iadd, 1) := by decide +kernel
theorem dL_law_994 : decode cL_law 994 = .ok (.iaload, 1) := by decide +kernel
theorem dL_law_995 : decode cL_law 995 = .ok (.aload_n 0, 1) := by decide +kernel
theorem dL_law_996 : decode cL_law 996 = .ok (.iload_n 3, 1) := by decide +kernel
theorem dL_law_997 : decode cL_law 997 = .ok (.iconst 2, 1) := by decide +kernel
theorem dL_law_998 : decode cL_law 998 = .ok (.iadd, 1) := by decide +kernel
theorem dL_law_999 : decode cL_law 999 = .ok (.iaload, 1) := by decide +kernel
theorem dL_law_1000 : decode cL_law 1000 = .ok (.aload_n 0, 1) := by decide +kernel
theorem dL_law_1001 : decode cL_law 1001 = .ok (.iload_n 3, 1) := by decide +kernel
theorem dL_law_1002 : decode cL_law 1002 = .ok (.iconst 3, 1) := by decide +kernel
theorem dL_law_1003 : decode cL_law 1003 = .ok (.iadd, 1) := by decide +kernel
theorem dL_law_1004 : decode cL_law 1004 = .ok (.iaload, 1) := by decide +kernel
theorem dL_law_1005 : decode cL_law 1005 = .ok (.aload_n 0, 1) := by decide +kernel
theorem dL_law_1006 : decode cL_law 1006 = .ok (.iload_n 3, 1) := by decide +kernel
theorem dL_law_1007 : decode cL_law 1007 = .ok (.iconst 4, 1) := by decide +kernel
theorem dL_law_1008 : decode cL_law 1008 = .ok (.iadd, 1) := by decide +kernel
theorem dL_law_1009 : decode cL_law 1009 = .ok (.iaload, 1) := by decide +kernel
theorem dL_law_1010 : decode cL_law 1010 = .ok (.invokevirtual 123, 3) := by decide +kernel
theorem dL_law_1013 : decode cL_law 1013 = .ok (.aload_n 2, 1) := by decide +kernel
theorem dL_law_1014 : decode cL_law 1014 = .ok (.aload_n 0, 1) := by decide +kernel
theorem dL_law_1015 : decode cL_law 1015 = .ok (.iload_n 3, 1) := by decide +kernel
theorem dL_law_1016 : decode cL_law 1016 = .ok (.iconst 1, 1) := by decide +kernel
theorem dL_law_1017 : decode cL_law 1017 = .ok (.iadd, 1) := by decide +kernel
theorem dL_law_1018 : decode cL_law 1018 = .ok (.iaload, 1) := by decide +kernel
theorem dL_law_1019 : decode cL_law 1019 = .ok (.aload_n 0, 1) := by decide +kernel
theorem dL_law_1020 : decode cL_law 1020 = .ok (.iload_n 3, 1) := by decide +kernel
theorem dL_law_1021 : decode cL_law 1021 = .ok (.iconst 2, 1) := by decide +kernel
theorem dL_law_1022 : decode cL_law 1022 = .ok (.iadd, 1) := by decide +kernel
theorem dL_law_1023 : decode cL_law 1023 = .ok (.iaload, 1) := by decide +kernel
theorem dL_law_1024 : decode cL_law 1024 = .ok (.aload_n 0, 1) := by decide +kernel
theorem dL_law_1025 : decode cL_law 1025 = .ok (.iload_n 3, 1) := by decide +kernel
theorem dL_law_1026 : decode cL_law 1026 = .ok (.iconst 3, 1) := by decide +kernel
theorem dL_law_1027 : decode cL_law 1027 = .ok (.iadd, 1) := by decide +kernel
theorem dL_law_1028 : decode cL_law 1028 = .ok (.iaload, 1) := by decide +kernel
theorem dL_law_1029 : decode cL_law 1029 = .ok (.aload_n 0, 1) := by decide +kernel
theorem dL_law_1030 : decode cL_law 1030 = .ok (.iload_n 3, 1) := by decide +kernel
theorem dL_law_1031 : decode cL_law 1031 = .ok (.iconst 4, 1) := by decide +kernel
theorem dL_law_1032 : decode cL_law 1032 = .ok (.iadd, 1) := by decide +kernel
theorem dL_law_1033 : decode cL_law 1033 = .ok (.iaload, 1) := by decide +kernel
theorem dL_law_1034 : decode cL_law 1034 = .ok (.invokevirtual 127, 3) := by decide +kernel
theorem dL_law_1037 : decode cL_law 1037 = .ok (.if_icmp .eq 170, 3) := by decide +kernel
theorem dL_law_1040 : decode cL_law 1040 = .ok (.iconst 0, 1) := by decide +kernel
theorem dL_law_1041 : decode cL_law 1041 = .ok (.ireturn, 1) := by decide +kernel
theorem dL_law_1042 : decode cL_law 1042 = .ok (.aload_n 1, 1) := by decide +kernel
theorem dL_law_1043 : decode cL_law 1043 = .ok (.aload_n 0, 1) := by decide +kernel
theorem dL_law_1044 : decode cL_law 1044 = .ok (.iload_n 3, 1) := by decide +kernel
theorem dL_law_1045 : decode cL_law 1045 = .ok (.iconst 1, 1) := by decide +kernel
theorem dL_law_1046 : decode cL_law 1046 = .ok (.iadd, 1) := by decide +kernel
theorem dL_law_1047 : decode cL_law 1047 = .ok (.iaload, 1) := by decide +kernel
theorem dL_law_1048 : decode cL_law 1048 = .ok (.aload_n 0, 1) := by decide +kernel
theorem dL_law_1049 : decode cL_law 1049 = .ok (.iload_n 3, 1) := by decide +kernel
theorem dL_law_1050 : decode cL_law 1050 = .ok (.iconst 2, 1) := by decide +kernel
theorem dL_law_1051 : decode cL_law 1051 = .ok (.iadd, 1) := by decide +kernel
theorem dL_law_1052 : decode cL_law 1052 = .ok (.iaload, 1) := by decide +kernel
theorem dL_law_1053 : decode cL_law 1053 = .ok (.aload_n 0, 1) := by decide +kernel
theorem dL_law_1054 : decode cL_law 1054 = .ok (.iload_n 3, 1) := by decide +kernel
theorem dL_law_1055 : decode cL_law 1055 = .ok (.iconst 3, 1) := by decide +kernel
theorem dL_law_1056 : decode cL_law 1056 = .ok (.iadd, 1) := by decide +kernel
theorem dL_law_1057 : decode cL_law 1057 = .ok (.iaload, 1) := by decide +kernel
theorem dL_law_1058 : decode cL_law 1058 = .ok (.invokevirtual 128, 3) := by decide +kernel
theorem dL_law_1061 : decode cL_law 1061 = .ok (.aload_n 2, 1) := by decide +kernel
theorem dL_law_1062 : decode cL_law 1062 = .ok (.aload_n 0, 1) := by decide +kernel
theorem dL_law_1063 : decode cL_law 1063 = .ok (.iload_n 3, 1) := by decide +kernel
theorem dL_law_1064 : decode cL_law 1064 = .ok (.iconst 1, 1) := by decide +kernel
theorem dL_law_1065 : decode cL_law 1065 = .ok (.iadd, 1) := by decide +kernel
theorem dL_law_1066 : decode cL_law 1066 = .ok (.iaload, 1) := by decide +kernel
theorem dL_law_1067 : decode cL_law 1067 = .ok (.aload_n 0, 1) := by decide +kernel
theorem dL_law_1068 : decode cL_law 1068 = .ok (.iload_n 3, 1) := by decide +kernel
theorem dL_law_1069 : decode cL_law 1069 = .ok (.iconst 2, 1) := by decide +kernel
theorem dL_law_1070 : decode cL_law 1070 = .ok (.iadd, 1) := by decide +kernel
theorem dL_law_1071 : decode cL_law 1071 = .ok (.iaload, 1) := by decide +kernel
theorem dL_law_1072 : decode cL_law 1072 = .ok (.aload_n 0, 1) := by decide +kernel
theorem dL_law_1073 : decode cL_law 1073 = .ok (.iload_n 3, 1) := by decide +kernel
theorem dL_law_1074 : decode cL_law 1074 = .ok (.iconst 3, 1) := by decide +kernel
theorem dL_law_1075 : decode cL_law 1075 = .ok (.iadd, 1) := by decide +kernel
theorem dL_law_1076 : decode cL_law 1076 = .ok (.iaload, 1) := by decide +kernel
theorem dL_law_1077 : decode cL_law 1077 = .ok (.invokevirtual 131, 3) := by decide +kernel
theorem dL_law_1080 : decode cL_law 1080 = .ok (.if_icmp .eq 127, 3) := by decide +kernel
theorem dL_law_1083 : decode cL_law 1083 = .ok (.iconst 0, 1) := by decide +kernel
theorem dL_law_1084 : decode cL_law 1084 = .ok (.ireturn, 1) := by decide +kernel
theorem dL_law_1085 : decode cL_law 1085 = .ok (.aload_n 1, 1) := by decide +kernel
theorem dL_law_1086 : decode cL_law 1086 = .ok (.aload_n 0, 1) := by decide +kernel
theorem dL_law_1087 : decode cL_law 1087 = .ok (.iload_n 3, 1) := by decide +kernel
theorem dL_law_1088 : decode cL_law 1088 = .ok (.iconst 1, 1) := by decide +kernel
theorem dL_law_1089 : decode cL_law 1089 = .ok (.iadd, 1) := by decide +kernel
theorem dL_law_1090 : decode cL_law 1090 = .ok (.iaload, 1) := by decide +kernel
theorem dL_law_1091 : decode cL_law 1091 = .ok (.aload_n 0, 1) := by decide +kernel
theorem dL_law_1092 : decode cL_law 1092 = .ok (.iload_n 3, 1) := by decide +kernel
theorem dL_law_1093 : decode cL_law 1093 = .ok (.iconst 2, 1) := by decide +kernel
theorem dL_law_1094 : decode cL_law 1094 = .ok (.iadd, 1) := by decide +kernel
theorem dL_law_1095 : decode cL_law 1095 = .ok (.iaload, 1) := by decide +kernel
theorem dL_law_1096 : decode cL_law 1096 = .ok (.invokevirtual 132, 3) := by decide +kernel
theorem dL_law_1099 : decode cL_law 1099 = .ok (.aload_n 2, 1) := by decide +kernel
theorem dL_law_1100 : decode cL_law 1100 = .ok (.aload_n 0, 1) := by decide +kernel
theorem dL_law_1101 : decode cL_law 1101 = .ok (.iload_n 3, 1) := by decide +kernel
theorem dL_law_1102 : decode cL_law 1102 = .ok (.iconst 1, 1) := by decide +kernel
theorem dL_law_1103 : decode cL_law 1103 = .ok (.iadd, 1) := by decide +kernel
theorem dL_law_1104 : decode cL_law 1104 = .ok (.iaload, 1) := by decide +kernel
theorem dL_law_1105 : decode cL_law 1105 = .ok (.aload_n 0, 1) := by decide +kernel
theorem dL_law_1106 : decode cL_law 1106 = .ok (.iload_n 3, 1) := by decide +kernel
theorem dL_law_1107 : decode cL_law 1107 = .ok (.iconst 2, 1) := by decide +kernel
theorem dL_law_1108 : decode cL_law 1108 = .ok (.iadd, 1) := by decide +kernel
theorem dL_law_1109 : decode cL_law 1109 = .ok (.iaload, 1) := by decide +kernel
theorem dL_law_1110 : decode cL_law 1110 = .ok (.invokevirtual 135, 3) := by decide +kernel
theorem dL_law_1113 : decode cL_law 1113 = .ok (.if_icmp .eq 94, 3) := by decide +kernel
theorem dL_law_1116 : decode cL_law 1116 = .ok (.iconst 0, 1) := by decide +kernel
theorem dL_law_1117 : decode cL_law 1117 = .ok (.ireturn, 1) := by decide +kernel
theorem dL_law_1118 : decode cL_law 1118 = .ok (.aload_n 1, 1) := by decide +kernel
theorem dL_law_1119 : decode cL_law 1119 = .ok (.aload_n 0, 1) := by decide +kernel
theorem dL_law_1120 : decode cL_law 1120 = .ok (.iload_n 3, 1) := by decide +kernel
theorem dL_law_1121 : decode cL_law 1121 = .ok (.iconst 1, 1) := by decide +kernel
theorem dL_law_1122 : decode cL_law 1122 = .ok (.iadd, 1) := by decide +kernel
theorem dL_law_1123 : decode cL_law 1123 = .ok (.iaload, 1) := by decide +kernel
theorem dL_law_1124 : decode cL_law 1124 = .ok (.aload_n 0, 1) := by decide +kernel
theorem dL_law_1125 : decode cL_law 1125 = .ok (.iload_n 3, 1) := by decide +kernel
theorem dL_law_1126 : decode cL_law 1126 = .ok (.iconst 2, 1) := by decide +kernel
theorem dL_law_1127 : decode cL_law 1127 = .ok (.iadd, 1) := by decide +kernel
theorem dL_law_1128 : decode cL_law 1128 = .ok (.iaload, 1) := by decide +kernel
theorem dL_law_1129 : decode cL_law 1129 = .ok (.invokevirtual 136, 3) := by decide +kernel
theorem dL_law_1132 : decode cL_law 1132 = .ok (.aload_n 2, 1) := by decide +kernel
theorem dL_law_1133 : decode cL_law 1133 = .ok (.aload_n 0, 1) := by decide +kernel
theorem dL_law_1134 : decode cL_law 1134 = .ok (.iload_n 3, 1) := by decide +kernel
theorem dL_law_1135 : decode cL_law 1135 = .ok (.iconst 1, 1) := by decide +kernel
theorem dL_law_1136 : decode cL_law 1136 = .ok (.iadd, 1) := by decide +kernel
theorem dL_law_1137 : decode cL_law 1137 = .ok (.iaload, 1) := by decide +kernel
theorem dL_law_1138 : decode cL_law 1138 = .ok (.aload_n 0, 1) := by decide +kernel
theorem dL_law_1139 : decode cL_law 1139 = .ok (.iload_n 3, 1) := by decide +kernel
theorem dL_law_1140 : decode cL_law 1140 = .ok (.iconst 2, 1) := by decide +kernel
theorem dL_law_1141 : decode cL_law 1141 = .ok (.iadd, 1) := by decide +kernel
theorem dL_law_1142 : decode cL_law 1142 = .ok (.iaload, 1) := by decide +kernel
theorem dL_law_1143 : decode cL_law 1143 = .ok (.invokevirtual 139, 3) := by decide +kernel
theorem dL_law_1146 : decode cL_law 1146 = .ok (.if_icmp .eq 61, 3) := by decide +kernel
theorem dL_law_1149 : decode cL_law 1149 = .ok (.iconst 0, 1) := by decide +kernel
theorem dL_law_1150 : decode cL_law 1150 = .ok (.ireturn, 1) := by decide +kernel
theorem dL_law_1151 : decode cL_law 1151 = .ok (.aload_n 1, 1) := by decide +kernel
theorem dL_law_1152 : decode cL_law 1152 = .ok (.aload_n 0, 1) := by decide +kernel
theorem dL_law_1153 : decode cL_law 1153 = .ok (.iload_n 3, 1) := by decide +kernel
theorem dL_law_1154 : decode cL_law 1154 = .ok (.iconst 1, 1) := by decide +kernel
theorem dL_law_1155 : decode cL_law 1155 = .ok (.iadd, 1) := by decide +kernel
theorem dL_law_1156 : decode cL_law 1156 = .ok (.iaload, 1) := by decide +kernel
theorem dL_law_1157 : decode cL_law 1157 = .ok (.aload_n 0, 1) := by decide +kernel
theorem dL_law_1158 : decode cL_law 1158 = .ok (.iload_n 3, 1) := by decide +kernel
theorem dL_law_1159 : decode cL_law 1159 = .ok (.iconst 2, 1) := by decide +kernel
theorem dL_law_1160 : decode cL_law 1160 = .ok (.iadd, 1) := by decide +kernel
theorem dL_law_1161 : decode cL_law 1161 = .ok (.iaload, 1) := by decide +kernel
theorem dL_law_1162 : decode cL_law 1162 = .ok (.invokevirtual 140, 3) := by decide +kernel
theorem dL_law_1165 : decode cL_law 1165 = .ok (.aload_n 2, 1) := by decide +kernel
theorem dL_law_1166 : decode cL_law 1166 = .ok (.aload_n 0, 1) := by decide +kernel
theorem dL_law_1167 : decode cL_law 1167 = .ok (.iload_n 3, 1) := by decide +kernel
theorem dL_law_1168 : decode cL_law 1168 = .ok (.iconst 1, 1) := by decide +kernel
theorem dL_law_1169 : decode cL_law 1169 = .ok (.iadd, 1) := by decide +kernel
theorem dL_law_1170 : decode cL_law 1170 = .ok (.iaload, 1) := by decide +kernel
theorem dL_law_1171 : decode cL_law 1171 = .ok (.aload_n 0, 1) := by decide +kernel
theorem dL_law_1172 : decode cL_law 1172 = .ok (.iload_n 3, 1) := by decide +kernel
theorem dL_law_1173 : decode cL_law 1173 = .ok (.iconst 2, 1) := by decide +kernel
theorem dL_law_1174 : decode cL_law 1174 = .ok (.iadd, 1) := by decide +kernel
theorem dL_law_1175 : decode cL_law 1175 = .ok (.iaload, 1) := by decide +kernel
theorem dL_law_1176 : decode cL_law 1176 = .ok (.invokevirtual 143, 3) := by decide +kernel
theorem dL_law_1179 : decode cL_law 1179 = .ok (.if_icmp .eq 28, 3) := by decide +kernel
theorem dL_law_1182 : decode cL_law 1182 = .ok (.iconst 0, 1) := by decide +kernel
theorem dL_law_1183 : decode cL_law 1183 = .ok (.ireturn, 1) := by decide +kernel
theorem dL_law_1184 : decode cL_law 1184 = .ok (.aload_n 1, 1) := by decide +kernel
theorem dL_law_1185 : decode cL_law 1185 = .ok (.aload_n 0, 1) := by decide +kernel
theorem dL_law_1186 : decode cL_law 1186 = .ok (.iload_n 3, 1) := by decide +kernel
theorem dL_law_1187 : decode cL_law 1187 = .ok (.iconst 1, 1) := by decide +kernel
theorem dL_law_1188 : decode cL_law 1188 = .ok (.iadd, 1) := by decide +kernel
theorem dL_law_1189 : decode cL_law 1189 = .ok (.iaload, 1) := by decide +kernel
theorem dL_law_1190 : decode cL_law 1190 = .ok (.invokevirtual 144, 3) := by decide +kernel
theorem dL_law_1193 : decode cL_law 1193 = .ok (.aload_n 2, 1) := by decide +kernel
theorem dL_law_1194 : decode cL_law 1194 = .ok (.aload_n 0, 1) := by decide +kernel
theorem dL_law_1195 : decode cL_law 1195 = .ok (.iload_n 3, 1) := by decide +kernel
theorem dL_law_1196 : decode cL_law 1196 = .ok (.iconst 1, 1) := by decide +kernel
theorem dL_law_1197 : decode cL_law 1197 = .ok (.iadd, 1) := by decide +kernel
theorem dL_law_1198 : decode cL_law 1198 = .ok (.iaload, 1) := by decide +kernel
theorem dL_law_1199 : decode cL_law 1199 = .ok (.invokevirtual 147, 3) := by decide +kernel
theorem dL_law_1202 : decode cL_law 1202 = .ok (.if_icmp .eq 5, 3) := by decide +kernel
theorem dL_law_1205 : decode cL_law 1205 = .ok (.iconst 0, 1) := by decide +kernel
theorem dL_law_1206 : decode cL_law 1206 = .ok (.ireturn, 1) := by decide +kernel
theorem dL_law_1207 : decode cL_law 1207 = .ok (.iinc 3 6, 3) := by decide +kernel
theorem dL_law_1210 : decode cL_law 1210 = .ok (.goto (-1192), 3) := by decide +kernel
theorem dL_law_1213 : decode cL_law 1213 = .ok (.iconst 1, 1) := by decide +kernel
theorem dL_law_1214 : decode cL_law 1214 = .ok (.ireturn, 1) := by decide +kernel
end
section
/-! THE MIDDLE LAYER. A state of a system: cell number, slot number ↦ int. -/
abbrev zS : Type := Nat → Nat → Int32
def zsa (σ : zS) (k : Nat) (g : Nat → Int32) : zS := fun a => if a = k then g else σ a
def zup (σ : zS) (k j : Nat) (v : Int32) : zS := zsa σ k (upd (σ k) j v)
/-- a cell's shape: an object (number of its kind, slots: int, long, reference to a cell), or a row (booleans?, length) -/
abbrev zC : Type := (Nat × List (Bool ⊕ Nat)) ⊕ (Bool × Nat)
abbrev zG : Type := (Nat → ClassId) × (Nat → Nat → Nat) × ClassId × ClassId × (Nat → Nat) × (Nat → Nat) × (Nat → Nat)
abbrev gD (G : zG) : va_G := (G.1, G.2.1)
abbrev gi (G : zG) : ClassId := G.2.2.1
abbrev gz (G : zG) : ClassId := G.2.2.2.1
abbrev ga (G : zG) : Nat → Nat := G.2.2.2.2.1
abbrev gk (G : zG) : Nat → Nat := G.2.2.2.2.2.1
abbrev gv (G : zG) : Nat → Nat := G.2.2.2.2.2.2
def zlo (x : Int64) : Int32 := Int32.ofBitVec (x.toBitVec.extractLsb' 0 32)
def zhi (x : Int64) : Int32 := Int32.ofBitVec (x.toBitVec.extractLsb' 32 32)
def zlg (lo hi : Int32) : Int64 := Int64.ofBitVec (hi.toBitVec ++ lo.toBitVec)
theorem zlg_eq (x : Int64) : zlg (zlo x) (zhi x) = x := by
  have h : (zlg (zlo x) (zhi x)).toBitVec = x.toBitVec := by
    show (BitVec.extractLsb' 32 32 x.toBitVec ++ BitVec.extractLsb' 0 32 x.toBitVec) = x.toBitVec
    apply BitVec.eq_of_getLsbD_eq
    intro i hi
    rw [BitVec.getLsbD_append]
    by_cases h : i < 32
    · simp [h]
    · have h2 : i - 32 < 32 := by omega
      have h3 : 32 + (i - 32) = i := by omega
      simp [h, h2, h3]
  exact Int64.toBitVec_inj.mp h
def zF (G : zG) (σ : zS) (k j : Nat) (o : Bool ⊕ Nat) : Value := match o with
  | .inl false => .int (σ k j)
  | .inl true => .long (zlg (σ k j) (σ k (j + 1000)))
  | .inr q => .ref (ga G q)
def zE (G : zG) (σ : zS) (k : Nat) (c : zC) : va_E := match c with
  | .inl o => .inr (o.1, o.2.mapIdx (zF G σ k))
  | .inr a => .inl (if a.1 then gz G else gi G, a.2, .inl (σ k))
def zW (G : zG) (sh : List zC) (σ : zS) : va_W := sh.mapIdx (fun k c => (ga G k, zE G σ k c))
abbrev ztys (G : zG) : List (ClassId × FieldType) := [(gi G, .int), (gz G, .boolean)]
theorem zW_get {G : zG} {sh : List zC} {σ : zS} {k : Nat} {c : zC} (h : sh[k]? = some c) : (zW G sh σ)[k]? = some (ga G k, zE G σ k c) := by
  simp [zW, List.getElem?_mapIdx, h]
theorem zE_congr {G : zG} {σ σ' : zS} {k : Nat} (h : σ' k = σ k) (c : zC) : zE G σ' k c = zE G σ k c := by
  have e : zF G σ' k = zF G σ k := by
    funext j o
    cases o with
    | inl b => cases b <;> simp [zF, h]
    | inr q => rfl
  cases c with
  | inl o => simp [zE, e]
  | inr a => simp [zE, h]
theorem zW_set {G : zG} {sh : List zC} {σ σ' : zS} {k : Nat} {c : zC} (h : sh[k]? = some c) (ho : ∀ a, a ≠ k → σ' a = σ a) : (zW G sh σ).set k (ga G k, zE G σ' k c) = zW G sh σ' := by
  apply List.ext_getElem?
  intro i
  have hl : k < (zW G sh σ).length := by
    have := (List.getElem?_eq_some_iff.mp h).1
    simpa [zW] using this
  by_cases hi : i = k
  · subst hi
    rw [List.getElem?_set_self hl, zW_get h]
  · rw [List.getElem?_set_ne (Ne.symm hi)]
    simp only [zW, List.getElem?_mapIdx]
    cases sh[i]? with
    | none => rfl
    | some c' => simp only [Option.map_some]; rw [zE_congr (ho i hi)]
theorem zD_any {G : zG} {sh : List zC} {σ σ' : zS} {A : Nat → Prop} (h : va_D A (zW G sh σ)) : va_D A (zW G sh σ') := by
  have key : ∀ (i : Nat) (p : Nat × va_E), (zW G sh σ')[i]? = some p → ∃ q, (zW G sh σ)[i]? = some q ∧ q.1 = p.1 := by
    intro i p hp
    simp only [zW, List.getElem?_mapIdx] at hp ⊢
    cases hc : sh[i]? with
    | none => rw [hc] at hp; cases hp
    | some c => rw [hc] at hp; cases hp; exact ⟨_, rfl, rfl⟩
  refine ⟨fun i j p q hi hj e => ?_, fun k q hk => ?_⟩
  · obtain ⟨p', h1, h2⟩ := key i p hi
    obtain ⟨q', h3, h4⟩ := key j q hj
    exact h.1 i j p' q' h1 h3 (h2.trans (e.trans h4.symm))
  · obtain ⟨q', h1, h2⟩ := key k q hk
    rw [← h2]
    exact h.2 k q' h1
def zA (G : zG) (sh : List zC) (sz : Nat) : Nat → Prop := fun q => (∃ k, k < sh.length ∧ q = ga G k) ∨ sz ≤ q
theorem zA_le {G : zG} {sh : List zC} {a b q : Nat} (h : a ≤ b) (hq : zA G sh b q) : zA G sh a q := hq.elim Or.inl (fun z => Or.inr (Nat.le_trans h z))
theorem zD_A {G : zG} {sh : List zC} {σ σ' : zS} {A : Nat → Prop} (sz : Nat) (h : va_D A (zW G sh σ)) : va_D (zA G sh sz) (zW G sh σ') := by
  have h' := zD_any (σ' := σ') h
  refine ⟨h'.1, fun k q hk => ?_⟩
  simp only [zW, List.getElem?_mapIdx] at hk
  cases hc : sh[k]? with
  | none => rw [hc] at hk; cases hk
  | some c => rw [hc] at hk; cases hk; exact Or.inl ⟨k, (List.getElem?_eq_some_iff.mp hc).1, rfl⟩
def zlen : List Nat := [5, 4, 4, 4, 4, 3, 4, 7, 3, 1]
def zbyt : List (List Int32) := [[112, 108, 97, 99, 101], [102, 108, 111, 119], [108, 97, 110, 100], [98, 111, 97, 116], [110, 101, 97, 114], [102, 97, 114], [80, 89, 90, 87], [70, 80, 89, 65, 66, 67, 83], [80, 81, 77], [78]]
def zStrs : List (String × Nat × String) := [(RX7, 87, "place"), (RX7, 89, "flow"), (RX7, 91, "land"), (RX7, 93, "boat"), (RX7, 95, "near"), (RX7, 97, "far"), (RX7, 99, "PYZW"), (RX7, 101, "FPYABCS"), (RX7, 103, "PQM"), (RX7, 105, "N")]
def zNests : List (String × Nat × MethodName × String) := [(RX7, 77, yX9_isWithin, "BlackGlass"), (RX7, 107, yX9_isPlace, "BlackGlass"), (RX3, 56, yX9_isWithin, "BlackGlass"), (RX0, 47, yX9_numberAt, "BlackGlass"), (RX0, 43, yX9_isWithin, "BlackGlass"), (RX2, 46, yX9_cut, "BlackGlass"), (RX2, 68, yX9_hasBit, "BlackGlass"), (RX2, 78, yX9_lesser, "BlackGlass"), (RX8, 120, yX9_cut, "BlackGlass"), (RX5, 84, yX9_hasBit, "BlackGlass"), (RX5, 56, yX9_isWithin, "BlackGlass"), (RX4, 27, yX9_hasBit, "BlackGlass"), (RX4, 49, yX9_lesser, "BlackGlass"), (RX4, 77, yX9_isWithin, "BlackGlass"), (RX6, 50, yX9_cut, "BlackGlass"), (RX1, 46, yX9_cut, "BlackGlass")]
/-- what else goes along: links among nest mates, the String constants, two statics -/
def zX (G : zG) (sh : List zC) (sz : Nat) (U : State) : Prop :=
  (∀ q ∈ zNests, va_Nw (.methodLinkNest q.1 q.2.1 q.2.2.1 q.2.2.2) U) ∧ (∀ (i : Nat) (q : String × Nat × String), zStrs[i]? = some q → vk_R q.1 q.2.1 q.2.2 (gk G i) U) ∧
  vk_S 10 zlen zbyt (gk G) (gv G) (zA G sh sz) U U.heap ∧ va_Z "java/lang/String" "COMPACT_STRINGS" "Z" (.int 1) (zA G sh sz) U U.heap ∧ va_Zq "jdk/internal/util/Preconditions" "SIOOBE_FORMATTER" "Ljava/util/function/BiFunction;" (zA G sh sz) U U.heap
theorem zX_same {G : zG} {sh : List zC} {sz : Nat} {u U : State} (hv : U.vm = u.vm) (hh : U.heap = u.heap) (h : zX G sh sz u) : zX G sh sz U := by
  obtain ⟨h1, h2, h3, h4, h5⟩ := h
  have ha : u.vm.Alike U.vm := by rw [hv]; exact Vm.Alike.refl _
  refine ⟨fun q hq => va_Nw.same rfl hv.symm (h1 q hq), fun i q hq => vk_R.same hv (h2 i q hq), ?_, ?_, ?_⟩
  · rw [hh]; exact vk_S.moved ha h3
  · rw [hh]; exact va_Z.moved ha h4
  · rw [hh]; exact va_Zq.moved ha h5
theorem zX_go {G : zG} {sh : List zC} {s U : State} {H : Heap} {locs : List Loc} (h : zX G sh s.heap.size s) (hS : va_S (zA G sh s.heap.size) s.heap H locs) (hW : s.WarmedH U.vm) (hU : U.heap = H) : zX G sh H.size U := by
  obtain ⟨h1, h2, h3, h4, h5⟩ := h
  have hn : ∀ q, zA G sh H.size q → zA G sh s.heap.size q := fun q hq => zA_le hS.1 hq
  refine ⟨fun q hq => va_Nw.warmM hW (h1 q hq), fun i q hq => vk_R.warm hW (h2 i q hq), ?_, ?_, ?_⟩
  · rw [hU]; exact (vk_S.moved hW.alike (h3.kept hS.2.1)).narrow hn
  · rw [hU]; exact (va_Z.moved hW.alike (h4.kept hS.2.1)).narrow hn
  · rw [hU]; exact (va_Zq.moved hW.alike (h5.kept hS.2.1)).narrow hn
/-! contracts -/
def zPc (G : zG) (sh : List zC) (sz : Nat) (av : List Value) (σ : zS) : Array Value → State → Prop := va_Pc av (fun U => U.heap.size = sz ∧ va_P (gD G) zcl (zW G sh σ) U.heap ∧ va_K (gD G) zcl (ztys G) U ∧ va_D (fun _ => True) (zW G sh σ) ∧ zX G sh sz U)
def zQc (G : zG) (sh : List zC) (sz : Nat) (o : Option Value) (σ' : zS) : Array Value → State → Outcome → State → Prop := fun _ st oc t => (oc = .returned o ∧ va_P (gD G) zcl (zW G sh σ') t.heap) ∧ va_F (zA G sh sz) st t
def zrm (n : Nat) : Room := { frames := n, cells := 0, slots := 0, locals := 35 * n }
def zM (l : Launch) (G : zG) (sh : List zC) (y : MethodName) (b : ByteArray) (mL : Nat) (ret : Option FieldType) (n : Nat) (av : List Value) (o : Option Value) (σ σ' : zS) : Prop :=
  ∀ sz : Nat, Met l y (.code y b mL ret :: zT) (zrm n) (zPc G sh sz av σ) (zQc G sh sz o σ') 0 0 (zA G sh sz)
theorem zPc_blind {G : zG} {sh : List zC} {sz : Nat} {av : List Value} {σ : zS} : FrameBlind (zPc G sh sz av σ) := by
  intro a U g mk h
  obtain ⟨h0, h1, h2, h3, h4, h5⟩ := h
  exact ⟨h0, h1, h2, va_K.moved (u := U) (U := U.calling g mk a) (Vm.Alike.refl U.vm) h3, h4, zX_same (u := U) (U := U.calling g mk a) rfl rfl h5⟩
/-! the context of a walk: machine; addresses, number of locals, level; the end -/
abbrev zK : Type := (Program × Launch × Env × State × MethodId × Array Value × List Frame × Method × Code) × (zG × Nat × Nat) × (Option Value × Int32 × zS)
abbrev kp (K : zK) : Program := K.1.1
abbrev kl (K : zK) : Launch := K.1.2.1
abbrev ke (K : zK) : Env := K.1.2.2.1
abbrev ks (K : zK) : State := K.1.2.2.2.1
abbrev km (K : zK) : MethodId := K.1.2.2.2.2.1
abbrev kg (K : zK) : Array Value := K.1.2.2.2.2.2.1
abbrev kb (K : zK) : List Frame := K.1.2.2.2.2.2.2.1
abbrev kt (K : zK) : Method := K.1.2.2.2.2.2.2.2.1
abbrev kc (K : zK) : Code := K.1.2.2.2.2.2.2.2.2
abbrev kG (K : zK) : zG := K.2.1.1
abbrev kL (K : zK) : Nat := K.2.1.2.1
abbrev kN (K : zK) : Nat := K.2.1.2.2
abbrev ko (K : zK) : Option Value := K.2.2.1
abbrev kr (K : zK) : Int32 := K.2.2.2.1
abbrev kx (K : zK) : zS := K.2.2.2.2
def Zw (sh : List zC) (K : zK) (pc : Nat) (lv : List (Nat × Value)) (st : List Value) (σ : zS) : Prop :=
  ∀ (H : Heap) (locs : List Loc) (ls : Array Slot), va_P (gD (kG K)) zcl (zW (kG K) sh σ) H → va_S (zA (kG K) sh (ks K).heap.size) (ks K).heap H locs → lv_has ls (kL K) lv →
    W (kp K) (kl K) (ke K) (zrm (kN K)) (ks K) (km K) (kg K) (kb K) (kt K) (kc K) H locs 0 0 (MQ (kb K) (zQc (kG K) sh (ks K).heap.size (ko K) (kx K)) (kg K) (ks K) 0 0 (zA (kG K) sh (ks K).heap.size)) (F0 (km K) pc ls st)
def zov (ret : Option FieldType) (G : zG) (r : Int32) : Option Value := match ret with
  | none => none
  | some (.object _) => some (.ref (gk G r.toNatClampNeg))
  | some _ => some (.int r)
def zOk (sh : List zC) (K : zK) (own : String) (cc : ByteArray) (ret : Option FieldType) (mL n : Nat) : Prop :=
  ((kp K).tables.exec = Jvm.exec ∧ (kc K).code = cc ∧ (kc K).maxLocals = kL K ∧ (ks K).vm.findClass own = some (km K).cls ∧ (∀ w ∈ zT, w.before (kg K) (ks K) = true)) ∧
  va_K (gD (kG K)) zcl (ztys (kG K)) (ks K) ∧ (∀ σ, va_D (zA (kG K) sh (ks K).heap.size) (zW (kG K) sh σ)) ∧ (kt K).locks = false ∧ (kt K).sig.returnType = ret ∧ zX (kG K) sh (ks K).heap.size (ks K) ∧ kL K = mL ∧ kN K = n ∧ ko K = zov ret (kG K) (kr K)
def Zf (sh : List zC) (K : zK) (X : Option (Int32 × zS)) (pc : Nat) (lv : List (Nat × Value)) (st : List Value) (σ : zS) : Prop := X = some (kr K, kx K) → Zw sh K pc lv st σ
section ZACC
variable {sh : List zC} {K : zK} {own : String} {cc : ByteArray} {ret : Option FieldType} {mL n : Nat}
theorem zOk.hx (C : zOk sh K own cc ret mL n) : (kp K).tables.exec = Jvm.exec := C.1.1
theorem zOk.hb (C : zOk sh K own cc ret mL n) : (kc K).code = cc := C.1.2.1
theorem zOk.hown (C : zOk sh K own cc ret mL n) : (ks K).vm.findClass own = some (km K).cls := C.1.2.2.2.1
theorem zOk.hts (C : zOk sh K own cc ret mL n) : ∀ w ∈ zT, w.before (kg K) (ks K) = true := C.1.2.2.2.2
theorem zOk.hK (C : zOk sh K own cc ret mL n) : va_K (gD (kG K)) zcl (ztys (kG K)) (ks K) := C.2.1
theorem zOk.hD (C : zOk sh K own cc ret mL n) (σ : zS) : va_D (zA (kG K) sh (ks K).heap.size) (zW (kG K) sh σ) := C.2.2.1 σ
theorem zOk.hlocks (C : zOk sh K own cc ret mL n) : (kt K).locks = false := C.2.2.2.1
theorem zOk.hr (C : zOk sh K own cc ret mL n) : (kt K).sig.returnType = ret := C.2.2.2.2.1
theorem zOk.hX (C : zOk sh K own cc ret mL n) : zX (kG K) sh (ks K).heap.size (ks K) := C.2.2.2.2.2.1
theorem zOk.hL (C : zOk sh K own cc ret mL n) : kL K = mL := C.2.2.2.2.2.2.1
theorem zOk.hN (C : zOk sh K own cc ret mL n) : kN K = n := C.2.2.2.2.2.2.2.1
theorem zOk.ho (C : zOk sh K own cc ret mL n) : ko K = zov ret (kG K) (kr K) := C.2.2.2.2.2.2.2.2
end ZACC
/-- the contract out of the walk -/
theorem z_met {l : Launch} {G : zG} {sh : List zC} {y : MethodName} {b : ByteArray} {mL n : Nat} {ret : Option FieldType} {av : List Value} {σ σ' : zS} {r : Int32} {X : Option (Int32 × zS)} (hy : plainName y.cls = true) (hlen : (lg_sl av).length ≤ mL) (hX : X = some (r, σ'))
    (body : ∀ K : zK, kl K = l → kG K = G → zOk sh K y.cls b ret mL n → Zf sh K X 0 (lv_args 0 av) [] σ) : zM l G sh y b mL ret n av (zov ret G r) σ σ' := by
  intro sz
  refine Met.ofW (cc := b) (maxL := mL) (ret := ret) hy rfl ?_
  intro p e s m args below meth c s₁ B hml hv
  obtain ⟨rfl, hsz, hP, hK, hD0, hX0⟩ := hv
  subst hsz
  have hts := atoms_spec (ws := .code y b mL ret :: zT) B.pre
  have hown : s.vm.findClass y.cls = some m.cls := findClass_of_methodNamed B.named
  have hl := lv_entry av (n := mL) hlen
  rw [lg_entry_eq]
  have C : zOk sh ((p, l, e, s, m, av.toArray, below, meth, c), (G, mL, n), (zov ret G r, r, σ')) y.cls b ret mL n :=
    ⟨⟨B.exec, B.bytes, hml, hown, fun w hw => hts w (List.mem_cons_of_mem _ hw)⟩, hK, fun τ => zD_A _ hD0, B.notSynchronized, B.returns, hX0, rfl, rfl, rfl⟩
  exact body _ rfl rfl C hX s.heap [] _ hP va_S.rf hl
end
section
/-! the pure side: words of the printed functions -/
def zin (j : Int32) (n : Nat) : Prop := vp_in j n
theorem zin_iff {j : Int32} {n : Nat} : zin j n ↔ vp_in j n := Iff.rfl
def zbd (x : Option (Int32 × zS)) (f : Int32 → zS → Option (Int32 × zS)) : Option (Int32 × zS) := match x with
  | none => none
  | some q => f q.1 q.2
def zrd (σ : zS) (k n : Nat) (j : Int32) (X : Int32 → Option (Int32 × zS)) : Option (Int32 × zS) := if 0 ≤ j.toInt ∧ j.toInt < n then X (σ k j.toNatClampNeg) else none
def zwr (σ : zS) (k n : Nat) (j v : Int32) (X : zS → Option (Int32 × zS)) : Option (Int32 × zS) := if 0 ≤ j.toInt ∧ j.toInt < n then X (zup σ k j.toNatClampNeg v) else none
def zst (σ : zS) (k j : Nat) (v : Int32) (X : zS → Option (Int32 × zS)) : Option (Int32 × zS) := X (zup σ k j v)
def zsl (σ : zS) (k j : Nat) (v : Int64) (X : zS → Option (Int32 × zS)) : Option (Int32 × zS) := X (zup (zup σ k j (zlo v)) k (j + 1000) (zhi v))
def zdv (a b : Int32) (X : Int32 → Option (Int32 × zS)) : Option (Int32 × zS) := if b = 0 then none else X (a / b)
def zrm2 (a b : Int32) (X : Int32 → Option (Int32 × zS)) : Option (Int32 × zS) := if b = 0 then none else X (a - a / b * b)
def zlt (a : Int32) (X : Int32 → Option (Int32 × zS)) : Option (Int32 × zS) := X a
def zcp (σ : zS) (k0 k1 n : Nat) (X : zS → Option (Int32 × zS)) : Option (Int32 × zS) := X (zsa σ k1 (va_cpy (σ k0) (σ k1) 0 0 n))
/-- a boolean answer -/
def zrb (v : Int32) (σ : zS) : Option (Int32 × zS) := if v &&& 1 = v then some (v, σ) else none
def zmax (x y : Int32) : Int32 := if x < y then y else x
def zmin (x y : Int32) : Int32 := if y < x then y else x
def zabs (x : Int32) : Int32 := if 0 ≤ x then x else 0 - x
section ZRULES
variable {sh : List zC} {K : zK} {own : String} {cc : ByteArray} {ret : Option FieldType} {mL n : Nat} {X Y : Option (Int32 × zS)} {pc : Nat} {lv : List (Nat × Value)} {st : List Value} {σ : zS}
theorem z_sub (ks : List Nat) {lv' : List (Nat × Value)} (h : lv_pick lv ks = lv') (k : Zf sh K X pc lv' st σ) : Zf sh K X pc lv st σ := fun hX H locs ls hP hS hl => k hX H locs ls hP hS (lv_sub hl ks h)
theorem z_none : Zf sh K none pc lv st σ := fun h => by cases h
theorem z_iconst {z : Int} {v : Int32} (C : zOk sh K own cc ret mL n) (d : decode cc pc = .ok (.iconst z, 1)) (hv : Int32.ofInt z = v) (k : Zf sh K X (pc + 1) lv (.int v :: st) σ) : Zf sh K X pc lv (st) σ :=
  fun hX H locs ls hP hS hl => lv_iconst C.hx C.hb d hv (k hX H locs ls hP hS hl)
theorem z_bipush {z : Int} {v : Int32} (C : zOk sh K own cc ret mL n) (d : decode cc pc = .ok (.bipush z, 2)) (hv : (Int8.ofInt z).toInt32 = v) (k : Zf sh K X (pc + 2) lv (.int v :: st) σ) : Zf sh K X pc lv (st) σ :=
  fun hX H locs ls hP hS hl => lv_bipush C.hx C.hb d hv (k hX H locs ls hP hS hl)
theorem z_sipush {z : Int} {v : Int32} (C : zOk sh K own cc ret mL n) (d : decode cc pc = .ok (.sipush z, 3)) (hv : (Int16.ofInt z).toInt32 = v) (k : Zf sh K X (pc + 3) lv (.int v :: st) σ) : Zf sh K X pc lv (st) σ :=
  fun hX H locs ls hP hS hl => lv_sipush C.hx C.hb d hv (k hX H locs ls hP hS hl)
theorem z_lconst {z : Fin 2} {v : Int64} (C : zOk sh K own cc ret mL n) (d : decode cc pc = .ok (.lconst z, 1)) (hv : Int64.ofNat (z : Nat) = v) (k : Zf sh K X (pc + 1) lv (.long v :: st) σ) : Zf sh K X pc lv (st) σ :=
  fun hX H locs ls hP hS hl => lv_lconst C.hx C.hb d hv (k hX H locs ls hP hS hl)
theorem z_ldcw {i : Nat} {v : Int32} (C : zOk sh K own cc ret mL n) (d : decode cc pc = .ok (.ldc_w i, 3)) (hw : Cond.constant own i v ∈ zT) (k : Zf sh K X (pc + 3) lv (.int v :: st) σ) : Zf sh K X pc lv (st) σ :=
  fun hX H locs ls hP hS hl => lv_ldcw C.hx C.hb C.hown (C.hts _ hw) d (k hX H locs ls hP hS hl)
theorem z_ldc2 {i : Nat} {v : Int64} (C : zOk sh K own cc ret mL n) (d : decode cc pc = .ok (.ldc2_w i, 3)) (hw : Cond.constantLong own i v ∈ zT) (k : Zf sh K X (pc + 3) lv (.long v :: st) σ) : Zf sh K X pc lv (st) σ :=
  fun hX H locs ls hP hS hl => lv_ldc2 C.hx C.hb C.hown (C.hts _ hw) d (k hX H locs ls hP hS hl)
theorem z_iload_n {i : Fin 4} {x : Int32} (C : zOk sh K own cc ret mL n) (d : decode cc pc = .ok (.iload_n i, 1)) (j : Nat) (h : lv[j]? = some ((i : Nat), .int x)) (k : Zf sh K X (pc + 1) lv (.int x :: st) σ) : Zf sh K X pc lv (st) σ :=
  fun hX H locs ls hP hS hl => lv_iload_n C.hx C.hb d rfl (lv_at hl j h) (k hX H locs ls hP hS hl)
theorem z_lload_n {i : Fin 4} {x : Int64} (C : zOk sh K own cc ret mL n) (d : decode cc pc = .ok (.lload_n i, 1)) (j : Nat) (h : lv[j]? = some ((i : Nat), .long x)) (k : Zf sh K X (pc + 1) lv (.long x :: st) σ) : Zf sh K X pc lv (st) σ :=
  fun hX H locs ls hP hS hl => lv_lload_n C.hx C.hb d rfl (lv_at hl j h) (k hX H locs ls hP hS hl)
theorem z_aload_n {i : Fin 4} {x : Nat} (C : zOk sh K own cc ret mL n) (d : decode cc pc = .ok (.aload_n i, 1)) (j : Nat) (h : lv[j]? = some ((i : Nat), .ref x)) (k : Zf sh K X (pc + 1) lv (.ref x :: st) σ) : Zf sh K X pc lv (st) σ :=
  fun hX H locs ls hP hS hl => lv_aload_n C.hx C.hb d rfl (lv_at hl j h) (k hX H locs ls hP hS hl)
theorem z_iload {i : Nat} {x : Int32} (C : zOk sh K own cc ret mL n) (d : decode cc pc = .ok (.iload i, 2)) (j : Nat) (h : lv[j]? = some (i, .int x)) (k : Zf sh K X (pc + 2) lv (.int x :: st) σ) : Zf sh K X pc lv (st) σ :=
  fun hX H locs ls hP hS hl => lv_iload C.hx C.hb d (lv_at hl j h) (k hX H locs ls hP hS hl)
theorem z_aload {i : Nat} {x : Nat} (C : zOk sh K own cc ret mL n) (d : decode cc pc = .ok (.aload i, 2)) (j : Nat) (h : lv[j]? = some (i, .ref x)) (k : Zf sh K X (pc + 2) lv (.ref x :: st) σ) : Zf sh K X pc lv (st) σ :=
  fun hX H locs ls hP hS hl => lv_aload C.hx C.hb d (lv_at hl j h) (k hX H locs ls hP hS hl)
theorem z_istore_n {i : Fin 4} {x : Int32} {lv1 : List (Nat × Value)} (C : zOk sh K own cc ret mL n) (d : decode cc pc = .ok (.istore_n i, 1)) (hn : (i : Nat) < mL) (hl1 : ((i : Nat), Value.int x) :: lv.filter (fun q => !(q.1 == (i : Nat)) && !(q.1 + 1 == (i : Nat) && q.2.category == 2)) = lv1) (k : Zf sh K X (pc + 1) lv1 st σ) : Zf sh K X pc lv (.int x :: st) σ :=
  fun hX H locs ls hP hS hl => lv_istore_n C.hx C.hb d rfl hl (by rw [C.hL]; exact hn) hl1 (fun ls1 hl1 => k hX H locs ls1 hP hS hl1)
theorem z_astore_n {i : Fin 4} {x : Nat} {lv1 : List (Nat × Value)} (C : zOk sh K own cc ret mL n) (d : decode cc pc = .ok (.astore_n i, 1)) (hn : (i : Nat) < mL) (hl1 : ((i : Nat), Value.ref x) :: lv.filter (fun q => !(q.1 == (i : Nat)) && !(q.1 + 1 == (i : Nat) && q.2.category == 2)) = lv1) (k : Zf sh K X (pc + 1) lv1 st σ) : Zf sh K X pc lv (.ref x :: st) σ :=
  fun hX H locs ls hP hS hl => lv_astore_n C.hx C.hb d rfl hl (by rw [C.hL]; exact hn) hl1 (fun ls1 hl1 => k hX H locs ls1 hP hS hl1)
theorem z_istore {i : Nat} {x : Int32} {lv1 : List (Nat × Value)} (C : zOk sh K own cc ret mL n) (d : decode cc pc = .ok (.istore i, 2)) (hn : i < mL) (hl1 : (i, Value.int x) :: lv.filter (fun q => !(q.1 == i) && !(q.1 + 1 == i && q.2.category == 2)) = lv1) (k : Zf sh K X (pc + 2) lv1 st σ) : Zf sh K X pc lv (.int x :: st) σ :=
  fun hX H locs ls hP hS hl => lv_istore C.hx C.hb d hl (by rw [C.hL]; exact hn) hl1 (fun ls1 hl1 => k hX H locs ls1 hP hS hl1)
theorem z_iinc {i : Nat} {z : Int} {x v : Int32} {lv1 : List (Nat × Value)} (C : zOk sh K own cc ret mL n) (d : decode cc pc = .ok (.iinc i z, 3)) (j : Nat) (h : lv[j]? = some (i, .int x)) (hv : Int32.ofInt z = v) (hn : i < mL) (hl1 : (i, Value.int (x + v)) :: lv.filter (fun q => !(q.1 == i) && !(q.1 + 1 == i && q.2.category == 2)) = lv1) (k : Zf sh K X (pc + 3) lv1 st σ) : Zf sh K X pc lv st σ :=
  fun hX H locs ls hP hS hl => lv_iinc C.hx C.hb d hl h (by rw [hv]) (by rw [C.hL]; exact hn) hl1 (fun ls1 hl1 => k hX H locs ls1 hP hS hl1)
theorem z_iadd {x y : Int32} (C : zOk sh K own cc ret mL n) (d : decode cc pc = .ok (.iadd, 1)) (k : Zf sh K X (pc + 1) lv (.int (x + y) :: st) σ) : Zf sh K X pc lv (.int y :: .int x :: st) σ :=
  fun hX H locs ls hP hS hl => lv_iadd C.hx C.hb d (k hX H locs ls hP hS hl)
theorem z_isub {x y : Int32} (C : zOk sh K own cc ret mL n) (d : decode cc pc = .ok (.isub, 1)) (k : Zf sh K X (pc + 1) lv (.int (x - y) :: st) σ) : Zf sh K X pc lv (.int y :: .int x :: st) σ :=
  fun hX H locs ls hP hS hl => lv_isub C.hx C.hb d (k hX H locs ls hP hS hl)
theorem z_imul {x y : Int32} (C : zOk sh K own cc ret mL n) (d : decode cc pc = .ok (.imul, 1)) (k : Zf sh K X (pc + 1) lv (.int (x * y) :: st) σ) : Zf sh K X pc lv (.int y :: .int x :: st) σ :=
  fun hX H locs ls hP hS hl => lv_imul C.hx C.hb d (k hX H locs ls hP hS hl)
theorem z_iand {x y : Int32} (C : zOk sh K own cc ret mL n) (d : decode cc pc = .ok (.iand, 1)) (k : Zf sh K X (pc + 1) lv (.int (x &&& y) :: st) σ) : Zf sh K X pc lv (.int y :: .int x :: st) σ :=
  fun hX H locs ls hP hS hl => lv_iand C.hx C.hb d (k hX H locs ls hP hS hl)
theorem z_ior {x y : Int32} (C : zOk sh K own cc ret mL n) (d : decode cc pc = .ok (.ior, 1)) (k : Zf sh K X (pc + 1) lv (.int (x ||| y) :: st) σ) : Zf sh K X pc lv (.int y :: .int x :: st) σ :=
  fun hX H locs ls hP hS hl => lv_ior C.hx C.hb d (k hX H locs ls hP hS hl)
theorem z_ixor {x y : Int32} (C : zOk sh K own cc ret mL n) (d : decode cc pc = .ok (.ixor, 1)) (k : Zf sh K X (pc + 1) lv (.int (x ^^^ y) :: st) σ) : Zf sh K X pc lv (.int y :: .int x :: st) σ :=
  fun hX H locs ls hP hS hl => lv_ixor C.hx C.hb d (k hX H locs ls hP hS hl)
theorem z_ishl {x y : Int32} (C : zOk sh K own cc ret mL n) (d : decode cc pc = .ok (.ishl, 1)) (k : Zf sh K X (pc + 1) lv (.int (x <<< (y &&& 31)) :: st) σ) : Zf sh K X pc lv (.int y :: .int x :: st) σ :=
  fun hX H locs ls hP hS hl => lv_ishl C.hx C.hb d (k hX H locs ls hP hS hl)
theorem z_ishr {x y : Int32} (C : zOk sh K own cc ret mL n) (d : decode cc pc = .ok (.ishr, 1)) (k : Zf sh K X (pc + 1) lv (.int (x >>> (y &&& 31)) :: st) σ) : Zf sh K X pc lv (.int y :: .int x :: st) σ :=
  fun hX H locs ls hP hS hl => lv_ishr C.hx C.hb d (k hX H locs ls hP hS hl)
theorem z_ineg {x : Int32} (C : zOk sh K own cc ret mL n) (d : decode cc pc = .ok (.ineg, 1)) (k : Zf sh K X (pc + 1) lv (.int (-x) :: st) σ) : Zf sh K X pc lv (.int x :: st) σ :=
  fun hX H locs ls hP hS hl => lv_ineg C.hx C.hb d (k hX H locs ls hP hS hl)
theorem z_iushr {x y : Int32} (C : zOk sh K own cc ret mL n) (d : decode cc pc = .ok (.iushr, 1)) (k : Zf sh K X (pc + 1) lv (.int ((x.toUInt32 >>> (y.toUInt32 &&& Int32.toUInt32 31)).toInt32) :: st) σ) : Zf sh K X pc lv (.int y :: .int x :: st) σ :=
  fun hX H locs ls hP hS hl => lv_iushr C.hx C.hb d rfl (k hX H locs ls hP hS hl)
theorem z_ladd {x y : Int64} (C : zOk sh K own cc ret mL n) (d : decode cc pc = .ok (.ladd, 1)) (k : Zf sh K X (pc + 1) lv (.long (x + y) :: st) σ) : Zf sh K X pc lv (.long y :: .long x :: st) σ :=
  fun hX H locs ls hP hS hl => lv_ladd C.hx C.hb d (k hX H locs ls hP hS hl)
theorem z_lsub {x y : Int64} (C : zOk sh K own cc ret mL n) (d : decode cc pc = .ok (.lsub, 1)) (k : Zf sh K X (pc + 1) lv (.long (x - y) :: st) σ) : Zf sh K X pc lv (.long y :: .long x :: st) σ :=
  fun hX H locs ls hP hS hl => lv_lsub C.hx C.hb d (k hX H locs ls hP hS hl)
theorem z_lmul {x y : Int64} (C : zOk sh K own cc ret mL n) (d : decode cc pc = .ok (.lmul, 1)) (k : Zf sh K X (pc + 1) lv (.long (x * y) :: st) σ) : Zf sh K X pc lv (.long y :: .long x :: st) σ :=
  fun hX H locs ls hP hS hl => lv_lmul C.hx C.hb d (k hX H locs ls hP hS hl)
theorem z_land {x y : Int64} (C : zOk sh K own cc ret mL n) (d : decode cc pc = .ok (.land, 1)) (k : Zf sh K X (pc + 1) lv (.long (x &&& y) :: st) σ) : Zf sh K X pc lv (.long y :: .long x :: st) σ :=
  fun hX H locs ls hP hS hl => lv_land C.hx C.hb d (k hX H locs ls hP hS hl)
theorem z_lor {x y : Int64} (C : zOk sh K own cc ret mL n) (d : decode cc pc = .ok (.lor, 1)) (k : Zf sh K X (pc + 1) lv (.long (x ||| y) :: st) σ) : Zf sh K X pc lv (.long y :: .long x :: st) σ :=
  fun hX H locs ls hP hS hl => lv_lor C.hx C.hb d (k hX H locs ls hP hS hl)
theorem z_lshl {x : Int64} {y : Int32} (C : zOk sh K own cc ret mL n) (d : decode cc pc = .ok (.lshl, 1)) (k : Zf sh K X (pc + 1) lv (.long (x <<< (y.toInt64 &&& 63)) :: st) σ) : Zf sh K X pc lv (.int y :: .long x :: st) σ :=
  fun hX H locs ls hP hS hl => lv_lshl C.hx C.hb d rfl (k hX H locs ls hP hS hl)
theorem z_lshr {x : Int64} {y : Int32} (C : zOk sh K own cc ret mL n) (d : decode cc pc = .ok (.lshr, 1)) (k : Zf sh K X (pc + 1) lv (.long (x >>> (y.toInt64 &&& 63)) :: st) σ) : Zf sh K X pc lv (.int y :: .long x :: st) σ :=
  fun hX H locs ls hP hS hl => lv_lshr C.hx C.hb d rfl (k hX H locs ls hP hS hl)
theorem z_i2l {x : Int32} (C : zOk sh K own cc ret mL n) (d : decode cc pc = .ok (.i2l, 1)) (k : Zf sh K X (pc + 1) lv (.long x.toInt64 :: st) σ) : Zf sh K X pc lv (.int x :: st) σ :=
  fun hX H locs ls hP hS hl => lv_i2l C.hx C.hb d rfl (k hX H locs ls hP hS hl)
theorem z_l2i {x : Int64} (C : zOk sh K own cc ret mL n) (d : decode cc pc = .ok (.l2i, 1)) (k : Zf sh K X (pc + 1) lv (.int x.toInt32 :: st) σ) : Zf sh K X pc lv (.long x :: st) σ :=
  fun hX H locs ls hP hS hl => lv_l2i C.hx C.hb d rfl (k hX H locs ls hP hS hl)
theorem z_dup {va : Value} (C : zOk sh K own cc ret mL n) (d : decode cc pc = .ok (.dup, 1)) (hc : va.category = 1) (k : Zf sh K X (pc + 1) lv (va :: va :: st) σ) : Zf sh K X pc lv (va :: st) σ :=
  fun hX H locs ls hP hS hl => lv_dup C.hx C.hb d hc (k hX H locs ls hP hS hl)
theorem z_pop {va : Value} (C : zOk sh K own cc ret mL n) (d : decode cc pc = .ok (.pop, 1)) (hc : va.category = 1) (k : Zf sh K X (pc + 1) lv (st) σ) : Zf sh K X pc lv (va :: st) σ :=
  fun hX H locs ls hP hS hl => lv_pop C.hx C.hb d hc (k hX H locs ls hP hS hl)
theorem z_lcmp {x y : Int64} (C : zOk sh K own cc ret mL n) (d : decode cc pc = .ok (.lcmp, 1)) (k : Zf sh K X (pc + 1) lv (.int (lg_cmp x y) :: st) σ) : Zf sh K X pc lv (.long y :: .long x :: st) σ :=
  fun hX H locs ls hP hS hl => W.lcmp C.hx C.hb d (k hX H locs ls hP hS hl)
theorem z_goto {off : Int} {tgt : Nat} (C : zOk sh K own cc ret mL n) (d : decode cc pc = .ok (.goto off, 3)) (ht : (pc : Int) + off = (tgt : Int)) (k : Zf sh K X tgt lv st σ) : Zf sh K X pc lv st σ :=
  fun hX H locs ls hP hS hl => lv_goto C.hx C.hb d ht (k hX H locs ls hP hS hl)
theorem z_lt {x : Int32} {F : Int32 → Option (Int32 × zS)} (k : ∀ v : Int32, Zf sh K (F v) pc lv (.int v :: st) σ) : Zf sh K (zlt x F) pc lv (.int x :: st) σ := k x
theorem z_idiv {x y : Int32} {F : Int32 → Option (Int32 × zS)} (C : zOk sh K own cc ret mL n) (d : decode cc pc = .ok (.idiv, 1)) (k : ∀ v : Int32, Zf sh K (F v) (pc + 1) lv (.int v :: st) σ) : Zf sh K (zdv x y F) pc lv (.int y :: .int x :: st) σ := by
  intro hX
  unfold zdv at hX
  by_cases h : y = 0
  · rw [if_pos h] at hX; cases hX
  · rw [if_neg h] at hX
    exact fun H locs ls hP hS hl => lv_idiv C.hx C.hb d h (k _ hX H locs ls hP hS hl)
theorem z_irem {x y : Int32} {F : Int32 → Option (Int32 × zS)} (C : zOk sh K own cc ret mL n) (d : decode cc pc = .ok (.irem, 1)) (k : ∀ v : Int32, Zf sh K (F v) (pc + 1) lv (.int v :: st) σ) : Zf sh K (zrm2 x y F) pc lv (.int y :: .int x :: st) σ := by
  intro hX
  unfold zrm2 at hX
  by_cases h : y = 0
  · rw [if_pos h] at hX; cases hX
  · rw [if_neg h] at hX
    exact fun H locs ls hP hS hl => lv_irem C.hx C.hb d h (k _ hX H locs ls hP hS hl)
theorem z_if_eq {x : Int32} {off : Int} {tgt : Nat} (C : zOk sh K own cc ret mL n) (d : decode cc pc = .ok (.ifCond .eq off, 3)) (ht : (pc : Int) + off = (tgt : Int)) (kt : Zf sh K X tgt lv st σ) (kf : Zf sh K Y (pc + 3) lv st σ) : Zf sh K (if x = 0 then X else Y) pc lv (.int x :: st) σ := by
  intro hX H locs ls hP hS hl
  refine lv_if_eq C.hx C.hb d ht (fun h => ?_) (fun h => ?_)
  · rw [if_pos h] at hX; exact kt hX H locs ls hP hS hl
  · rw [if_neg h] at hX; exact kf hX H locs ls hP hS hl
theorem z_if_ne {x : Int32} {off : Int} {tgt : Nat} (C : zOk sh K own cc ret mL n) (d : decode cc pc = .ok (.ifCond .ne off, 3)) (ht : (pc : Int) + off = (tgt : Int)) (kt : Zf sh K X (pc + 3) lv st σ) (kf : Zf sh K Y tgt lv st σ) : Zf sh K (if x = 0 then X else Y) pc lv (.int x :: st) σ := by
  intro hX H locs ls hP hS hl
  refine lv_if_ne C.hx C.hb d ht (fun h => ?_) (fun h => ?_)
  · rw [if_neg h] at hX; exact kf hX H locs ls hP hS hl
  · rw [if_pos h] at hX; exact kt hX H locs ls hP hS hl
theorem z_if_lt {x : Int32} {off : Int} {tgt : Nat} (C : zOk sh K own cc ret mL n) (d : decode cc pc = .ok (.ifCond .lt off, 3)) (ht : (pc : Int) + off = (tgt : Int)) (kt : Zf sh K X tgt lv st σ) (kf : Zf sh K Y (pc + 3) lv st σ) : Zf sh K (if x < 0 then X else Y) pc lv (.int x :: st) σ := by
  intro hX H locs ls hP hS hl
  refine lv_if_lt C.hx C.hb d ht (fun h => ?_) (fun h => ?_)
  · rw [if_pos h] at hX; exact kt hX H locs ls hP hS hl
  · rw [if_neg h] at hX; exact kf hX H locs ls hP hS hl
theorem z_if_ge {x : Int32} {off : Int} {tgt : Nat} (C : zOk sh K own cc ret mL n) (d : decode cc pc = .ok (.ifCond .ge off, 3)) (ht : (pc : Int) + off = (tgt : Int)) (kt : Zf sh K X tgt lv st σ) (kf : Zf sh K Y (pc + 3) lv st σ) : Zf sh K (if 0 ≤ x then X else Y) pc lv (.int x :: st) σ := by
  intro hX H locs ls hP hS hl
  refine lv_if_ge C.hx C.hb d ht (fun h => ?_) (fun h => ?_)
  · rw [if_pos h] at hX; exact kt hX H locs ls hP hS hl
  · rw [if_neg h] at hX; exact kf hX H locs ls hP hS hl
theorem z_if_gt {x : Int32} {off : Int} {tgt : Nat} (C : zOk sh K own cc ret mL n) (d : decode cc pc = .ok (.ifCond .gt off, 3)) (ht : (pc : Int) + off = (tgt : Int)) (kt : Zf sh K X tgt lv st σ) (kf : Zf sh K Y (pc + 3) lv st σ) : Zf sh K (if 0 < x then X else Y) pc lv (.int x :: st) σ := by
  intro hX H locs ls hP hS hl
  refine lv_if_gt C.hx C.hb d ht (fun h => ?_) (fun h => ?_)
  · rw [if_pos h] at hX; exact kt hX H locs ls hP hS hl
  · rw [if_neg h] at hX; exact kf hX H locs ls hP hS hl
theorem z_if_le {x : Int32} {off : Int} {tgt : Nat} (C : zOk sh K own cc ret mL n) (d : decode cc pc = .ok (.ifCond .le off, 3)) (ht : (pc : Int) + off = (tgt : Int)) (kt : Zf sh K X tgt lv st σ) (kf : Zf sh K Y (pc + 3) lv st σ) : Zf sh K (if x ≤ 0 then X else Y) pc lv (.int x :: st) σ := by
  intro hX H locs ls hP hS hl
  refine lv_if_le C.hx C.hb d ht (fun h => ?_) (fun h => ?_)
  · rw [if_pos h] at hX; exact kt hX H locs ls hP hS hl
  · rw [if_neg h] at hX; exact kf hX H locs ls hP hS hl
theorem z_icmp_eq {x y : Int32} {off : Int} {tgt : Nat} (C : zOk sh K own cc ret mL n) (d : decode cc pc = .ok (.if_icmp .eq off, 3)) (ht : (pc : Int) + off = (tgt : Int)) (kt : Zf sh K X tgt lv st σ) (kf : Zf sh K Y (pc + 3) lv st σ) : Zf sh K (if x = y then X else Y) pc lv (.int y :: .int x :: st) σ := by
  intro hX H locs ls hP hS hl
  refine lv_icmp_eq C.hx C.hb d ht (fun h => ?_) (fun h => ?_)
  · rw [if_pos h] at hX; exact kt hX H locs ls hP hS hl
  · rw [if_neg h] at hX; exact kf hX H locs ls hP hS hl
theorem z_icmp_ne {x y : Int32} {off : Int} {tgt : Nat} (C : zOk sh K own cc ret mL n) (d : decode cc pc = .ok (.if_icmp .ne off, 3)) (ht : (pc : Int) + off = (tgt : Int)) (kt : Zf sh K X (pc + 3) lv st σ) (kf : Zf sh K Y tgt lv st σ) : Zf sh K (if x = y then X else Y) pc lv (.int y :: .int x :: st) σ := by
  intro hX H locs ls hP hS hl
  refine lv_icmp_ne C.hx C.hb d ht (fun h => ?_) (fun h => ?_)
  · rw [if_neg h] at hX; exact kf hX H locs ls hP hS hl
  · rw [if_pos h] at hX; exact kt hX H locs ls hP hS hl
theorem z_icmp_lt {x y : Int32} {off : Int} {tgt : Nat} (C : zOk sh K own cc ret mL n) (d : decode cc pc = .ok (.if_icmp .lt off, 3)) (ht : (pc : Int) + off = (tgt : Int)) (kt : Zf sh K X tgt lv st σ) (kf : Zf sh K Y (pc + 3) lv st σ) : Zf sh K (if x < y then X else Y) pc lv (.int y :: .int x :: st) σ := by
  intro hX H locs ls hP hS hl
  refine lv_icmp_lt C.hx C.hb d ht (fun h => ?_) (fun h => ?_)
  · rw [if_pos h] at hX; exact kt hX H locs ls hP hS hl
  · rw [if_neg h] at hX; exact kf hX H locs ls hP hS hl
theorem z_icmp_ge {x y : Int32} {off : Int} {tgt : Nat} (C : zOk sh K own cc ret mL n) (d : decode cc pc = .ok (.if_icmp .ge off, 3)) (ht : (pc : Int) + off = (tgt : Int)) (kt : Zf sh K X tgt lv st σ) (kf : Zf sh K Y (pc + 3) lv st σ) : Zf sh K (if y ≤ x then X else Y) pc lv (.int y :: .int x :: st) σ := by
  intro hX H locs ls hP hS hl
  refine lv_icmp_ge C.hx C.hb d ht (fun h => ?_) (fun h => ?_)
  · rw [if_pos h] at hX; exact kt hX H locs ls hP hS hl
  · rw [if_neg h] at hX; exact kf hX H locs ls hP hS hl
theorem z_icmp_gt {x y : Int32} {off : Int} {tgt : Nat} (C : zOk sh K own cc ret mL n) (d : decode cc pc = .ok (.if_icmp .gt off, 3)) (ht : (pc : Int) + off = (tgt : Int)) (kt : Zf sh K X tgt lv st σ) (kf : Zf sh K Y (pc + 3) lv st σ) : Zf sh K (if y < x then X else Y) pc lv (.int y :: .int x :: st) σ := by
  intro hX H locs ls hP hS hl
  refine lv_icmp_gt C.hx C.hb d ht (fun h => ?_) (fun h => ?_)
  · rw [if_pos h] at hX; exact kt hX H locs ls hP hS hl
  · rw [if_neg h] at hX; exact kf hX H locs ls hP hS hl
theorem z_icmp_le {x y : Int32} {off : Int} {tgt : Nat} (C : zOk sh K own cc ret mL n) (d : decode cc pc = .ok (.if_icmp .le off, 3)) (ht : (pc : Int) + off = (tgt : Int)) (kt : Zf sh K X tgt lv st σ) (kf : Zf sh K Y (pc + 3) lv st σ) : Zf sh K (if x ≤ y then X else Y) pc lv (.int y :: .int x :: st) σ := by
  intro hX H locs ls hP hS hl
  refine lv_icmp_le C.hx C.hb d ht (fun h => ?_) (fun h => ?_)
  · rw [if_pos h] at hX; exact kt hX H locs ls hP hS hl
  · rw [if_neg h] at hX; exact kf hX H locs ls hP hS hl
/-- a case is taken by its number -/
theorem z_case {x : Int32} (v : Int32) (kt : x = v → Zf sh K X pc lv (.int x :: st) σ) (kf : ¬ x = v → Zf sh K Y pc lv (.int x :: st) σ) : Zf sh K (if x = v then X else Y) pc lv (.int x :: st) σ := by
  intro hX
  by_cases h : x = v
  · rw [if_pos h] at hX; exact kt h hX
  · rw [if_neg h] at hX; exact kf h hX
theorem z_tabIn {x : Int32} {dflt lo hi : Int} {offs : Array Int} {len tgt : Nat} {off : Int} (C : zOk sh K own cc ret mL n) (d : decode cc pc = .ok (.tableswitch dflt lo hi offs, len)) (v : Int32) (hv : x = v) (h1 : ¬ v.toInt < lo) (h2 : ¬ hi < v.toInt) (ho : offs[(v.toInt - lo).toNat]? = some off) (ht : (pc : Int) + off = (tgt : Int)) (k : Zf sh K X tgt lv st σ) : Zf sh K X pc lv (.int x :: st) σ :=
  fun hX H locs ls hP hS hl => lv_tableIn C.hx C.hb d (by rw [hv]; exact h1) (by rw [hv]; exact h2) (by rw [hv]; exact ho) ht (k hX H locs ls hP hS hl)
theorem z_tabOut {x : Int32} {dflt lo hi : Int} {offs : Array Int} {len tgt : Nat} (C : zOk sh K own cc ret mL n) (d : decode cc pc = .ok (.tableswitch dflt lo hi offs, len)) (h : x.toInt < lo ∨ hi < x.toInt) (ht : (pc : Int) + dflt = (tgt : Int)) (k : Zf sh K X tgt lv st σ) : Zf sh K X pc lv (.int x :: st) σ :=
  fun hX H locs ls hP hS hl => lv_tableOut C.hx C.hb d h ht (k hX H locs ls hP hS hl)
theorem z_look {x : Int32} {dflt : Int} {ps : Array (Int × Int)} {len tgt : Nat} {off : Int} (C : zOk sh K own cc ret mL n) (d : decode cc pc = .ok (.lookupswitch dflt ps, len)) (hp : (ps.toList.zip (ps.toList.drop 1)).all (fun (a, next) => a.1 < next.1) = true) (ho : Op.lookupswitch.offset ps.toList dflt x.toInt = off) (ht : (pc : Int) + off = (tgt : Int)) (k : Zf sh K X tgt lv st σ) : Zf sh K X pc lv (.int x :: st) σ :=
  fun hX H locs ls hP hS hl => lv_lookup C.hx C.hb d hp ho ht (k hX H locs ls hP hS hl)
theorem zin_of {j : Int32} {n : Nat} (h : 0 ≤ j.toInt ∧ j.toInt < n) : vp_in j n := vp_in_iff.mpr h
theorem z_iald {q m : Nat} {j : Int32} {F : Int32 → Option (Int32 × zS)} (C : zOk sh K own cc ret mL n) (hA : sh[q]? = some (.inr (false, m))) (d : decode cc pc = .ok (.iaload, 1)) (k : ∀ v : Int32, Zf sh K (F v) (pc + 1) lv (.int v :: st) σ) : Zf sh K (zrd σ q m j F) pc lv (.int j :: .ref (ga (kG K) q) :: st) σ := by
  intro hX
  unfold zrd at hX
  by_cases h : 0 ≤ j.toInt ∧ j.toInt < m
  · rw [if_pos h] at hX
    exact fun H locs ls hP hS hl => va_iald C.hx C.hb C.hK hP q 0 (zW_get hA) rfl (zin_of h) d (k _ hX H locs ls hP hS hl)
  · rw [if_neg h] at hX; cases hX
theorem z_bald {q m : Nat} {j : Int32} {F : Int32 → Option (Int32 × zS)} (C : zOk sh K own cc ret mL n) (hA : sh[q]? = some (.inr (true, m))) (d : decode cc pc = .ok (.baload, 1)) (k : ∀ v : Int32, Zf sh K (F v) (pc + 1) lv (.int v :: st) σ) : Zf sh K (zrd σ q m j F) pc lv (.int j :: .ref (ga (kG K) q) :: st) σ := by
  intro hX
  unfold zrd at hX
  by_cases h : 0 ≤ j.toInt ∧ j.toInt < m
  · rw [if_pos h] at hX
    exact fun H locs ls hP hS hl => va_zald C.hx C.hb C.hK hP q 1 (zW_get hA) rfl (zin_of h) d (k _ hX H locs ls hP hS hl)
  · rw [if_neg h] at hX; cases hX
theorem zsa_ne {σ : zS} {k a : Nat} {g : Nat → Int32} (h : a ≠ k) : zsa σ k g a = σ a := if_neg h
theorem zsa_eq {σ : zS} {k : Nat} {g : Nat → Int32} : zsa σ k g k = g := if_pos rfl
theorem zup_ne {σ : zS} {k a j : Nat} {v : Int32} (h : a ≠ k) : zup σ k j v a = σ a := if_neg h
theorem zup_eq {σ : zS} {k j : Nat} {v : Int32} : zup σ k j v k = upd (σ k) j v := if_pos rfl
theorem z_iast {q m : Nat} {j v : Int32} {F : zS → Option (Int32 × zS)} (C : zOk sh K own cc ret mL n) (hA : sh[q]? = some (.inr (false, m))) (d : decode cc pc = .ok (.iastore, 1)) (k : ∀ σ1 : zS, Zf sh K (F σ1) (pc + 1) lv st σ1) : Zf sh K (zwr σ q m j v F) pc lv (.int v :: .int j :: .ref (ga (kG K) q) :: st) σ := by
  intro hX
  unfold zwr at hX
  by_cases h : 0 ≤ j.toInt ∧ j.toInt < m
  · rw [if_pos h] at hX
    intro H locs ls hP hS hl
    refine va_iast C.hx C.hb C.hK hP (C.hD σ) hS q 0 (zW_get hA) rfl (zin_of h) d (fun H1 locs1 hP1 _ hS1 => k _ hX H1 locs1 ls ?_ hS1 hl)
    have e := zW_set (G := kG K) (σ := σ) (σ' := zup σ q j.toNatClampNeg v) hA (fun a ha => zup_ne ha)
    simp only [zE, zup_eq] at e
    rw [← e]
    exact hP1
  · rw [if_neg h] at hX; cases hX
theorem z_bast1 {q m : Nat} {j : Int32} {F : zS → Option (Int32 × zS)} (C : zOk sh K own cc ret mL n) (hA : sh[q]? = some (.inr (true, m))) (d : decode cc pc = .ok (.bastore, 1)) (k : ∀ σ1 : zS, Zf sh K (F σ1) (pc + 1) lv st σ1) : Zf sh K (zwr σ q m j 1 F) pc lv (.int 1 :: .int j :: .ref (ga (kG K) q) :: st) σ := by
  intro hX
  unfold zwr at hX
  by_cases h : 0 ≤ j.toInt ∧ j.toInt < m
  · rw [if_pos h] at hX
    intro H locs ls hP hS hl
    refine va_zast C.hx C.hb C.hK hP (C.hD σ) hS q 1 (zW_get hA) rfl (zin_of h) d (fun H1 locs1 hP1 _ hS1 => k _ hX H1 locs1 ls ?_ hS1 hl)
    have e := zW_set (G := kG K) (σ := σ) (σ' := zup σ q j.toNatClampNeg 1) hA (fun a ha => zup_ne ha)
    simp only [zE, zup_eq] at e
    rw [← e]
    have e2 : vp_nar .boolean 1 = 1 := by decide
    rw [e2] at hP1
    exact hP1
  · rw [if_neg h] at hX; cases hX
theorem z_alen {q m : Nat} {b : Bool} {v : Int32} (C : zOk sh K own cc ret mL n) (hA : sh[q]? = some (.inr (b, m))) (d : decode cc pc = .ok (.arraylength, 1)) (hv : Int32.ofNat m = v) (k : Zf sh K X (pc + 1) lv (.int v :: st) σ) : Zf sh K X pc lv (.ref (ga (kG K) q) :: st) σ := by
  intro hX H locs ls hP hS hl
  cases b with
  | false => exact va_alen C.hx C.hb C.hK hP q 0 (zW_get hA) (ty := .int) rfl hv d (k hX H locs ls hP hS hl)
  | true => exact va_alen C.hx C.hb C.hK hP q 1 (zW_get hA) (ty := .boolean) rfl hv d (k hX H locs ls hP hS hl)
/-- field number j of cell q, by the link number i of 'own' -/
def zFd (sh : List zC) (own : String) (i q j : Nat) (o : Bool ⊕ Nat) : Prop := ∃ (ci : Nat) (sl : List (Bool ⊕ Nat)) (c : vw_C), sh[q]? = some (.inl (ci, sl)) ∧ zcl[ci]? = some c ∧ sl[j]? = some o ∧ j < c.2.2 ∧ Cond.fieldLink own i (c.2.1 j).1 (c.2.1 j).2.1 (c.2.1 j).2.2.1 ∈ zT
def zFw (sh : List zC) (q j : Nat) (d : String) : Prop := ∃ (ci : Nat) (sl : List (Bool ⊕ Nat)) (c : vw_C), sh[q]? = some (.inl (ci, sl)) ∧ zcl[ci]? = some c ∧ (c.2.1 j).2.2.2 = false ∧ (c.2.1 j).2.2.1 = d
theorem z_get {i q j : Nat} {o : Bool ⊕ Nat} (C : zOk sh K own cc ret mL n) (hF : zFd sh own i q j o) (d : decode cc pc = .ok (.getfield i, 3)) (k : Zf sh K X (pc + 3) lv (zF (kG K) σ q j o :: st) σ) : Zf sh K X pc lv (.ref (ga (kG K) q) :: st) σ := by
  intro hX H locs ls hP hS hl
  obtain ⟨ci, sl, c, h1, h2, h3, h4, h5⟩ := hF
  exact va_get C.hx C.hb C.hts (zcl_in ci c h2) C.hown C.hK hP q (zW_get h1) h2 j h4 (C.hts _ h5) (fun _ h9 => h9) (by show (sl.mapIdx _)[j]? = _; rw [List.getElem?_mapIdx, h3]; rfl) d (k hX H locs ls hP hS hl)
theorem z_getI {i q j : Nat} (C : zOk sh K own cc ret mL n) (hF : zFd sh own i q j (.inl false)) (d : decode cc pc = .ok (.getfield i, 3)) (k : Zf sh K X (pc + 3) lv (.int (σ q j) :: st) σ) : Zf sh K X pc lv (.ref (ga (kG K) q) :: st) σ := z_get C hF d k
theorem z_getL {i q j : Nat} (C : zOk sh K own cc ret mL n) (hF : zFd sh own i q j (.inl true)) (d : decode cc pc = .ok (.getfield i, 3)) (k : Zf sh K X (pc + 3) lv (.long (zlg (σ q j) (σ q (j + 1000))) :: st) σ) : Zf sh K X pc lv (.ref (ga (kG K) q) :: st) σ := z_get C hF d k
theorem z_getR {i q j r : Nat} (C : zOk sh K own cc ret mL n) (hF : zFd sh own i q j (.inr r)) (d : decode cc pc = .ok (.getfield i, 3)) (k : Zf sh K X (pc + 3) lv (.ref (ga (kG K) r) :: st) σ) : Zf sh K X pc lv (.ref (ga (kG K) q) :: st) σ := z_get C hF d k
theorem zE_put {G : zG} {σ σ1 : zS} {q j ci : Nat} {sl : List (Bool ⊕ Nat)} {o : Bool ⊕ Nat} (h3 : sl[j]? = some o) (hne : ∀ (a : Nat) (b : Bool ⊕ Nat), a ≠ j → sl[a]? = some b → zF G σ1 q a b = zF G σ q a b) : (sl.mapIdx (zF G σ q)).set j (zF G σ1 q j o) = sl.mapIdx (zF G σ1 q) := by
  apply List.ext_getElem?
  intro a
  have hl : j < (sl.mapIdx (zF G σ q)).length := by
    have := (List.getElem?_eq_some_iff.mp h3).1
    simpa using this
  by_cases h : a = j
  · subst h
    rw [List.getElem?_set_self hl, List.getElem?_mapIdx, h3]
    rfl
  · rw [List.getElem?_set_ne (Ne.symm h), List.getElem?_mapIdx, List.getElem?_mapIdx]
    cases hb : sl[a]? with
    | none => rfl
    | some b => simp only [Option.map_some]; rw [hne a b h hb]
theorem z_put {i q j : Nat} {o : Bool ⊕ Nat} {v : Value} {ty : FieldType} {ds : String} {σ1 : zS} (C : zOk sh K own cc ret mL n) (hF : zFd sh own i q j o) (hw : zFw sh q j ds) (hty : parseFieldDescriptor ds = some ty) (hn : narrow ty v = v) (hf : fits ty v = true) (hv : v = zF (kG K) σ1 q j o) (ho : ∀ a, a ≠ q → σ1 a = σ a) (hs : ∀ (sl : List (Bool ⊕ Nat)) (ci : Nat), sh[q]? = some (.inl (ci, sl)) → ∀ (a : Nat) (b : Bool ⊕ Nat), a ≠ j → sl[a]? = some b → zF (kG K) σ1 q a b = zF (kG K) σ q a b)
    (d : decode cc pc = .ok (.putfield i, 3)) (k : Zf sh K X (pc + 3) lv st σ1) : Zf sh K X pc lv (v :: .ref (ga (kG K) q) :: st) σ := by
  intro hX H locs ls hP hS hl
  obtain ⟨ci, sl, c, h1, h2, h3, h4, h5⟩ := hF
  obtain ⟨ci', sl', c', g1, g2, g3, g4⟩ := hw
  cases h1.symm.trans g1
  cases h2.symm.trans g2
  obtain ⟨tyf, htyf⟩ := zcl_ty ci c h2
  have hlen : j < (sl.mapIdx (zF (kG K) σ q)).length := by
    have := (List.getElem?_eq_some_iff.mp h3).1
    simpa using this
  refine va_put C.hx C.hb C.hts (zcl_in ci c h2) tyf htyf (zcl_nm ci c h2) C.hown C.hK hP (C.hD σ) hS q (zW_get h1) h2 j h4 (C.hts _ h5) (fun _ h9 => h9) g3 (by rw [g4]; exact hty) hn hf hlen d (fun H1 locs1 hP1 _ hS1 => k hX H1 locs1 ls ?_ hS1 hl)
  have e := zW_set (G := kG K) (σ := σ) (σ' := σ1) h1 ho
  rw [← e]
  show va_P _ _ ((zW (kG K) sh σ).set q (ga (kG K) q, .inr (ci, sl.mapIdx (zF (kG K) σ1 q)))) H1
  rw [← zE_put (σ := σ) (ci := ci) h3 (hs sl ci h1), ← hv]
  exact hP1
theorem z_putI {i q j : Nat} {v : Int32} {F : zS → Option (Int32 × zS)} (C : zOk sh K own cc ret mL n) (hF : zFd sh own i q j (.inl false)) (hw : zFw sh q j "I") (hlg : ∀ (sl : List (Bool ⊕ Nat)) (ci : Nat), sh[q]? = some (.inl (ci, sl)) → sl.length ≤ 1000) (hj : j < 1000) (d : decode cc pc = .ok (.putfield i, 3)) (k : ∀ σ1 : zS, Zf sh K (F σ1) (pc + 3) lv st σ1) : Zf sh K (zst σ q j v F) pc lv (.int v :: .ref (ga (kG K) q) :: st) σ := by
  refine z_put (σ1 := zup σ q j v) (ty := .int) C hF hw (by decide +kernel) rfl rfl ?_ (fun a ha => zup_ne ha) ?_ d (k _)
  · simp [zF, zup_eq, upd]
  · intro sl ci h1 a b ha hb
    have hal : a < 1000 := Nat.lt_of_lt_of_le (List.getElem?_eq_some_iff.mp hb).1 (hlg sl ci h1)
    cases b with
    | inl b =>
      cases b
      · simp [zF, zup_eq, upd, ha]
      · simp [zF, zup_eq, upd, ha, show a + 1000 ≠ j by omega]
    | inr r => rfl
theorem z_putL {i q j : Nat} {v : Int64} {F : zS → Option (Int32 × zS)} (C : zOk sh K own cc ret mL n) (hF : zFd sh own i q j (.inl true)) (hw : zFw sh q j "J") (hlg : ∀ (sl : List (Bool ⊕ Nat)) (ci : Nat), sh[q]? = some (.inl (ci, sl)) → sl.length ≤ 1000) (hj : j < 1000) (d : decode cc pc = .ok (.putfield i, 3)) (k : ∀ σ1 : zS, Zf sh K (F σ1) (pc + 3) lv st σ1) : Zf sh K (zsl σ q j v F) pc lv (.long v :: .ref (ga (kG K) q) :: st) σ := by
  refine z_put (σ1 := zup (zup σ q j (zlo v)) q (j + 1000) (zhi v)) (ty := .long) C hF hw (by decide +kernel) rfl rfl ?_ (fun a ha => by rw [zup_ne ha, zup_ne ha]) ?_ d (k _)
  · simp [zF, zup_eq, upd, zlg_eq]
  · intro sl ci h1 a b ha hb
    have hal : a < 1000 := Nat.lt_of_lt_of_le (List.getElem?_eq_some_iff.mp hb).1 (hlg sl ci h1)
    cases b with
    | inl b =>
      cases b
      · simp [zF, zup_eq, upd, ha, show a ≠ j + 1000 by omega]
      · simp [zF, zup_eq, upd, ha, show a ≠ j + 1000 by omega, show a + 1000 ≠ j by omega]
    | inr r => rfl
theorem z_iret {v : Int32} (C : zOk sh K own cc (some .int) mL n) (d : decode cc pc = .ok (.ireturn, 1)) : Zf sh K (some (v, σ)) pc lv [.int v] σ := by
  intro hX H locs ls hP hS hl
  have h1 : v = kr K := congrArg Prod.fst (Option.some.inj hX)
  have h2 : σ = kx K := congrArg Prod.snd (Option.some.inj hX)
  exact W.iret C.hx C.hb C.hr (fun t ht hW => ⟨⟨by rw [C.ho, h1]; rfl, by rw [ht, ← h2]; exact hP⟩, hS.F ht⟩) hS.2.2 d C.hlocks
theorem z_zret {v : Int32} (C : zOk sh K own cc (some .boolean) mL n) (hv : v &&& 1 = v) (d : decode cc pc = .ok (.ireturn, 1)) : Zf sh K (some (v, σ)) pc lv [.int v] σ := by
  intro hX H locs ls hP hS hl
  have h1 : v = kr K := congrArg Prod.fst (Option.some.inj hX)
  have h2 : σ = kx K := congrArg Prod.snd (Option.some.inj hX)
  exact W.zret C.hx C.hb C.hr (by show Value.int (v &&& 1) = _; rw [hv]) (fun t ht hW => ⟨⟨by rw [C.ho, h1]; rfl, by rw [ht, ← h2]; exact hP⟩, hS.F ht⟩) hS.2.2 d C.hlocks
theorem z_zrb {v : Int32} (C : zOk sh K own cc (some .boolean) mL n) (d : decode cc pc = .ok (.ireturn, 1)) : Zf sh K (zrb v σ) pc lv [.int v] σ := by
  intro hX
  unfold zrb at hX
  by_cases h : v &&& 1 = v
  · rw [if_pos h] at hX; exact z_zret C h d hX
  · rw [if_neg h] at hX; cases hX
theorem z_vret (C : zOk sh K own cc none mL n) (d : decode cc pc = .ok (.return_, 1)) : Zf sh K (some (0, σ)) pc lv [] σ := by
  intro hX H locs ls hP hS hl
  have h2 : σ = kx K := congrArg Prod.snd (Option.some.inj hX)
  exact W.vret C.hx C.hb C.hr (fun t ht hW => ⟨⟨by rw [C.ho]; rfl, by rw [ht, ← h2]; exact hP⟩, hS.F ht⟩) hS.2.2 d C.hlocks
theorem z_aret {v : Int32} {t : String} (C : zOk sh K own cc (some (.object t)) mL n) (d : decode cc pc = .ok (.areturn, 1)) : Zf sh K (some (v, σ)) pc lv [.ref (gk (kG K) v.toNatClampNeg)] σ := by
  intro hX H locs ls hP hS hl
  have h1 : v = kr K := congrArg Prod.fst (Option.some.inj hX)
  have h2 : σ = kx K := congrArg Prod.snd (Option.some.inj hX)
  exact W.aret C.hx C.hb C.hr (Or.inl ⟨_, rfl⟩) (Or.inr ⟨_, rfl⟩) (fun t ht hW => ⟨⟨by rw [C.ho, h1]; rfl, by rw [ht, ← h2]; exact hP⟩, hS.F ht⟩) hS.2.2 d C.hlocks
theorem z_ldcS {i : Nat} {tx : String} (C : zOk sh K own cc ret mL n) (q : Nat) (hq : zStrs[q]? = some (own, i, tx)) (d : decode cc pc = .ok (.ldc i, 2)) (k : Zf sh K X (pc + 2) lv (.ref (gk (kG K) q) :: st) σ) : Zf sh K X pc lv st σ :=
  fun hX H locs ls hP hS hl => va_ldcS C.hx C.hb C.hown (C.hX.2.1 q _ hq) d (k hX H locs ls hP hS hl)
theorem z_mmax {i : Nat} {x y : Int32} (C : zOk sh K own cc ret mL n) (hw : Cond.methodLink own i Lib.Math.max.name ∈ zT) (h1 : Cond.static Lib.Math.max.name ∈ zT) (h2 : Cond.initialized "java/lang/Math" ∈ zT) (h3 : Cond.code Lib.Math.max.name Lib.Math.max.code 2 (some .int) ∈ zT) (hn : 0 < n) (hr : (st.map fun v => v.category).sum ≤ 8) (d : decode cc pc = .ok (.invokestatic i, 3)) (k : Zf sh K X (pc + 3) lv (.int (zmax x y) :: st) σ) : Zf sh K X pc lv (.int y :: .int x :: st) σ := by
  intro hX H locs ls hP hS hl
  have hN := C.hN
  refine va_mmax C.hx C.hb (C.1.2.2.1.trans hl.1.symm) C.hown (C.hts _ hw) (C.hts _ h1) (C.hts _ h2) (C.hts _ h3) ?_ ?_ (Nat.zero_le _) (Nat.zero_le _) d (k hX H locs ls hP hS hl)
  · show 1 ≤ kN K
    omega
  · show _ ≤ 35 * kN K
    omega
theorem z_mmin {i : Nat} {x y : Int32} (C : zOk sh K own cc ret mL n) (hw : Cond.methodLink own i Lib.Math.min.name ∈ zT) (h1 : Cond.static Lib.Math.min.name ∈ zT) (h2 : Cond.initialized "java/lang/Math" ∈ zT) (h3 : Cond.code Lib.Math.min.name Lib.Math.min.code 2 (some .int) ∈ zT) (hn : 0 < n) (hr : (st.map fun v => v.category).sum ≤ 8) (d : decode cc pc = .ok (.invokestatic i, 3)) (k : Zf sh K X (pc + 3) lv (.int (zmin x y) :: st) σ) : Zf sh K X pc lv (.int y :: .int x :: st) σ := by
  intro hX H locs ls hP hS hl
  have hN := C.hN
  refine va_mmin C.hx C.hb (C.1.2.2.1.trans hl.1.symm) C.hown (C.hts _ hw) (C.hts _ h1) (C.hts _ h2) (C.hts _ h3) ?_ ?_ (Nat.zero_le _) (Nat.zero_le _) d (k hX H locs ls hP hS hl)
  · show 1 ≤ kN K
    omega
  · show _ ≤ 35 * kN K
    omega
theorem z_mabs {i : Nat} {x : Int32} (C : zOk sh K own cc ret mL n) (hw : Cond.methodLink own i Lib.Math.abs.name ∈ zT) (h1 : Cond.static Lib.Math.abs.name ∈ zT) (h2 : Cond.initialized "java/lang/Math" ∈ zT) (h3 : Cond.code Lib.Math.abs.name Lib.Math.abs.code 1 (some .int) ∈ zT) (hn : 0 < n) (hr : (st.map fun v => v.category).sum ≤ 8) (d : decode cc pc = .ok (.invokestatic i, 3)) (k : Zf sh K X (pc + 3) lv (.int (zabs x) :: st) σ) : Zf sh K X pc lv (.int x :: st) σ := by
  intro hX H locs ls hP hS hl
  have hN := C.hN
  refine va_mabs C.hx C.hb (C.1.2.2.1.trans hl.1.symm) C.hown (C.hts _ hw) (C.hts _ h1) (C.hts _ h2) (C.hts _ h3) ?_ ?_ (Nat.zero_le _) (Nat.zero_le _) d (k hX H locs ls hP hS hl)
  · show 1 ≤ kN K
    omega
  · show _ ≤ 35 * kN K
    omega
theorem z_copy {i q0 q1 m : Nat} {w : Int32} {F : zS → Option (Int32 × zS)} (C : zOk sh K own cc ret mL n) (hA : sh[q0]? = some (.inr (false, m))) (hB : sh[q1]? = some (.inr (false, m))) (hwm : w.toNatClampNeg = m) (hw0 : ¬ w < 0) (hw : Cond.methodLink own i arraycopyName ∈ zT) (h0 : Cond.native arraycopyName ∈ zT) (h1 : Cond.static arraycopyName ∈ zT) (h2 : Cond.initialized "java/lang/System" ∈ zT) (hn : 1 < n) (hr : (st.map fun v => v.category).sum ≤ 8) (d : decode cc pc = .ok (.invokestatic i, 3)) (k : ∀ σ1 : zS, Zf sh K (F σ1) (pc + 3) lv st σ1) : Zf sh K (zcp σ q0 q1 m F) pc lv (.int w :: .int 0 :: .ref (ga (kG K) q1) :: .int 0 :: .ref (ga (kG K) q0) :: st) σ := by
  intro hX H locs ls hP hS hl
  have hN := C.hN
  have e0 : (0 : Int32).toNatClampNeg = 0 := rfl
  refine va_copyi C.hx C.hb (C.1.2.2.1.trans hl.1.symm) C.hown (C.hts _ hw) (C.hts _ h0) (C.hts _ h1) (C.hts _ h2) C.hK hP (C.hD σ) hS q0 q1 0 0 (ty := .int) (zW_get hA) (zW_get hB) rfl rfl rfl (by decide) (by decide) hw0 (by rw [hwm, e0]; omega) (by rw [hwm, e0]; omega) (fun _ _ => rfl) ?_ ?_ d (fun H1 locs1 hP1 _ hS1 => k _ hX H1 locs1 ls ?_ hS1 hl)
  · show 1 ≤ kN K
    omega
  · have : nativeFrameWords "java/lang/System" "arraycopy" 5 + 11 ≤ 60 := by decide +kernel
    show _ ≤ 35 * kN K
    omega
  · have e := zW_set (G := kG K) (σ := σ) (σ' := zsa σ q1 (va_cpy (σ q0) (σ q1) 0 0 m)) hB (fun a ha => zsa_ne ha)
    simp only [zE, zsa_eq] at e
    rw [← e]
    rw [hwm, e0] at hP1
    exact hP1
/-- what the tables say of a method -/
def zY (y : MethodName) (b : ByteArray) (mL1 : Nat) (ret1 : Option FieldType) (np : Nat) : Prop := Cond.initialized y.cls ∈ zT ∧ Cond.code y b mL1 ret1 ∈ zT ∧ (y.cls ≠ "java/lang/invoke/MethodHandle" ∧ y.cls ≠ "java/lang/invoke/VarHandle" ∧ (parseMethodDescriptor y.desc).map (fun d => d.parameters.length) = some np) ∧ mL1 ≤ 16
def zYv (y : MethodName) : Prop := Cond.instanceMethod y ∈ zT ∧ Cond.selects y.cls y y ∈ zT
def zRc (sh : List zC) (q : Nat) (nm : String) : Prop := ∃ (ci : Nat) (sl : List (Bool ⊕ Nat)) (c : vw_C), sh[q]? = some (.inl (ci, sl)) ∧ zcl[ci]? = some c ∧ c.1 = nm
theorem zT_any {v : Cond} (h : v ∈ zT) : GoodIn zT (v :: zT) := zT_goodTbl h
theorem z_pre {sh1 : List zC} {H : Heap} {locs : List Loc} {av : List Value} (C : zOk sh K own cc ret mL n) (hP : va_P (gD (kG K)) zcl (zW (kG K) sh σ) H) (hS : va_S (zA (kG K) sh (ks K).heap.size) (ks K).heap H locs) : PreS (ks K) H (zPc (kG K) sh H.size av σ) av :=
  ⟨zPc_blind, fun U hU hW => ⟨rfl, by rw [hU], by rw [hU]; exact hP, va_K.moved hW.alike C.hK, (C.hD σ).weaken (fun _ _ _ _ => trivial), zX_go C.hX hS hW hU⟩⟩
theorem z_go {H : Heap} {locs : List Loc} {ls : Array Slot} {o : Option Value} {σ1 : zS} {av : Array Value} {rest st0 : List Value} (C : zOk sh K own cc ret mL n) (hS : va_S (zA (kG K) sh (ks K).heap.size) (ks K).heap H locs) (hl : lv_has ls (kL K) lv)
    (hr : va_Run (kp K) (kl K) (ke K) (zrm (kN K)) (ks K) (km K) (kg K) (kb K) (kt K) (kc K) H locs 0 0 0 0 (F0 (km K) pc ls st0) rest (zQc (kG K) sh H.size o σ1 av) (zA (kG K) sh H.size)) (k : Zw sh K (pc + 3) lv (o.toList ++ rest) σ1) :
    W (kp K) (kl K) (ke K) (zrm (kN K)) (ks K) (km K) (kg K) (kb K) (kt K) (kc K) H locs 0 0 (MQ (kb K) (zQc (kG K) sh (ks K).heap.size (ko K) (kx K)) (kg K) (ks K) 0 0 (zA (kG K) sh (ks K).heap.size)) (F0 (km K) pc ls st0) := by
  intro T hT X
  obtain ⟨v, st₀, t, T', L, h0, X', hL, e1, e2, ⟨⟨hv, hp⟩, hz, hk⟩, gs⟩ := hr T hT X
  cases hv
  rw [h0] at hz hk
  have hA : ∀ q, zA (kG K) sh H.size q → zA (kG K) sh (ks K).heap.size q := fun q hq => zA_le hS.1 hq
  obtain ⟨t2, a1, b1⟩ := k T'.heap (locs ++ L) ls (by rw [e1]; exact hp) ⟨Nat.le_trans hS.1 (by rw [e1]; exact hz), fun q h1 h2 => by rw [e1, hk q (Nat.lt_of_lt_of_le h1 hS.1) (fun z => h2 (hA q z))]; exact hS.2.1 q h1 h2, fun q hq => by
      rcases List.mem_append.mp hq with h | h
      · exact hS.2.2 q h
      · exact hA _ (hL q h)⟩ hl T' rfl X'
  exact ⟨t2, gs t2 a1, b1⟩
theorem z_callB {i mL1 n1 np : Nat} {y : MethodName} {b : ByteArray} {ret1 : Option FieldType} (C : zOk sh K own cc ret mL n) (hy : zY y b mL1 ret1 np) (hw : Cond.methodLink own i y ∈ zT) (hn : n1 < n) : CallB (zrm (kN K)) (ks K) (kg K) own i y b mL1 ret1 (.code y b mL1 ret1 :: zT) (zrm n1) 0 0 np := by
  obtain ⟨h1, h2, h3, h4⟩ := hy
  have hN := C.hN
  exact callB_of np C.hts (zT_any h2) rfl rfl rfl (C.hts _ h1) (C.hts _ hw) h3 ⟨by show n1 + 1 ≤ kN K; omega, by show 8 + (mL1 + 11) + 35 * n1 ≤ 35 * kN K; omega⟩
theorem z_callV {i q mL1 n1 np : Nat} {y : MethodName} {b : ByteArray} {ret1 : Option FieldType} {As : List Value} {st0 : List Value} {X1 : Option (Int32 × zS)} {F : Int32 → zS → Option (Int32 × zS)} (C : zOk sh K own cc ret mL n) (hy : zY y b mL1 ret1 np) (hv : zYv y) (hw : Cond.methodLink own i y ∈ zT) (hq : zRc sh q y.cls) (hn : n1 < n)
    (hM : ∀ (r : Int32) (σ1 : zS), X1 = some (r, σ1) → zM (kl K) (kG K) sh y b mL1 ret1 n1 (.ref (ga (kG K) q) :: As) (zov ret1 (kG K) r) σ σ1) (hlen : As.length = np) (hst : st0 = As.reverse ++ .ref (ga (kG K) q) :: st) (hr : (st.map fun v => v.category).sum ≤ 8) (d : decode cc pc = .ok (.invokevirtual i, 3))
    (k : ∀ (r : Int32) (σ1 : zS), Zf sh K (F r σ1) (pc + 3) lv ((zov ret1 (kG K) r).toList ++ st) σ1) : Zf sh K (zbd X1 F) pc lv st0 σ := by
  intro hX H locs ls hP hS hl
  subst hst
  cases hx : X1 with
  | none => rw [hx] at hX; cases hX
  | some z =>
    obtain ⟨r, σ1⟩ := z
    rw [hx] at hX
    obtain ⟨ci, sl, c, g1, g2, g3⟩ := hq
    have hrc : ∃ cell : Cell, H[ga (kG K) q]? = some cell ∧ cell.vm.isStatics = false ∧ (ks K).vm.findClass y.cls = some cell.cls := by
      rw [← g3]; exact va_recv C.hK hP g2 (zW_get g1)
    have hp := z_pre (sh1 := sh) (av := .ref (ga (kG K) q) :: As) C hP hS
    exact z_go C hS hl (va_runV (As := As) (rest := st) C.1 (hM r σ1 hx H.size) ⟨z_callB C hy hw hn, C.hts _ hv.1, C.hts _ hv.2⟩ ⟨hp.1, hrc, hp.2⟩ rfl hlen hl.1 rfl (lv_room hr) d ⟨Nat.le_refl _, Nat.le_refl _⟩) (k r σ1 hX)
theorem z_callS {i mL1 n1 np : Nat} {y : MethodName} {b : ByteArray} {ret1 : Option FieldType} {As : List Value} {st0 : List Value} {X1 : Option (Int32 × zS)} {F : Int32 → zS → Option (Int32 × zS)} (C : zOk sh K own cc ret mL n) (hy : zY y b mL1 ret1 np) (hv : Cond.static y ∈ zT) (hw : Cond.methodLink own i y ∈ zT) (hn : n1 < n)
    (hM : ∀ (r : Int32) (σ1 : zS), X1 = some (r, σ1) → zM (kl K) (kG K) sh y b mL1 ret1 n1 As (zov ret1 (kG K) r) σ σ1) (hlen : As.length = np) (hst : st0 = As.reverse ++ st) (hr : (st.map fun v => v.category).sum ≤ 8) (d : decode cc pc = .ok (.invokestatic i, 3))
    (k : ∀ (r : Int32) (σ1 : zS), Zf sh K (F r σ1) (pc + 3) lv ((zov ret1 (kG K) r).toList ++ st) σ1) : Zf sh K (zbd X1 F) pc lv st0 σ := by
  intro hX H locs ls hP hS hl
  subst hst
  cases hx : X1 with
  | none => rw [hx] at hX; cases hX
  | some z =>
    obtain ⟨r, σ1⟩ := z
    rw [hx] at hX
    exact z_go C hS hl (va_runS (As := As) (rest := st) C.1 (hM r σ1 hx H.size) ⟨z_callB C hy hw hn, C.hts _ hv⟩ (z_pre (sh1 := sh) C hP hS) rfl hlen hl.1 rfl (lv_room hr) d ⟨Nat.le_refl _, Nat.le_refl _⟩) (k r σ1 hX)
theorem z_callN {i mL1 n1 np : Nat} {y : MethodName} {host : String} {b : ByteArray} {ret1 : Option FieldType} {As : List Value} {st0 : List Value} {X1 : Option (Int32 × zS)} {F : Int32 → zS → Option (Int32 × zS)} (C : zOk sh K own cc ret mL n) (hy : zY y b mL1 ret1 np) (hv : Cond.static y ∈ zT) (hw : (own, i, y, host) ∈ zNests) (hn : n1 < n)
    (hM : ∀ (r : Int32) (σ1 : zS), X1 = some (r, σ1) → zM (kl K) (kG K) sh y b mL1 ret1 n1 As (zov ret1 (kG K) r) σ σ1) (hlen : As.length = np) (hst : st0 = As.reverse ++ st) (hr : (st.map fun v => v.category).sum ≤ 8) (d : decode cc pc = .ok (.invokestatic i, 3))
    (k : ∀ (r : Int32) (σ1 : zS), Zf sh K (F r σ1) (pc + 3) lv ((zov ret1 (kG K) r).toList ++ st) σ1) : Zf sh K (zbd X1 F) pc lv st0 σ := by
  intro hX H locs ls hP hS hl
  subst hst
  cases hx : X1 with
  | none => rw [hx] at hX; cases hX
  | some z =>
    obtain ⟨r, σ1⟩ := z
    rw [hx] at hX
    obtain ⟨h1, h2, h3, h4⟩ := hy
    have hN := C.hN
    exact z_go C hS hl (va_runSN (As := As) (rest := st) C.1 (hM r σ1 hx H.size) ⟨va_cnB np C.hts (zT_any h2) rfl rfl rfl (C.hX.1 _ hw) (C.hts _ h1) h3 ⟨by show n1 + 1 ≤ kN K; omega, by show 8 + (mL1 + 11) + 35 * n1 ≤ 35 * kN K; omega⟩, C.hts _ hv, trivial⟩ (z_pre (sh1 := sh) C hP hS) rfl hlen hl.1 rfl (lv_room hr) d ⟨Nat.le_refl _, Nat.le_refl _⟩) (k r σ1 hX)
/-- a String constant's own method -/
theorem z_callT {i q mL1 n1 np : Nat} {y : MethodName} {b : ByteArray} {ret1 : Option FieldType} {As : List Value} {st0 : List Value} {X1 : Option (Int32 × zS)} {F : Int32 → zS → Option (Int32 × zS)} (C : zOk sh K own cc ret mL n) (hy : zY y b mL1 ret1 np) (hv : zYv y) (hw : Cond.methodLink own i y ∈ zT) (hc : y.cls = "java/lang/String") (hX1 : ¬ q < 10 → X1 = none) (hn : n1 < n)
    (hM : ∀ (r : Int32) (σ1 : zS), X1 = some (r, σ1) → zM (kl K) (kG K) sh y b mL1 ret1 n1 (.ref (gk (kG K) q) :: As) (zov ret1 (kG K) r) σ σ1) (hlen : As.length = np) (hst : st0 = As.reverse ++ .ref (gk (kG K) q) :: st) (hr : (st.map fun v => v.category).sum ≤ 8) (d : decode cc pc = .ok (.invokevirtual i, 3))
    (k : ∀ (r : Int32) (σ1 : zS), Zf sh K (F r σ1) (pc + 3) lv ((zov ret1 (kG K) r).toList ++ st) σ1) : Zf sh K (zbd X1 F) pc lv st0 σ := by
  intro hX H locs ls hP hS hl
  subst hst
  by_cases hq : q < 10
  · cases hx : X1 with
    | none => rw [hx] at hX; cases hX
    | some z =>
      obtain ⟨r, σ1⟩ := z
      rw [hx] at hX
      have hrc : ∃ cell : Cell, H[gk (kG K) q]? = some cell ∧ cell.vm.isStatics = false ∧ (ks K).vm.findClass y.cls = some cell.cls := by
        rw [hc]; exact vk_recv C.hX.2.2.1 hq hS
      have hp := z_pre (sh1 := sh) (av := .ref (gk (kG K) q) :: As) C hP hS
      exact z_go C hS hl (va_runV (As := As) (rest := st) C.1 (hM r σ1 hx H.size) ⟨z_callB C hy hw hn, C.hts _ hv.1, C.hts _ hv.2⟩ ⟨hp.1, hrc, hp.2⟩ rfl hlen hl.1 rfl (lv_room hr) d ⟨Nat.le_refl _, Nat.le_refl _⟩) (k r σ1 hX)
  · rw [hX1 hq] at hX; cases hX

theorem ztoi {x v : Int32} {z : Int} (h : ¬ x = v) (hz : v.toInt = z) : x.toInt ≠ z := fun e => h (Int32.toInt_inj.mp (e.trans hz.symm))
theorem z_tabD {x : Int32} {dflt lo hi : Int} {offs : Array Int} {len tgt : Nat} (C : zOk sh K own cc ret mL n) (Ls : List Int) (hx : ∀ v ∈ Ls, x.toInt ≠ v) (d : decode cc pc = .ok (.tableswitch dflt lo hi offs, len)) (hc : (List.range (hi - lo + 1).toNat).all (fun i => decide (offs[i]? = some dflt) || decide ((lo + (i : Int)) ∈ Ls)) = true) (ht : (pc : Int) + dflt = (tgt : Int)) (k : Zf sh K X tgt lv st σ) : Zf sh K X pc lv (.int x :: st) σ := by
  by_cases h1 : x.toInt < lo
  · exact z_tabOut C d (Or.inl h1) ht k
  by_cases h2 : hi < x.toInt
  · exact z_tabOut C d (Or.inr h2) ht k
  have h3 := List.all_eq_true.mp hc (x.toInt - lo).toNat (List.mem_range.mpr (by omega))
  have h4 : (lo + ((x.toInt - lo).toNat : Int)) = x.toInt := by omega
  rw [h4] at h3
  simp only [Bool.or_eq_true, decide_eq_true_eq] at h3
  rcases h3 with h3 | h3
  · exact fun hX H locs ls hP hS hl => lv_tableIn C.hx C.hb d h1 h2 h3 ht (k hX H locs ls hP hS hl)
  · exact absurd rfl (hx _ h3)
theorem z_callVi {i q mL1 n1 np : Nat} {y : MethodName} {b : ByteArray} {As : List Value} {st0 : List Value} {X1 : Option (Int32 × zS)} {F : Int32 → zS → Option (Int32 × zS)} (C : zOk sh K own cc ret mL n) (hy : zY y b mL1 (some .int) np) (hv : zYv y) (hw : Cond.methodLink own i y ∈ zT) (hq : zRc sh q y.cls) (hn : n1 < n) (hM : ∀ (r : Int32) (σ1 : zS), X1 = some (r, σ1) → zM (kl K) (kG K) sh y b mL1 (some .int) n1 (.ref (ga (kG K) q) :: As) (zov (some .int) (kG K) r) σ σ1) (hlen : As.length = np) (hst : st0 = As.reverse ++ .ref (ga (kG K) q) :: st) (hr : (st.map fun v => v.category).sum ≤ 8) (d : decode cc pc = .ok (.invokevirtual i, 3)) (k : ∀ (r : Int32) (σ1 : zS), Zf sh K (F r σ1) (pc + 3) lv (.int r :: st) σ1) : Zf sh K (zbd X1 F) pc lv st0 σ := z_callV C hy hv hw hq hn hM hlen hst hr d k
theorem z_callVz {i q mL1 n1 np : Nat} {y : MethodName} {b : ByteArray} {As : List Value} {st0 : List Value} {X1 : Option (Int32 × zS)} {F : Int32 → zS → Option (Int32 × zS)} (C : zOk sh K own cc ret mL n) (hy : zY y b mL1 (some .boolean) np) (hv : zYv y) (hw : Cond.methodLink own i y ∈ zT) (hq : zRc sh q y.cls) (hn : n1 < n) (hM : ∀ (r : Int32) (σ1 : zS), X1 = some (r, σ1) → zM (kl K) (kG K) sh y b mL1 (some .boolean) n1 (.ref (ga (kG K) q) :: As) (zov (some .boolean) (kG K) r) σ σ1) (hlen : As.length = np) (hst : st0 = As.reverse ++ .ref (ga (kG K) q) :: st) (hr : (st.map fun v => v.category).sum ≤ 8) (d : decode cc pc = .ok (.invokevirtual i, 3)) (k : ∀ (r : Int32) (σ1 : zS), Zf sh K (F r σ1) (pc + 3) lv (.int r :: st) σ1) : Zf sh K (zbd X1 F) pc lv st0 σ := z_callV C hy hv hw hq hn hM hlen hst hr d k
theorem z_callVc {i q mL1 n1 np : Nat} {y : MethodName} {b : ByteArray} {As : List Value} {st0 : List Value} {X1 : Option (Int32 × zS)} {F : Int32 → zS → Option (Int32 × zS)} (C : zOk sh K own cc ret mL n) (hy : zY y b mL1 (some .char) np) (hv : zYv y) (hw : Cond.methodLink own i y ∈ zT) (hq : zRc sh q y.cls) (hn : n1 < n) (hM : ∀ (r : Int32) (σ1 : zS), X1 = some (r, σ1) → zM (kl K) (kG K) sh y b mL1 (some .char) n1 (.ref (ga (kG K) q) :: As) (zov (some .char) (kG K) r) σ σ1) (hlen : As.length = np) (hst : st0 = As.reverse ++ .ref (ga (kG K) q) :: st) (hr : (st.map fun v => v.category).sum ≤ 8) (d : decode cc pc = .ok (.invokevirtual i, 3)) (k : ∀ (r : Int32) (σ1 : zS), Zf sh K (F r σ1) (pc + 3) lv (.int r :: st) σ1) : Zf sh K (zbd X1 F) pc lv st0 σ := z_callV C hy hv hw hq hn hM hlen hst hr d k
theorem z_callVv {i q mL1 n1 np : Nat} {y : MethodName} {b : ByteArray} {As : List Value} {st0 : List Value} {X1 : Option (Int32 × zS)} {F : Int32 → zS → Option (Int32 × zS)} (C : zOk sh K own cc ret mL n) (hy : zY y b mL1 none np) (hv : zYv y) (hw : Cond.methodLink own i y ∈ zT) (hq : zRc sh q y.cls) (hn : n1 < n) (hM : ∀ (r : Int32) (σ1 : zS), X1 = some (r, σ1) → zM (kl K) (kG K) sh y b mL1 none n1 (.ref (ga (kG K) q) :: As) (zov none (kG K) r) σ σ1) (hlen : As.length = np) (hst : st0 = As.reverse ++ .ref (ga (kG K) q) :: st) (hr : (st.map fun v => v.category).sum ≤ 8) (d : decode cc pc = .ok (.invokevirtual i, 3)) (k : ∀ (r : Int32) (σ1 : zS), Zf sh K (F r σ1) (pc + 3) lv (st) σ1) : Zf sh K (zbd X1 F) pc lv st0 σ := z_callV C hy hv hw hq hn hM hlen hst hr d k
theorem z_callVa {i q mL1 n1 np : Nat} {y : MethodName} {tx : String} {b : ByteArray} {As : List Value} {st0 : List Value} {X1 : Option (Int32 × zS)} {F : Int32 → zS → Option (Int32 × zS)} (C : zOk sh K own cc ret mL n) (hy : zY y b mL1 (some (.object tx)) np) (hv : zYv y) (hw : Cond.methodLink own i y ∈ zT) (hq : zRc sh q y.cls) (hn : n1 < n) (hM : ∀ (r : Int32) (σ1 : zS), X1 = some (r, σ1) → zM (kl K) (kG K) sh y b mL1 (some (.object tx)) n1 (.ref (ga (kG K) q) :: As) (zov (some (.object tx)) (kG K) r) σ σ1) (hlen : As.length = np) (hst : st0 = As.reverse ++ .ref (ga (kG K) q) :: st) (hr : (st.map fun v => v.category).sum ≤ 8) (d : decode cc pc = .ok (.invokevirtual i, 3)) (k : ∀ (r : Int32) (σ1 : zS), Zf sh K (F r σ1) (pc + 3) lv (.ref (gk (kG K) r.toNatClampNeg) :: st) σ1) : Zf sh K (zbd X1 F) pc lv st0 σ := z_callV C hy hv hw hq hn hM hlen hst hr d k
theorem z_callSi {i mL1 n1 np : Nat} {y : MethodName} {b : ByteArray} {As : List Value} {st0 : List Value} {X1 : Option (Int32 × zS)} {F : Int32 → zS → Option (Int32 × zS)} (C : zOk sh K own cc ret mL n) (hy : zY y b mL1 (some .int) np) (hv : Cond.static y ∈ zT) (hw : Cond.methodLink own i y ∈ zT) (hn : n1 < n) (hM : ∀ (r : Int32) (σ1 : zS), X1 = some (r, σ1) → zM (kl K) (kG K) sh y b mL1 (some .int) n1 (As) (zov (some .int) (kG K) r) σ σ1) (hlen : As.length = np) (hst : st0 = As.reverse ++ st) (hr : (st.map fun v => v.category).sum ≤ 8) (d : decode cc pc = .ok (.invokestatic i, 3)) (k : ∀ (r : Int32) (σ1 : zS), Zf sh K (F r σ1) (pc + 3) lv (.int r :: st) σ1) : Zf sh K (zbd X1 F) pc lv st0 σ := z_callS C hy hv hw hn hM hlen hst hr d k
theorem z_callSz {i mL1 n1 np : Nat} {y : MethodName} {b : ByteArray} {As : List Value} {st0 : List Value} {X1 : Option (Int32 × zS)} {F : Int32 → zS → Option (Int32 × zS)} (C : zOk sh K own cc ret mL n) (hy : zY y b mL1 (some .boolean) np) (hv : Cond.static y ∈ zT) (hw : Cond.methodLink own i y ∈ zT) (hn : n1 < n) (hM : ∀ (r : Int32) (σ1 : zS), X1 = some (r, σ1) → zM (kl K) (kG K) sh y b mL1 (some .boolean) n1 (As) (zov (some .boolean) (kG K) r) σ σ1) (hlen : As.length = np) (hst : st0 = As.reverse ++ st) (hr : (st.map fun v => v.category).sum ≤ 8) (d : decode cc pc = .ok (.invokestatic i, 3)) (k : ∀ (r : Int32) (σ1 : zS), Zf sh K (F r σ1) (pc + 3) lv (.int r :: st) σ1) : Zf sh K (zbd X1 F) pc lv st0 σ := z_callS C hy hv hw hn hM hlen hst hr d k
theorem z_callSc {i mL1 n1 np : Nat} {y : MethodName} {b : ByteArray} {As : List Value} {st0 : List Value} {X1 : Option (Int32 × zS)} {F : Int32 → zS → Option (Int32 × zS)} (C : zOk sh K own cc ret mL n) (hy : zY y b mL1 (some .char) np) (hv : Cond.static y ∈ zT) (hw : Cond.methodLink own i y ∈ zT) (hn : n1 < n) (hM : ∀ (r : Int32) (σ1 : zS), X1 = some (r, σ1) → zM (kl K) (kG K) sh y b mL1 (some .char) n1 (As) (zov (some .char) (kG K) r) σ σ1) (hlen : As.length = np) (hst : st0 = As.reverse ++ st) (hr : (st.map fun v => v.category).sum ≤ 8) (d : decode cc pc = .ok (.invokestatic i, 3)) (k : ∀ (r : Int32) (σ1 : zS), Zf sh K (F r σ1) (pc + 3) lv (.int r :: st) σ1) : Zf sh K (zbd X1 F) pc lv st0 σ := z_callS C hy hv hw hn hM hlen hst hr d k
theorem z_callSv {i mL1 n1 np : Nat} {y : MethodName} {b : ByteArray} {As : List Value} {st0 : List Value} {X1 : Option (Int32 × zS)} {F : Int32 → zS → Option (Int32 × zS)} (C : zOk sh K own cc ret mL n) (hy : zY y b mL1 none np) (hv : Cond.static y ∈ zT) (hw : Cond.methodLink own i y ∈ zT) (hn : n1 < n) (hM : ∀ (r : Int32) (σ1 : zS), X1 = some (r, σ1) → zM (kl K) (kG K) sh y b mL1 none n1 (As) (zov none (kG K) r) σ σ1) (hlen : As.length = np) (hst : st0 = As.reverse ++ st) (hr : (st.map fun v => v.category).sum ≤ 8) (d : decode cc pc = .ok (.invokestatic i, 3)) (k : ∀ (r : Int32) (σ1 : zS), Zf sh K (F r σ1) (pc + 3) lv (st) σ1) : Zf sh K (zbd X1 F) pc lv st0 σ := z_callS C hy hv hw hn hM hlen hst hr d k
theorem z_callSa {i mL1 n1 np : Nat} {y : MethodName} {tx : String} {b : ByteArray} {As : List Value} {st0 : List Value} {X1 : Option (Int32 × zS)} {F : Int32 → zS → Option (Int32 × zS)} (C : zOk sh K own cc ret mL n) (hy : zY y b mL1 (some (.object tx)) np) (hv : Cond.static y ∈ zT) (hw : Cond.methodLink own i y ∈ zT) (hn : n1 < n) (hM : ∀ (r : Int32) (σ1 : zS), X1 = some (r, σ1) → zM (kl K) (kG K) sh y b mL1 (some (.object tx)) n1 (As) (zov (some (.object tx)) (kG K) r) σ σ1) (hlen : As.length = np) (hst : st0 = As.reverse ++ st) (hr : (st.map fun v => v.category).sum ≤ 8) (d : decode cc pc = .ok (.invokestatic i, 3)) (k : ∀ (r : Int32) (σ1 : zS), Zf sh K (F r σ1) (pc + 3) lv (.ref (gk (kG K) r.toNatClampNeg) :: st) σ1) : Zf sh K (zbd X1 F) pc lv st0 σ := z_callS C hy hv hw hn hM hlen hst hr d k
theorem z_callNi {i mL1 n1 np : Nat} {y : MethodName} {host : String} {b : ByteArray} {As : List Value} {st0 : List Value} {X1 : Option (Int32 × zS)} {F : Int32 → zS → Option (Int32 × zS)} (C : zOk sh K own cc ret mL n) (hy : zY y b mL1 (some .int) np) (hv : Cond.static y ∈ zT) (hw : (own, i, y, host) ∈ zNests) (hn : n1 < n) (hM : ∀ (r : Int32) (σ1 : zS), X1 = some (r, σ1) → zM (kl K) (kG K) sh y b mL1 (some .int) n1 (As) (zov (some .int) (kG K) r) σ σ1) (hlen : As.length = np) (hst : st0 = As.reverse ++ st) (hr : (st.map fun v => v.category).sum ≤ 8) (d : decode cc pc = .ok (.invokestatic i, 3)) (k : ∀ (r : Int32) (σ1 : zS), Zf sh K (F r σ1) (pc + 3) lv (.int r :: st) σ1) : Zf sh K (zbd X1 F) pc lv st0 σ := z_callN C hy hv hw hn hM hlen hst hr d k
theorem z_callNz {i mL1 n1 np : Nat} {y : MethodName} {host : String} {b : ByteArray} {As : List Value} {st0 : List Value} {X1 : Option (Int32 × zS)} {F : Int32 → zS → Option (Int32 × zS)} (C : zOk sh K own cc ret mL n) (hy : zY y b mL1 (some .boolean) np) (hv : Cond.static y ∈ zT) (hw : (own, i, y, host) ∈ zNests) (hn : n1 < n) (hM : ∀ (r : Int32) (σ1 : zS), X1 = some (r, σ1) → zM (kl K) (kG K) sh y b mL1 (some .boolean) n1 (As) (zov (some .boolean) (kG K) r) σ σ1) (hlen : As.length = np) (hst : st0 = As.reverse ++ st) (hr : (st.map fun v => v.category).sum ≤ 8) (d : decode cc pc = .ok (.invokestatic i, 3)) (k : ∀ (r : Int32) (σ1 : zS), Zf sh K (F r σ1) (pc + 3) lv (.int r :: st) σ1) : Zf sh K (zbd X1 F) pc lv st0 σ := z_callN C hy hv hw hn hM hlen hst hr d k
theorem z_callNc {i mL1 n1 np : Nat} {y : MethodName} {host : String} {b : ByteArray} {As : List Value} {st0 : List Value} {X1 : Option (Int32 × zS)} {F : Int32 → zS → Option (Int32 × zS)} (C : zOk sh K own cc ret mL n) (hy : zY y b mL1 (some .char) np) (hv : Cond.static y ∈ zT) (hw : (own, i, y, host) ∈ zNests) (hn : n1 < n) (hM : ∀ (r : Int32) (σ1 : zS), X1 = some (r, σ1) → zM (kl K) (kG K) sh y b mL1 (some .char) n1 (As) (zov (some .char) (kG K) r) σ σ1) (hlen : As.length = np) (hst : st0 = As.reverse ++ st) (hr : (st.map fun v => v.category).sum ≤ 8) (d : decode cc pc = .ok (.invokestatic i, 3)) (k : ∀ (r : Int32) (σ1 : zS), Zf sh K (F r σ1) (pc + 3) lv (.int r :: st) σ1) : Zf sh K (zbd X1 F) pc lv st0 σ := z_callN C hy hv hw hn hM hlen hst hr d k
theorem z_callNv {i mL1 n1 np : Nat} {y : MethodName} {host : String} {b : ByteArray} {As : List Value} {st0 : List Value} {X1 : Option (Int32 × zS)} {F : Int32 → zS → Option (Int32 × zS)} (C : zOk sh K own cc ret mL n) (hy : zY y b mL1 none np) (hv : Cond.static y ∈ zT) (hw : (own, i, y, host) ∈ zNests) (hn : n1 < n) (hM : ∀ (r : Int32) (σ1 : zS), X1 = some (r, σ1) → zM (kl K) (kG K) sh y b mL1 none n1 (As) (zov none (kG K) r) σ σ1) (hlen : As.length = np) (hst : st0 = As.reverse ++ st) (hr : (st.map fun v => v.category).sum ≤ 8) (d : decode cc pc = .ok (.invokestatic i, 3)) (k : ∀ (r : Int32) (σ1 : zS), Zf sh K (F r σ1) (pc + 3) lv (st) σ1) : Zf sh K (zbd X1 F) pc lv st0 σ := z_callN C hy hv hw hn hM hlen hst hr d k
theorem z_callNa {i mL1 n1 np : Nat} {y : MethodName} {host : String} {tx : String} {b : ByteArray} {As : List Value} {st0 : List Value} {X1 : Option (Int32 × zS)} {F : Int32 → zS → Option (Int32 × zS)} (C : zOk sh K own cc ret mL n) (hy : zY y b mL1 (some (.object tx)) np) (hv : Cond.static y ∈ zT) (hw : (own, i, y, host) ∈ zNests) (hn : n1 < n) (hM : ∀ (r : Int32) (σ1 : zS), X1 = some (r, σ1) → zM (kl K) (kG K) sh y b mL1 (some (.object tx)) n1 (As) (zov (some (.object tx)) (kG K) r) σ σ1) (hlen : As.length = np) (hst : st0 = As.reverse ++ st) (hr : (st.map fun v => v.category).sum ≤ 8) (d : decode cc pc = .ok (.invokestatic i, 3)) (k : ∀ (r : Int32) (σ1 : zS), Zf sh K (F r σ1) (pc + 3) lv (.ref (gk (kG K) r.toNatClampNeg) :: st) σ1) : Zf sh K (zbd X1 F) pc lv st0 σ := z_callN C hy hv hw hn hM hlen hst hr d k
theorem z_callTi {i q mL1 n1 np : Nat} {y : MethodName} {b : ByteArray} {As : List Value} {st0 : List Value} {X1 : Option (Int32 × zS)} {F : Int32 → zS → Option (Int32 × zS)} (C : zOk sh K own cc ret mL n) (hy : zY y b mL1 (some .int) np) (hv : zYv y) (hw : Cond.methodLink own i y ∈ zT) (hc : y.cls = "java/lang/String") (hX1 : ¬ q < 10 → X1 = none) (hn : n1 < n) (hM : ∀ (r : Int32) (σ1 : zS), X1 = some (r, σ1) → zM (kl K) (kG K) sh y b mL1 (some .int) n1 (.ref (gk (kG K) q) :: As) (zov (some .int) (kG K) r) σ σ1) (hlen : As.length = np) (hst : st0 = As.reverse ++ .ref (gk (kG K) q) :: st) (hr : (st.map fun v => v.category).sum ≤ 8) (d : decode cc pc = .ok (.invokevirtual i, 3)) (k : ∀ (r : Int32) (σ1 : zS), Zf sh K (F r σ1) (pc + 3) lv (.int r :: st) σ1) : Zf sh K (zbd X1 F) pc lv st0 σ := z_callT C hy hv hw hc hX1 hn hM hlen hst hr d k
theorem z_callTz {i q mL1 n1 np : Nat} {y : MethodName} {b : ByteArray} {As : List Value} {st0 : List Value} {X1 : Option (Int32 × zS)} {F : Int32 → zS → Option (Int32 × zS)} (C : zOk sh K own cc ret mL n) (hy : zY y b mL1 (some .boolean) np) (hv : zYv y) (hw : Cond.methodLink own i y ∈ zT) (hc : y.cls = "java/lang/String") (hX1 : ¬ q < 10 → X1 = none) (hn : n1 < n) (hM : ∀ (r : Int32) (σ1 : zS), X1 = some (r, σ1) → zM (kl K) (kG K) sh y b mL1 (some .boolean) n1 (.ref (gk (kG K) q) :: As) (zov (some .boolean) (kG K) r) σ σ1) (hlen : As.length = np) (hst : st0 = As.reverse ++ .ref (gk (kG K) q) :: st) (hr : (st.map fun v => v.category).sum ≤ 8) (d : decode cc pc = .ok (.invokevirtual i, 3)) (k : ∀ (r : Int32) (σ1 : zS), Zf sh K (F r σ1) (pc + 3) lv (.int r :: st) σ1) : Zf sh K (zbd X1 F) pc lv st0 σ := z_callT C hy hv hw hc hX1 hn hM hlen hst hr d k
theorem z_callTc {i q mL1 n1 np : Nat} {y : MethodName} {b : ByteArray} {As : List Value} {st0 : List Value} {X1 : Option (Int32 × zS)} {F : Int32 → zS → Option (Int32 × zS)} (C : zOk sh K own cc ret mL n) (hy : zY y b mL1 (some .char) np) (hv : zYv y) (hw : Cond.methodLink own i y ∈ zT) (hc : y.cls = "java/lang/String") (hX1 : ¬ q < 10 → X1 = none) (hn : n1 < n) (hM : ∀ (r : Int32) (σ1 : zS), X1 = some (r, σ1) → zM (kl K) (kG K) sh y b mL1 (some .char) n1 (.ref (gk (kG K) q) :: As) (zov (some .char) (kG K) r) σ σ1) (hlen : As.length = np) (hst : st0 = As.reverse ++ .ref (gk (kG K) q) :: st) (hr : (st.map fun v => v.category).sum ≤ 8) (d : decode cc pc = .ok (.invokevirtual i, 3)) (k : ∀ (r : Int32) (σ1 : zS), Zf sh K (F r σ1) (pc + 3) lv (.int r :: st) σ1) : Zf sh K (zbd X1 F) pc lv st0 σ := z_callT C hy hv hw hc hX1 hn hM hlen hst hr d k
theorem z_callTv {i q mL1 n1 np : Nat} {y : MethodName} {b : ByteArray} {As : List Value} {st0 : List Value} {X1 : Option (Int32 × zS)} {F : Int32 → zS → Option (Int32 × zS)} (C : zOk sh K own cc ret mL n) (hy : zY y b mL1 none np) (hv : zYv y) (hw : Cond.methodLink own i y ∈ zT) (hc : y.cls = "java/lang/String") (hX1 : ¬ q < 10 → X1 = none) (hn : n1 < n) (hM : ∀ (r : Int32) (σ1 : zS), X1 = some (r, σ1) → zM (kl K) (kG K) sh y b mL1 none n1 (.ref (gk (kG K) q) :: As) (zov none (kG K) r) σ σ1) (hlen : As.length = np) (hst : st0 = As.reverse ++ .ref (gk (kG K) q) :: st) (hr : (st.map fun v => v.category).sum ≤ 8) (d : decode cc pc = .ok (.invokevirtual i, 3)) (k : ∀ (r : Int32) (σ1 : zS), Zf sh K (F r σ1) (pc + 3) lv (st) σ1) : Zf sh K (zbd X1 F) pc lv st0 σ := z_callT C hy hv hw hc hX1 hn hM hlen hst hr d k
theorem z_callTa {i q mL1 n1 np : Nat} {y : MethodName} {tx : String} {b : ByteArray} {As : List Value} {st0 : List Value} {X1 : Option (Int32 × zS)} {F : Int32 → zS → Option (Int32 × zS)} (C : zOk sh K own cc ret mL n) (hy : zY y b mL1 (some (.object tx)) np) (hv : zYv y) (hw : Cond.methodLink own i y ∈ zT) (hc : y.cls = "java/lang/String") (hX1 : ¬ q < 10 → X1 = none) (hn : n1 < n) (hM : ∀ (r : Int32) (σ1 : zS), X1 = some (r, σ1) → zM (kl K) (kG K) sh y b mL1 (some (.object tx)) n1 (.ref (gk (kG K) q) :: As) (zov (some (.object tx)) (kG K) r) σ σ1) (hlen : As.length = np) (hst : st0 = As.reverse ++ .ref (gk (kG K) q) :: st) (hr : (st.map fun v => v.category).sum ≤ 8) (d : decode cc pc = .ok (.invokevirtual i, 3)) (k : ∀ (r : Int32) (σ1 : zS), Zf sh K (F r σ1) (pc + 3) lv (.ref (gk (kG K) r.toNatClampNeg) :: st) σ1) : Zf sh K (zbd X1 F) pc lv st0 σ := z_callT C hy hv hw hc hX1 hn hM hlen hst hr d k
end ZRULES
end
section
def zshA : List zC := [.inl (9, [.inr 1, .inr 4, .inr 17, .inr 27, .inr 28, .inr 32, .inr 36, .inr 38, .inr 43]), .inl (7, [.inr 2, .inl false, .inr 3, .inl false, .inl false, .inl false]), .inr (false, 200), .inr (false, 64), .inl (3, [.inr 5, .inr 6, .inr 7, .inr 8, .inr 9, .inr 10, .inr 11, .inr 12, .inr 13, .inr 14, .inr 15, .inr 16, .inl false, .inl false]), .inr (false, 10), .inr (false, 10), .inr (false, 10), .inr (true, 9), .inr (false, 9), .inr (false, 9), .inr (false, 27), .inr (false, 9), .inr (false, 100), .inr (false, 100), .inr (false, 10), .inr (false, 10), .inl (0, [.inl false, .inr 18, .inr 19, .inr 20, .inr 21, .inr 22, .inr 23, .inr 24, .inr 25, .inr 26]), .inr (false, 12), .inr (false, 36), .inr (false, 12), .inr (false, 12), .inr (false, 12), .inr (false, 12), .inr (false, 12), .inr (false, 12), .inr (false, 12), .inl (2, [.inr 4, .inr 17]), .inl (8, [.inr 4, .inr 17, .inr 27, .inr 29, .inr 30, .inr 31]), .inr (false, 72), .inr (false, 72), .inr (false, 12), .inl (5, [.inr 17, .inr 28, .inr 33, .inr 34, .inr 35, .inl false]), .inr (false, 12), .inr (false, 12), .inr (false, 12), .inl (4, [.inr 4, .inr 17, .inr 28, .inr 37]), .inr (false, 10), .inl (6, [.inr 4, .inr 36, .inr 39, .inr 40, .inr 41, .inr 42, .inl false]), .inr (false, 90), .inr (false, 90), .inr (false, 10), .inr (false, 10), .inl (1, [.inr 17])]
theorem rcA_0 : zRc zshA 0 RX9 := ⟨9, _, _, rfl, rfl, rfl⟩
theorem rcA_1 : zRc zshA 1 RX7 := ⟨7, _, _, rfl, rfl, rfl⟩
theorem sA_2 : zshA[2]? = some (.inr (false, 200)) := rfl
theorem sA_3 : zshA[3]? = some (.inr (false, 64)) := rfl
theorem rcA_4 : zRc zshA 4 RX3 := ⟨3, _, _, rfl, rfl, rfl⟩
theorem sA_5 : zshA[5]? = some (.inr (false, 10)) := rfl
theorem sA_6 : zshA[6]? = some (.inr (false, 10)) := rfl
theorem sA_7 : zshA[7]? = some (.inr (false, 10)) := rfl
theorem sA_8 : zshA[8]? = some (.inr (true, 9)) := rfl
theorem sA_9 : zshA[9]? = some (.inr (false, 9)) := rfl
theorem sA_10 : zshA[10]? = some (.inr (false, 9)) := rfl
theorem sA_11 : zshA[11]? = some (.inr (false, 27)) := rfl
theorem sA_12 : zshA[12]? = some (.inr (false, 9)) := rfl
theorem sA_13 : zshA[13]? = some (.inr (false, 100)) := rfl
theorem sA_14 : zshA[14]? = some (.inr (false, 100)) := rfl
theorem sA_15 : zshA[15]? = some (.inr (false, 10)) := rfl
theorem sA_16 : zshA[16]? = some (.inr (false, 10)) := rfl
theorem rcA_17 : zRc zshA 17 RX0 := ⟨0, _, _, rfl, rfl, rfl⟩
theorem sA_18 : zshA[18]? = some (.inr (false, 12)) := rfl
theorem sA_19 : zshA[19]? = some (.inr (false, 36)) := rfl
theorem sA_20 : zshA[20]? = some (.inr (false, 12)) := rfl
theorem sA_21 : zshA[21]? = some (.inr (false, 12)) := rfl
theorem sA_22 : zshA[22]? = some (.inr (false, 12)) := rfl
theorem sA_23 : zshA[23]? = some (.inr (false, 12)) := rfl
theorem sA_24 : zshA[24]? = some (.inr (false, 12)) := rfl
theorem sA_25 : zshA[25]? = some (.inr (false, 12)) := rfl
theorem sA_26 : zshA[26]? = some (.inr (false, 12)) := rfl
theorem rcA_27 : zRc zshA 27 RX2 := ⟨2, _, _, rfl, rfl, rfl⟩
theorem rcA_28 : zRc zshA 28 RX8 := ⟨8, _, _, rfl, rfl, rfl⟩
theorem sA_29 : zshA[29]? = some (.inr (false, 72)) := rfl
theorem sA_30 : zshA[30]? = some (.inr (false, 72)) := rfl
theorem sA_31 : zshA[31]? = some (.inr (false, 12)) := rfl
theorem rcA_32 : zRc zshA 32 RX5 := ⟨5, _, _, rfl, rfl, rfl⟩
theorem sA_33 : zshA[33]? = some (.inr (false, 12)) := rfl
theorem sA_34 : zshA[34]? = some (.inr (false, 12)) := rfl
theorem sA_35 : zshA[35]? = some (.inr (false, 12)) := rfl
theorem rcA_36 : zRc zshA 36 RX4 := ⟨4, _, _, rfl, rfl, rfl⟩
theorem sA_37 : zshA[37]? = some (.inr (false, 10)) := rfl
theorem rcA_38 : zRc zshA 38 RX6 := ⟨6, _, _, rfl, rfl, rfl⟩
theorem sA_39 : zshA[39]? = some (.inr (false, 90)) := rfl
theorem sA_40 : zshA[40]? = some (.inr (false, 90)) := rfl
theorem sA_41 : zshA[41]? = some (.inr (false, 10)) := rfl
theorem sA_42 : zshA[42]? = some (.inr (false, 10)) := rfl
theorem rcA_43 : zRc zshA 43 RX1 := ⟨1, _, _, rfl, rfl, rfl⟩
theorem lgA (q : Nat) : ∀ (sl : List (Bool ⊕ Nat)) (ci : Nat), zshA[q]? = some (.inl (ci, sl)) → sl.length ≤ 1000 := by
  intro sl ci h
  have h1 := List.all_eq_true.mp (show zshA.all (fun c => match c with | .inl o => decide (o.2.length ≤ 1000) | .inr _ => true) = true by decide +kernel) _ (List.mem_of_getElem? h)
  simpa using h1
def zshB : List zC := [.inl (10, [.inr 1, .inr 2, .inr 3, .inl false, .inl false, .inl false, .inl false, .inr 4, .inl false, .inl false, .inl true, .inl false, .inl false, .inl false, .inl false, .inr 5, .inl false, .inr 6, .inr 7, .inr 8, .inr 9, .inr 10, .inr 11, .inr 12, .inr 13, .inr 14, .inr 15, .inr 16, .inr 17, .inr 18]), .inr (false, 30), .inr (false, 200), .inr (false, 54), .inr (false, 200), .inr (false, 64), .inr (false, 132), .inr (false, 12), .inr (false, 12), .inr (false, 12), .inr (false, 12), .inr (false, 12), .inr (false, 12), .inr (false, 12), .inr (false, 12), .inr (false, 10), .inr (false, 10), .inr (false, 90), .inr (false, 90)]
theorem rcB_0 : zRc zshB 0 RX10 := ⟨10, _, _, rfl, rfl, rfl⟩
theorem sB_1 : zshB[1]? = some (.inr (false, 30)) := rfl
theorem sB_2 : zshB[2]? = some (.inr (false, 200)) := rfl
theorem sB_3 : zshB[3]? = some (.inr (false, 54)) := rfl
theorem sB_4 : zshB[4]? = some (.inr (false, 200)) := rfl
theorem sB_5 : zshB[5]? = some (.inr (false, 64)) := rfl
theorem sB_6 : zshB[6]? = some (.inr (false, 132)) := rfl
theorem sB_7 : zshB[7]? = some (.inr (false, 12)) := rfl
theorem sB_8 : zshB[8]? = some (.inr (false, 12)) := rfl
theorem sB_9 : zshB[9]? = some (.inr (false, 12)) := rfl
theorem sB_10 : zshB[10]? = some (.inr (false, 12)) := rfl
theorem sB_11 : zshB[11]? = some (.inr (false, 12)) := rfl
theorem sB_12 : zshB[12]? = some (.inr (false, 12)) := rfl
theorem sB_13 : zshB[13]? = some (.inr (false, 12)) := rfl
theorem sB_14 : zshB[14]? = some (.inr (false, 12)) := rfl
theorem sB_15 : zshB[15]? = some (.inr (false, 10)) := rfl
theorem sB_16 : zshB[16]? = some (.inr (false, 10)) := rfl
theorem sB_17 : zshB[17]? = some (.inr (false, 90)) := rfl
theorem sB_18 : zshB[18]? = some (.inr (false, 90)) := rfl
theorem lgB (q : Nat) : ∀ (sl : List (Bool ⊕ Nat)) (ci : Nat), zshB[q]? = some (.inl (ci, sl)) → sl.length ≤ 1000 := by
  intro sl ci h
  have h1 := List.all_eq_true.mp (show zshB.all (fun c => match c with | .inl o => decide (o.2.length ≤ 1000) | .inr _ => true) = true by decide +kernel) _ (List.mem_of_getElem? h)
  simpa using h1
theorem fd_X9_12 : zFd zshA RX9 12 0 0 (.inr 1) := ⟨9, _, _, rfl, rfl, rfl, by decide, zT_in (i := 370) (by decide +kernel) rfl⟩
theorem fd_X9_19 : zFd zshA RX9 19 0 1 (.inr 4) := ⟨9, _, _, rfl, rfl, rfl, by decide, zT_in (i := 371) (by decide +kernel) rfl⟩
theorem fd_X9_26 : zFd zshA RX9 26 0 2 (.inr 17) := ⟨9, _, _, rfl, rfl, rfl, by decide, zT_in (i := 372) (by decide +kernel) rfl⟩
theorem fd_X9_35 : zFd zshA RX9 35 0 3 (.inr 27) := ⟨9, _, _, rfl, rfl, rfl, by decide, zT_in (i := 373) (by decide +kernel) rfl⟩
theorem fd_X9_44 : zFd zshA RX9 44 0 4 (.inr 28) := ⟨9, _, _, rfl, rfl, rfl, by decide, zT_in (i := 374) (by decide +kernel) rfl⟩
theorem fd_X9_53 : zFd zshA RX9 53 0 5 (.inr 32) := ⟨9, _, _, rfl, rfl, rfl, by decide, zT_in (i := 375) (by decide +kernel) rfl⟩
theorem fd_X9_62 : zFd zshA RX9 62 0 6 (.inr 36) := ⟨9, _, _, rfl, rfl, rfl, by decide, zT_in (i := 376) (by decide +kernel) rfl⟩
theorem fd_X9_71 : zFd zshA RX9 71 0 7 (.inr 38) := ⟨9, _, _, rfl, rfl, rfl, by decide, zT_in (i := 377) (by decide +kernel) rfl⟩
theorem fd_X9_80 : zFd zshA RX9 80 0 8 (.inr 43) := ⟨9, _, _, rfl, rfl, rfl, by decide, zT_in (i := 378) (by decide +kernel) rfl⟩
theorem fd_X9_103 : zFd zshA RX9 103 1 3 (.inl false) := ⟨7, _, _, rfl, rfl, rfl, by decide, zT_in (i := 91) (by decide +kernel) rfl⟩
theorem fd_X9_107 : zFd zshA RX9 107 1 2 (.inr 3) := ⟨7, _, _, rfl, rfl, rfl, by decide, zT_in (i := 89) (by decide +kernel) rfl⟩
theorem fd_X9_118 : zFd zshA RX9 118 4 0 (.inr 5) := ⟨3, _, _, rfl, rfl, rfl, by decide, zT_in (i := 116) (by decide +kernel) rfl⟩
theorem fd_X9_121 : zFd zshA RX9 121 4 1 (.inr 6) := ⟨3, _, _, rfl, rfl, rfl, by decide, zT_in (i := 120) (by decide +kernel) rfl⟩
theorem fd_X9_124 : zFd zshA RX9 124 4 2 (.inr 7) := ⟨3, _, _, rfl, rfl, rfl, by decide, zT_in (i := 123) (by decide +kernel) rfl⟩
theorem fd_X9_130 : zFd zshA RX9 130 4 4 (.inr 9) := ⟨3, _, _, rfl, rfl, rfl, by decide, zT_in (i := 128) (by decide +kernel) rfl⟩
theorem fd_X9_133 : zFd zshA RX9 133 4 5 (.inr 10) := ⟨3, _, _, rfl, rfl, rfl, by decide, zT_in (i := 132) (by decide +kernel) rfl⟩
theorem fd_X9_136 : zFd zshA RX9 136 4 6 (.inr 11) := ⟨3, _, _, rfl, rfl, rfl, by decide, zT_in (i := 136) (by decide +kernel) rfl⟩
theorem fd_X9_139 : zFd zshA RX9 139 4 7 (.inr 12) := ⟨3, _, _, rfl, rfl, rfl, by decide, zT_in (i := 139) (by decide +kernel) rfl⟩
theorem fd_X9_142 : zFd zshA RX9 142 4 8 (.inr 13) := ⟨3, _, _, rfl, rfl, rfl, by decide, zT_in (i := 141) (by decide +kernel) rfl⟩
theorem fd_X9_145 : zFd zshA RX9 145 4 9 (.inr 14) := ⟨3, _, _, rfl, rfl, rfl, by decide, zT_in (i := 143) (by decide +kernel) rfl⟩
theorem fd_X9_152 : zFd zshA RX9 152 17 0 (.inl false) := ⟨0, _, _, rfl, rfl, rfl, by decide, zT_in (i := 193) (by decide +kernel) rfl⟩
theorem fd_X9_166 : zFd zshA RX9 166 17 6 (.inr 23) := ⟨0, _, _, rfl, rfl, rfl, by decide, zT_in (i := 215) (by decide +kernel) rfl⟩
theorem fd_X9_169 : zFd zshA RX9 169 17 7 (.inr 24) := ⟨0, _, _, rfl, rfl, rfl, by decide, zT_in (i := 218) (by decide +kernel) rfl⟩
theorem fd_X9_172 : zFd zshA RX9 172 17 3 (.inr 20) := ⟨0, _, _, rfl, rfl, rfl, by decide, zT_in (i := 205) (by decide +kernel) rfl⟩
theorem fd_X9_175 : zFd zshA RX9 175 17 1 (.inr 18) := ⟨0, _, _, rfl, rfl, rfl, by decide, zT_in (i := 199) (by decide +kernel) rfl⟩
theorem fd_X9_178 : zFd zshA RX9 178 17 2 (.inr 19) := ⟨0, _, _, rfl, rfl, rfl, by decide, zT_in (i := 202) (by decide +kernel) rfl⟩
theorem fd_X9_181 : zFd zshA RX9 181 17 4 (.inr 21) := ⟨0, _, _, rfl, rfl, rfl, by decide, zT_in (i := 208) (by decide +kernel) rfl⟩
theorem fd_X9_184 : zFd zshA RX9 184 17 5 (.inr 22) := ⟨0, _, _, rfl, rfl, rfl, by decide, zT_in (i := 210) (by decide +kernel) rfl⟩
theorem fd_X9_187 : zFd zshA RX9 187 17 8 (.inr 25) := ⟨0, _, _, rfl, rfl, rfl, by decide, zT_in (i := 221) (by decide +kernel) rfl⟩
theorem fd_X9_234 : zFd zshA RX9 234 36 3 (.inr 37) := ⟨4, _, _, rfl, rfl, rfl, by decide, zT_in (i := 322) (by decide +kernel) rfl⟩
theorem fd_X9_270 : zFd zshA RX9 270 17 9 (.inr 26) := ⟨0, _, _, rfl, rfl, rfl, by decide, zT_in (i := 224) (by decide +kernel) rfl⟩
theorem fd_X9_279 : zFd zshA RX9 279 1 1 (.inl false) := ⟨7, _, _, rfl, rfl, rfl, by decide, zT_in (i := 87) (by decide +kernel) rfl⟩
theorem fd_X9_282 : zFd zshA RX9 282 4 12 (.inl false) := ⟨3, _, _, rfl, rfl, rfl, by decide, zT_in (i := 148) (by decide +kernel) rfl⟩
theorem fd_X9_285 : zFd zshA RX9 285 4 13 (.inl false) := ⟨3, _, _, rfl, rfl, rfl, by decide, zT_in (i := 151) (by decide +kernel) rfl⟩
theorem fd_X0_9 : zFd zshA RX0 9 17 1 (.inr 18) := ⟨0, _, _, rfl, rfl, rfl, by decide, zT_in (i := 195) (by decide +kernel) rfl⟩
theorem fd_X0_15 : zFd zshA RX0 15 17 2 (.inr 19) := ⟨0, _, _, rfl, rfl, rfl, by decide, zT_in (i := 200) (by decide +kernel) rfl⟩
theorem fd_X0_18 : zFd zshA RX0 18 17 3 (.inr 20) := ⟨0, _, _, rfl, rfl, rfl, by decide, zT_in (i := 203) (by decide +kernel) rfl⟩
theorem fd_X0_21 : zFd zshA RX0 21 17 4 (.inr 21) := ⟨0, _, _, rfl, rfl, rfl, by decide, zT_in (i := 206) (by decide +kernel) rfl⟩
theorem fd_X0_24 : zFd zshA RX0 24 17 5 (.inr 22) := ⟨0, _, _, rfl, rfl, rfl, by decide, zT_in (i := 209) (by decide +kernel) rfl⟩
theorem fd_X0_27 : zFd zshA RX0 27 17 6 (.inr 23) := ⟨0, _, _, rfl, rfl, rfl, by decide, zT_in (i := 212) (by decide +kernel) rfl⟩
theorem fd_X0_30 : zFd zshA RX0 30 17 7 (.inr 24) := ⟨0, _, _, rfl, rfl, rfl, by decide, zT_in (i := 216) (by decide +kernel) rfl⟩
theorem fd_X0_33 : zFd zshA RX0 33 17 8 (.inr 25) := ⟨0, _, _, rfl, rfl, rfl, by decide, zT_in (i := 219) (by decide +kernel) rfl⟩
theorem fd_X0_36 : zFd zshA RX0 36 17 9 (.inr 26) := ⟨0, _, _, rfl, rfl, rfl, by decide, zT_in (i := 222) (by decide +kernel) rfl⟩
theorem fd_X0_39 : zFd zshA RX0 39 17 0 (.inl false) := ⟨0, _, _, rfl, rfl, rfl, by decide, zT_in (i := 188) (by decide +kernel) rfl⟩
theorem fd_X1_9 : zFd zshA RX1 9 43 0 (.inr 17) := ⟨1, _, _, rfl, rfl, rfl, by decide, zT_in (i := 366) (by decide +kernel) rfl⟩
theorem fd_X1_15 : zFd zshA RX1 15 17 0 (.inl false) := ⟨0, _, _, rfl, rfl, rfl, by decide, zT_in (i := 189) (by decide +kernel) rfl⟩
theorem fd_X1_21 : zFd zshA RX1 21 17 1 (.inr 18) := ⟨0, _, _, rfl, rfl, rfl, by decide, zT_in (i := 196) (by decide +kernel) rfl⟩
theorem fd_X1_25 : zFd zshA RX1 25 17 6 (.inr 23) := ⟨0, _, _, rfl, rfl, rfl, by decide, zT_in (i := 213) (by decide +kernel) rfl⟩
theorem fd_X1_28 : zFd zshA RX1 28 17 9 (.inr 26) := ⟨0, _, _, rfl, rfl, rfl, by decide, zT_in (i := 223) (by decide +kernel) rfl⟩
theorem fd_X2_9 : zFd zshA RX2 9 27 0 (.inr 4) := ⟨2, _, _, rfl, rfl, rfl, by decide, zT_in (i := 252) (by decide +kernel) rfl⟩
theorem fd_X2_15 : zFd zshA RX2 15 27 1 (.inr 17) := ⟨2, _, _, rfl, rfl, rfl, by decide, zT_in (i := 253) (by decide +kernel) rfl⟩
theorem fd_X2_19 : zFd zshA RX2 19 17 2 (.inr 19) := ⟨0, _, _, rfl, rfl, rfl, by decide, zT_in (i := 201) (by decide +kernel) rfl⟩
theorem fd_X2_25 : zFd zshA RX2 25 4 6 (.inr 11) := ⟨3, _, _, rfl, rfl, rfl, by decide, zT_in (i := 135) (by decide +kernel) rfl⟩
theorem fd_X2_40 : zFd zshA RX2 40 17 3 (.inr 20) := ⟨0, _, _, rfl, rfl, rfl, by decide, zT_in (i := 204) (by decide +kernel) rfl⟩
theorem fd_X2_43 : zFd zshA RX2 43 4 7 (.inr 12) := ⟨3, _, _, rfl, rfl, rfl, by decide, zT_in (i := 138) (by decide +kernel) rfl⟩
theorem fd_X2_49 : zFd zshA RX2 49 4 3 (.inr 8) := ⟨3, _, _, rfl, rfl, rfl, by decide, zT_in (i := 125) (by decide +kernel) rfl⟩
theorem fd_X2_56 : zFd zshA RX2 56 4 12 (.inl false) := ⟨3, _, _, rfl, rfl, rfl, by decide, zT_in (i := 147) (by decide +kernel) rfl⟩
theorem fd_X2_72 : zFd zshA RX2 72 4 13 (.inl false) := ⟨3, _, _, rfl, rfl, rfl, by decide, zT_in (i := 150) (by decide +kernel) rfl⟩
theorem fd_X2_75 : zFd zshA RX2 75 4 5 (.inr 10) := ⟨3, _, _, rfl, rfl, rfl, by decide, zT_in (i := 131) (by decide +kernel) rfl⟩
theorem fd_X2_81 : zFd zshA RX2 81 17 0 (.inl false) := ⟨0, _, _, rfl, rfl, rfl, by decide, zT_in (i := 192) (by decide +kernel) rfl⟩
theorem fd_X3_9 : zFd zshA RX3 9 4 0 (.inr 5) := ⟨3, _, _, rfl, rfl, rfl, by decide, zT_in (i := 114) (by decide +kernel) rfl⟩
theorem fd_X3_15 : zFd zshA RX3 15 4 1 (.inr 6) := ⟨3, _, _, rfl, rfl, rfl, by decide, zT_in (i := 118) (by decide +kernel) rfl⟩
theorem fd_X3_18 : zFd zshA RX3 18 4 2 (.inr 7) := ⟨3, _, _, rfl, rfl, rfl, by decide, zT_in (i := 121) (by decide +kernel) rfl⟩
theorem fd_X3_21 : zFd zshA RX3 21 4 3 (.inr 8) := ⟨3, _, _, rfl, rfl, rfl, by decide, zT_in (i := 124) (by decide +kernel) rfl⟩
theorem fd_X3_25 : zFd zshA RX3 25 4 4 (.inr 9) := ⟨3, _, _, rfl, rfl, rfl, by decide, zT_in (i := 126) (by decide +kernel) rfl⟩
theorem fd_X3_28 : zFd zshA RX3 28 4 5 (.inr 10) := ⟨3, _, _, rfl, rfl, rfl, by decide, zT_in (i := 130) (by decide +kernel) rfl⟩
theorem fd_X3_31 : zFd zshA RX3 31 4 6 (.inr 11) := ⟨3, _, _, rfl, rfl, rfl, by decide, zT_in (i := 134) (by decide +kernel) rfl⟩
theorem fd_X3_34 : zFd zshA RX3 34 4 7 (.inr 12) := ⟨3, _, _, rfl, rfl, rfl, by decide, zT_in (i := 137) (by decide +kernel) rfl⟩
theorem fd_X3_37 : zFd zshA RX3 37 4 8 (.inr 13) := ⟨3, _, _, rfl, rfl, rfl, by decide, zT_in (i := 140) (by decide +kernel) rfl⟩
theorem fd_X3_40 : zFd zshA RX3 40 4 9 (.inr 14) := ⟨3, _, _, rfl, rfl, rfl, by decide, zT_in (i := 142) (by decide +kernel) rfl⟩
theorem fd_X3_43 : zFd zshA RX3 43 4 10 (.inr 15) := ⟨3, _, _, rfl, rfl, rfl, by decide, zT_in (i := 144) (by decide +kernel) rfl⟩
theorem fd_X3_46 : zFd zshA RX3 46 4 11 (.inr 16) := ⟨3, _, _, rfl, rfl, rfl, by decide, zT_in (i := 145) (by decide +kernel) rfl⟩
theorem fd_X3_49 : zFd zshA RX3 49 4 12 (.inl false) := ⟨3, _, _, rfl, rfl, rfl, by decide, zT_in (i := 146) (by decide +kernel) rfl⟩
theorem fd_X3_53 : zFd zshA RX3 53 4 13 (.inl false) := ⟨3, _, _, rfl, rfl, rfl, by decide, zT_in (i := 149) (by decide +kernel) rfl⟩
theorem fd_X4_9 : zFd zshA RX4 9 36 0 (.inr 4) := ⟨4, _, _, rfl, rfl, rfl, by decide, zT_in (i := 317) (by decide +kernel) rfl⟩
theorem fd_X4_15 : zFd zshA RX4 15 36 1 (.inr 17) := ⟨4, _, _, rfl, rfl, rfl, by decide, zT_in (i := 318) (by decide +kernel) rfl⟩
theorem fd_X4_19 : zFd zshA RX4 19 36 2 (.inr 28) := ⟨4, _, _, rfl, rfl, rfl, by decide, zT_in (i := 319) (by decide +kernel) rfl⟩
theorem fd_X4_23 : zFd zshA RX4 23 36 3 (.inr 37) := ⟨4, _, _, rfl, rfl, rfl, by decide, zT_in (i := 320) (by decide +kernel) rfl⟩
theorem fd_X4_66 : zFd zshA RX4 66 4 5 (.inr 10) := ⟨3, _, _, rfl, rfl, rfl, by decide, zT_in (i := 133) (by decide +kernel) rfl⟩
theorem fd_X4_74 : zFd zshA RX4 74 4 0 (.inr 5) := ⟨3, _, _, rfl, rfl, rfl, by decide, zT_in (i := 117) (by decide +kernel) rfl⟩
theorem fd_X4_81 : zFd zshA RX4 81 4 4 (.inr 9) := ⟨3, _, _, rfl, rfl, rfl, by decide, zT_in (i := 129) (by decide +kernel) rfl⟩
theorem fd_X4_84 : zFd zshA RX4 84 17 1 (.inr 18) := ⟨0, _, _, rfl, rfl, rfl, by decide, zT_in (i := 198) (by decide +kernel) rfl⟩
theorem fd_X4_99 : zFd zshA RX4 99 17 0 (.inl false) := ⟨0, _, _, rfl, rfl, rfl, by decide, zT_in (i := 194) (by decide +kernel) rfl⟩
theorem fd_X4_107 : zFd zshA RX4 107 28 5 (.inr 31) := ⟨8, _, _, rfl, rfl, rfl, by decide, zT_in (i := 272) (by decide +kernel) rfl⟩
theorem fd_X5_9 : zFd zshA RX5 9 32 0 (.inr 17) := ⟨5, _, _, rfl, rfl, rfl, by decide, zT_in (i := 292) (by decide +kernel) rfl⟩
theorem fd_X5_15 : zFd zshA RX5 15 32 1 (.inr 28) := ⟨5, _, _, rfl, rfl, rfl, by decide, zT_in (i := 293) (by decide +kernel) rfl⟩
theorem fd_X5_19 : zFd zshA RX5 19 32 2 (.inr 33) := ⟨5, _, _, rfl, rfl, rfl, by decide, zT_in (i := 294) (by decide +kernel) rfl⟩
theorem fd_X5_23 : zFd zshA RX5 23 32 3 (.inr 34) := ⟨5, _, _, rfl, rfl, rfl, by decide, zT_in (i := 295) (by decide +kernel) rfl⟩
theorem fd_X5_26 : zFd zshA RX5 26 32 4 (.inr 35) := ⟨5, _, _, rfl, rfl, rfl, by decide, zT_in (i := 296) (by decide +kernel) rfl⟩
theorem fd_X5_38 : zFd zshA RX5 38 17 0 (.inl false) := ⟨0, _, _, rfl, rfl, rfl, by decide, zT_in (i := 190) (by decide +kernel) rfl⟩
theorem fd_X5_50 : zFd zshA RX5 50 32 5 (.inl false) := ⟨5, _, _, rfl, rfl, rfl, by decide, zT_in (i := 297) (by decide +kernel) rfl⟩
theorem fd_X5_53 : zFd zshA RX5 53 17 4 (.inr 21) := ⟨0, _, _, rfl, rfl, rfl, by decide, zT_in (i := 207) (by decide +kernel) rfl⟩
theorem fd_X5_71 : zFd zshA RX5 71 28 5 (.inr 31) := ⟨8, _, _, rfl, rfl, rfl, by decide, zT_in (i := 271) (by decide +kernel) rfl⟩
theorem fd_X6_9 : zFd zshA RX6 9 38 0 (.inr 4) := ⟨6, _, _, rfl, rfl, rfl, by decide, zT_in (i := 338) (by decide +kernel) rfl⟩
theorem fd_X6_15 : zFd zshA RX6 15 38 1 (.inr 36) := ⟨6, _, _, rfl, rfl, rfl, by decide, zT_in (i := 339) (by decide +kernel) rfl⟩
theorem fd_X6_19 : zFd zshA RX6 19 38 2 (.inr 39) := ⟨6, _, _, rfl, rfl, rfl, by decide, zT_in (i := 340) (by decide +kernel) rfl⟩
theorem fd_X6_23 : zFd zshA RX6 23 38 3 (.inr 40) := ⟨6, _, _, rfl, rfl, rfl, by decide, zT_in (i := 341) (by decide +kernel) rfl⟩
theorem fd_X6_26 : zFd zshA RX6 26 38 4 (.inr 41) := ⟨6, _, _, rfl, rfl, rfl, by decide, zT_in (i := 342) (by decide +kernel) rfl⟩
theorem fd_X6_29 : zFd zshA RX6 29 38 5 (.inr 42) := ⟨6, _, _, rfl, rfl, rfl, by decide, zT_in (i := 343) (by decide +kernel) rfl⟩
theorem fd_X6_32 : zFd zshA RX6 32 4 4 (.inr 9) := ⟨3, _, _, rfl, rfl, rfl, by decide, zT_in (i := 127) (by decide +kernel) rfl⟩
theorem fd_X6_43 : zFd zshA RX6 43 38 6 (.inl false) := ⟨6, _, _, rfl, rfl, rfl, by decide, zT_in (i := 344) (by decide +kernel) rfl⟩
theorem fd_X6_47 : zFd zshA RX6 47 36 3 (.inr 37) := ⟨4, _, _, rfl, rfl, rfl, by decide, zT_in (i := 321) (by decide +kernel) rfl⟩
theorem fd_X7_9 : zFd zshA RX7 9 1 0 (.inr 2) := ⟨7, _, _, rfl, rfl, rfl, by decide, zT_in (i := 85) (by decide +kernel) rfl⟩
theorem fd_X7_15 : zFd zshA RX7 15 1 2 (.inr 3) := ⟨7, _, _, rfl, rfl, rfl, by decide, zT_in (i := 88) (by decide +kernel) rfl⟩
theorem fd_X7_18 : zFd zshA RX7 18 1 1 (.inl false) := ⟨7, _, _, rfl, rfl, rfl, by decide, zT_in (i := 86) (by decide +kernel) rfl⟩
theorem fd_X7_22 : zFd zshA RX7 22 1 5 (.inl false) := ⟨7, _, _, rfl, rfl, rfl, by decide, zT_in (i := 93) (by decide +kernel) rfl⟩
theorem fd_X7_25 : zFd zshA RX7 25 1 3 (.inl false) := ⟨7, _, _, rfl, rfl, rfl, by decide, zT_in (i := 90) (by decide +kernel) rfl⟩
theorem fd_X7_32 : zFd zshA RX7 32 1 4 (.inl false) := ⟨7, _, _, rfl, rfl, rfl, by decide, zT_in (i := 92) (by decide +kernel) rfl⟩
theorem fd_X8_9 : zFd zshA RX8 9 28 0 (.inr 4) := ⟨8, _, _, rfl, rfl, rfl, by decide, zT_in (i := 265) (by decide +kernel) rfl⟩
theorem fd_X8_15 : zFd zshA RX8 15 28 1 (.inr 17) := ⟨8, _, _, rfl, rfl, rfl, by decide, zT_in (i := 266) (by decide +kernel) rfl⟩
theorem fd_X8_19 : zFd zshA RX8 19 28 2 (.inr 27) := ⟨8, _, _, rfl, rfl, rfl, by decide, zT_in (i := 267) (by decide +kernel) rfl⟩
theorem fd_X8_23 : zFd zshA RX8 23 28 3 (.inr 29) := ⟨8, _, _, rfl, rfl, rfl, by decide, zT_in (i := 268) (by decide +kernel) rfl⟩
theorem fd_X8_27 : zFd zshA RX8 27 28 4 (.inr 30) := ⟨8, _, _, rfl, rfl, rfl, by decide, zT_in (i := 269) (by decide +kernel) rfl⟩
theorem fd_X8_30 : zFd zshA RX8 30 28 5 (.inr 31) := ⟨8, _, _, rfl, rfl, rfl, by decide, zT_in (i := 270) (by decide +kernel) rfl⟩
theorem fd_X8_40 : zFd zshA RX8 40 17 0 (.inl false) := ⟨0, _, _, rfl, rfl, rfl, by decide, zT_in (i := 191) (by decide +kernel) rfl⟩
theorem fd_X8_46 : zFd zshA RX8 46 17 1 (.inr 18) := ⟨0, _, _, rfl, rfl, rfl, by decide, zT_in (i := 197) (by decide +kernel) rfl⟩
theorem fd_X8_49 : zFd zshA RX8 49 4 2 (.inr 7) := ⟨3, _, _, rfl, rfl, rfl, by decide, zT_in (i := 122) (by decide +kernel) rfl⟩
theorem fd_X8_54 : zFd zshA RX8 54 17 6 (.inr 23) := ⟨0, _, _, rfl, rfl, rfl, by decide, zT_in (i := 214) (by decide +kernel) rfl⟩
theorem fd_X8_57 : zFd zshA RX8 57 17 7 (.inr 24) := ⟨0, _, _, rfl, rfl, rfl, by decide, zT_in (i := 217) (by decide +kernel) rfl⟩
theorem fd_X8_85 : zFd zshA RX8 85 4 0 (.inr 5) := ⟨3, _, _, rfl, rfl, rfl, by decide, zT_in (i := 115) (by decide +kernel) rfl⟩
theorem fd_X8_88 : zFd zshA RX8 88 4 1 (.inr 6) := ⟨3, _, _, rfl, rfl, rfl, by decide, zT_in (i := 119) (by decide +kernel) rfl⟩
theorem fd_X8_123 : zFd zshA RX8 123 17 8 (.inr 25) := ⟨0, _, _, rfl, rfl, rfl, by decide, zT_in (i := 220) (by decide +kernel) rfl⟩
theorem fd_X8_132 : zFd zshA RX8 132 17 5 (.inr 22) := ⟨0, _, _, rfl, rfl, rfl, by decide, zT_in (i := 211) (by decide +kernel) rfl⟩
theorem fd_X10_7 : zFd zshB RX10 7 0 0 (.inr 1) := ⟨10, _, _, rfl, rfl, rfl, by decide, zT_in (i := 961) (by decide +kernel) rfl⟩
theorem fd_X10_13 : zFd zshB RX10 13 0 1 (.inr 2) := ⟨10, _, _, rfl, rfl, rfl, by decide, zT_in (i := 962) (by decide +kernel) rfl⟩
theorem fd_X10_16 : zFd zshB RX10 16 0 2 (.inr 3) := ⟨10, _, _, rfl, rfl, rfl, by decide, zT_in (i := 963) (by decide +kernel) rfl⟩
theorem fd_X10_19 : zFd zshB RX10 19 0 4 (.inl false) := ⟨10, _, _, rfl, rfl, rfl, by decide, zT_in (i := 965) (by decide +kernel) rfl⟩
theorem fd_X10_23 : zFd zshB RX10 23 0 5 (.inl false) := ⟨10, _, _, rfl, rfl, rfl, by decide, zT_in (i := 966) (by decide +kernel) rfl⟩
theorem fd_X10_26 : zFd zshB RX10 26 0 7 (.inr 4) := ⟨10, _, _, rfl, rfl, rfl, by decide, zT_in (i := 968) (by decide +kernel) rfl⟩
theorem fd_X10_29 : zFd zshB RX10 29 0 15 (.inr 5) := ⟨10, _, _, rfl, rfl, rfl, by decide, zT_in (i := 976) (by decide +kernel) rfl⟩
theorem fd_X10_32 : zFd zshB RX10 32 0 17 (.inr 6) := ⟨10, _, _, rfl, rfl, rfl, by decide, zT_in (i := 978) (by decide +kernel) rfl⟩
theorem fd_X10_35 : zFd zshB RX10 35 0 18 (.inr 7) := ⟨10, _, _, rfl, rfl, rfl, by decide, zT_in (i := 979) (by decide +kernel) rfl⟩
theorem fd_X10_38 : zFd zshB RX10 38 0 19 (.inr 8) := ⟨10, _, _, rfl, rfl, rfl, by decide, zT_in (i := 980) (by decide +kernel) rfl⟩
theorem fd_X10_41 : zFd zshB RX10 41 0 20 (.inr 9) := ⟨10, _, _, rfl, rfl, rfl, by decide, zT_in (i := 981) (by decide +kernel) rfl⟩
theorem fd_X10_44 : zFd zshB RX10 44 0 21 (.inr 10) := ⟨10, _, _, rfl, rfl, rfl, by decide, zT_in (i := 982) (by decide +kernel) rfl⟩
theorem fd_X10_47 : zFd zshB RX10 47 0 22 (.inr 11) := ⟨10, _, _, rfl, rfl, rfl, by decide, zT_in (i := 983) (by decide +kernel) rfl⟩
theorem fd_X10_50 : zFd zshB RX10 50 0 23 (.inr 12) := ⟨10, _, _, rfl, rfl, rfl, by decide, zT_in (i := 984) (by decide +kernel) rfl⟩
theorem fd_X10_53 : zFd zshB RX10 53 0 24 (.inr 13) := ⟨10, _, _, rfl, rfl, rfl, by decide, zT_in (i := 985) (by decide +kernel) rfl⟩
theorem fd_X10_56 : zFd zshB RX10 56 0 25 (.inr 14) := ⟨10, _, _, rfl, rfl, rfl, by decide, zT_in (i := 986) (by decide +kernel) rfl⟩
theorem fd_X10_59 : zFd zshB RX10 59 0 26 (.inr 15) := ⟨10, _, _, rfl, rfl, rfl, by decide, zT_in (i := 987) (by decide +kernel) rfl⟩
theorem fd_X10_62 : zFd zshB RX10 62 0 27 (.inr 16) := ⟨10, _, _, rfl, rfl, rfl, by decide, zT_in (i := 988) (by decide +kernel) rfl⟩
theorem fd_X10_65 : zFd zshB RX10 65 0 28 (.inr 17) := ⟨10, _, _, rfl, rfl, rfl, by decide, zT_in (i := 989) (by decide +kernel) rfl⟩
theorem fd_X10_68 : zFd zshB RX10 68 0 29 (.inr 18) := ⟨10, _, _, rfl, rfl, rfl, by decide, zT_in (i := 990) (by decide +kernel) rfl⟩
theorem fd_X10_75 : zFd zshB RX10 75 0 3 (.inl false) := ⟨10, _, _, rfl, rfl, rfl, by decide, zT_in (i := 964) (by decide +kernel) rfl⟩
theorem fd_X10_78 : zFd zshB RX10 78 0 16 (.inl false) := ⟨10, _, _, rfl, rfl, rfl, by decide, zT_in (i := 977) (by decide +kernel) rfl⟩
theorem fd_X10_81 : zFd zshB RX10 81 0 6 (.inl false) := ⟨10, _, _, rfl, rfl, rfl, by decide, zT_in (i := 967) (by decide +kernel) rfl⟩
theorem fd_X10_86 : zFd zshB RX10 86 0 8 (.inl false) := ⟨10, _, _, rfl, rfl, rfl, by decide, zT_in (i := 969) (by decide +kernel) rfl⟩
theorem fd_X10_89 : zFd zshB RX10 89 0 9 (.inl false) := ⟨10, _, _, rfl, rfl, rfl, by decide, zT_in (i := 970) (by decide +kernel) rfl⟩
theorem fd_X10_92 : zFd zshB RX10 92 0 11 (.inl false) := ⟨10, _, _, rfl, rfl, rfl, by decide, zT_in (i := 972) (by decide +kernel) rfl⟩
theorem fd_X10_95 : zFd zshB RX10 95 0 12 (.inl false) := ⟨10, _, _, rfl, rfl, rfl, by decide, zT_in (i := 973) (by decide +kernel) rfl⟩
theorem fd_X10_100 : zFd zshB RX10 100 0 10 (.inl true) := ⟨10, _, _, rfl, rfl, rfl, by decide, zT_in (i := 971) (by decide +kernel) rfl⟩
theorem fd_X10_114 : zFd zshB RX10 114 0 13 (.inl false) := ⟨10, _, _, rfl, rfl, rfl, by decide, zT_in (i := 974) (by decide +kernel) rfl⟩
theorem fd_X10_143 : zFd zshB RX10 143 0 14 (.inl false) := ⟨10, _, _, rfl, rfl, rfl, by decide, zT_in (i := 975) (by decide +kernel) rfl⟩
theorem fwA_17_0 : zFw zshA 17 0 "I" := ⟨0, _, _, rfl, rfl, rfl, rfl⟩
theorem fwA_4_13 : zFw zshA 4 13 "I" := ⟨3, _, _, rfl, rfl, rfl, rfl⟩
theorem fwA_4_12 : zFw zshA 4 12 "I" := ⟨3, _, _, rfl, rfl, rfl, rfl⟩
theorem fwA_32_5 : zFw zshA 32 5 "I" := ⟨5, _, _, rfl, rfl, rfl, rfl⟩
theorem fwA_38_6 : zFw zshA 38 6 "I" := ⟨6, _, _, rfl, rfl, rfl, rfl⟩
theorem fwA_1_5 : zFw zshA 1 5 "I" := ⟨7, _, _, rfl, rfl, rfl, rfl⟩
theorem fwA_1_1 : zFw zshA 1 1 "I" := ⟨7, _, _, rfl, rfl, rfl, rfl⟩
theorem fwA_1_3 : zFw zshA 1 3 "I" := ⟨7, _, _, rfl, rfl, rfl, rfl⟩
theorem fwA_1_4 : zFw zshA 1 4 "I" := ⟨7, _, _, rfl, rfl, rfl, rfl⟩
theorem fwB_0_16 : zFw zshB 0 16 "I" := ⟨10, _, _, rfl, rfl, rfl, rfl⟩
theorem fwB_0_6 : zFw zshB 0 6 "I" := ⟨10, _, _, rfl, rfl, rfl, rfl⟩
theorem fwB_0_11 : zFw zshB 0 11 "I" := ⟨10, _, _, rfl, rfl, rfl, rfl⟩
theorem fwB_0_5 : zFw zshB 0 5 "I" := ⟨10, _, _, rfl, rfl, rfl, rfl⟩
theorem fwB_0_13 : zFw zshB 0 13 "I" := ⟨10, _, _, rfl, rfl, rfl, rfl⟩
theorem fwB_0_4 : zFw zshB 0 4 "I" := ⟨10, _, _, rfl, rfl, rfl, rfl⟩
theorem fwB_0_12 : zFw zshB 0 12 "I" := ⟨10, _, _, rfl, rfl, rfl, rfl⟩
theorem fwB_0_8 : zFw zshB 0 8 "I" := ⟨10, _, _, rfl, rfl, rfl, rfl⟩
theorem fwB_0_14 : zFw zshB 0 14 "I" := ⟨10, _, _, rfl, rfl, rfl, rfl⟩
theorem fwB_0_10 : zFw zshB 0 10 "J" := ⟨10, _, _, rfl, rfl, rfl, rfl⟩
theorem fwB_0_9 : zFw zshB 0 9 "I" := ⟨10, _, _, rfl, rfl, rfl, rfl⟩
theorem fwB_0_3 : zFw zshB 0 3 "I" := ⟨10, _, _, rfl, rfl, rfl, rfl⟩
set_option maxRecDepth 20000 in
theorem zy_X0_init : zY yX0_init cX0_init 1 none 0 := ⟨zT_in (i := 56) (by decide +kernel) rfl, zT_in (i := 186) (by decide +kernel) rfl, by decide +kernel, by decide⟩
set_option maxRecDepth 20000 in
theorem zy_X0_has : zY yX0_has cX0_has 2 (some .boolean) 1 := ⟨zT_in (i := 56) (by decide +kernel) rfl, zT_in (i := 592) (by decide +kernel) rfl, by decide +kernel, by decide⟩
theorem zv_X0_has : zYv yX0_has := ⟨zT_in (i := 590) (by decide +kernel) rfl, zT_in (i := 591) (by decide +kernel) rfl⟩
set_option maxRecDepth 20000 in
theorem zy_X0_add : zY yX0_add cX0_add 5 (some .int) 3 := ⟨zT_in (i := 56) (by decide +kernel) rfl, zT_in (i := 579) (by decide +kernel) rfl, by decide +kernel, by decide⟩
theorem zv_X0_add : zYv yX0_add := ⟨zT_in (i := 577) (by decide +kernel) rfl, zT_in (i := 578) (by decide +kernel) rfl⟩
set_option maxRecDepth 20000 in
theorem zy_X0_setMeasured : zY yX0_setMeasured cX0_setMeasured 5 none 3 := ⟨zT_in (i := 56) (by decide +kernel) rfl, zT_in (i := 583) (by decide +kernel) rfl, by decide +kernel, by decide⟩
theorem zv_X0_setMeasured : zYv yX0_setMeasured := ⟨zT_in (i := 581) (by decide +kernel) rfl, zT_in (i := 582) (by decide +kernel) rfl⟩
set_option maxRecDepth 20000 in
theorem zy_X0_isReused : zY yX0_isReused cX0_isReused 2 (some .boolean) 1 := ⟨zT_in (i := 56) (by decide +kernel) rfl, zT_in (i := 665) (by decide +kernel) rfl, by decide +kernel, by decide⟩
theorem zv_X0_isReused : zYv yX0_isReused := ⟨zT_in (i := 663) (by decide +kernel) rfl, zT_in (i := 664) (by decide +kernel) rfl⟩
set_option maxRecDepth 20000 in
theorem zy_X0_comesFrom : zY yX0_comesFrom cX0_comesFrom 5 (some .boolean) 2 := ⟨zT_in (i := 56) (by decide +kernel) rfl, zT_in (i := 653) (by decide +kernel) rfl, by decide +kernel, by decide⟩
theorem zv_X0_comesFrom : zYv yX0_comesFrom := ⟨zT_in (i := 651) (by decide +kernel) rfl, zT_in (i := 652) (by decide +kernel) rfl⟩
set_option maxRecDepth 20000 in
theorem zy_X0_strikes : zY yX0_strikes cX0_strikes 3 (some .int) 0 := ⟨zT_in (i := 56) (by decide +kernel) rfl, zT_in (i := 954) (by decide +kernel) rfl, by decide +kernel, by decide⟩
theorem zv_X0_strikes : zYv yX0_strikes := ⟨zT_in (i := 952) (by decide +kernel) rfl, zT_in (i := 953) (by decide +kernel) rfl⟩
set_option maxRecDepth 20000 in
theorem zy_X1_init : zY yX1_init cX1_init 2 none 1 := ⟨zT_in (i := 62) (by decide +kernel) rfl, zT_in (i := 364) (by decide +kernel) rfl, by decide +kernel, by decide⟩
set_option maxRecDepth 20000 in
theorem zy_X1_warmthLearnt : zY yX1_warmthLearnt cX1_warmthLearnt 7 (some .int) 2 := ⟨zT_in (i := 62) (by decide +kernel) rfl, zT_in (i := 933) (by decide +kernel) rfl, by decide +kernel, by decide⟩
theorem zv_X1_warmthLearnt : zYv yX1_warmthLearnt := ⟨zT_in (i := 931) (by decide +kernel) rfl, zT_in (i := 932) (by decide +kernel) rfl⟩
set_option maxRecDepth 20000 in
theorem zy_X1_leastFor : zY yX1_leastFor cX1_leastFor 2 (some .int) 2 := ⟨zT_in (i := 62) (by decide +kernel) rfl, zT_in (i := 936) (by decide +kernel) rfl, by decide +kernel, by decide⟩
theorem zs_X1_leastFor : Cond.static yX1_leastFor ∈ zT := zT_in (i := 935) (by decide +kernel) rfl
set_option maxRecDepth 20000 in
theorem zy_X1_greatestFor : zY yX1_greatestFor cX1_greatestFor 2 (some .int) 2 := ⟨zT_in (i := 62) (by decide +kernel) rfl, zT_in (i := 941) (by decide +kernel) rfl, by decide +kernel, by decide⟩
theorem zs_X1_greatestFor : Cond.static yX1_greatestFor ∈ zT := zT_in (i := 940) (by decide +kernel) rfl
set_option maxRecDepth 20000 in
theorem zy_X2_init : zY yX2_init cX2_init 3 none 2 := ⟨zT_in (i := 57) (by decide +kernel) rfl, zT_in (i := 250) (by decide +kernel) rfl, by decide +kernel, by decide⟩
set_option maxRecDepth 20000 in
theorem zy_X2_offBetween : zY yX2_offBetween cX2_offBetween 7 (some .int) 2 := ⟨zT_in (i := 57) (by decide +kernel) rfl, zT_in (i := 609) (by decide +kernel) rfl, by decide +kernel, by decide⟩
theorem zv_X2_offBetween : zYv yX2_offBetween := ⟨zT_in (i := 607) (by decide +kernel) rfl, zT_in (i := 608) (by decide +kernel) rfl⟩
set_option maxRecDepth 20000 in
theorem zy_X2_canBeOf : zY yX2_canBeOf cX2_canBeOf 4 (some .int) 1 := ⟨zT_in (i := 57) (by decide +kernel) rfl, zT_in (i := 626) (by decide +kernel) rfl, by decide +kernel, by decide⟩
theorem zv_X2_canBeOf : zYv yX2_canBeOf := ⟨zT_in (i := 624) (by decide +kernel) rfl, zT_in (i := 625) (by decide +kernel) rfl⟩
set_option maxRecDepth 20000 in
theorem zy_X2_nameOf : zY yX2_nameOf cX2_nameOf 5 (some .int) 1 := ⟨zT_in (i := 57) (by decide +kernel) rfl, zT_in (i := 635) (by decide +kernel) rfl, by decide +kernel, by decide⟩
theorem zv_X2_nameOf : zYv yX2_nameOf := ⟨zT_in (i := 633) (by decide +kernel) rfl, zT_in (i := 634) (by decide +kernel) rfl⟩
set_option maxRecDepth 20000 in
theorem zy_X2_firstOpen : zY yX2_firstOpen cX2_firstOpen 4 (some .int) 1 := ⟨zT_in (i := 57) (by decide +kernel) rfl, zT_in (i := 678) (by decide +kernel) rfl, by decide +kernel, by decide⟩
theorem zv_X2_firstOpen : zYv yX2_firstOpen := ⟨zT_in (i := 676) (by decide +kernel) rfl, zT_in (i := 677) (by decide +kernel) rfl⟩
set_option maxRecDepth 20000 in
theorem zy_X2_nextToMeasure : zY yX2_nextToMeasure cX2_nextToMeasure 7 (some .int) 0 := ⟨zT_in (i := 57) (by decide +kernel) rfl, zT_in (i := 884) (by decide +kernel) rfl, by decide +kernel, by decide⟩
theorem zv_X2_nextToMeasure : zYv yX2_nextToMeasure := ⟨zT_in (i := 882) (by decide +kernel) rfl, zT_in (i := 883) (by decide +kernel) rfl⟩
set_option maxRecDepth 20000 in
theorem zy_X3_init : zY yX3_init cX3_init 2 none 0 := ⟨zT_in (i := 55) (by decide +kernel) rfl, zT_in (i := 112) (by decide +kernel) rfl, by decide +kernel, by decide⟩
set_option maxRecDepth 20000 in
theorem zy_X3_isTold : zY yX3_isTold cX3_isTold 2 (some .boolean) 1 := ⟨zT_in (i := 55) (by decide +kernel) rfl, zT_in (i := 560) (by decide +kernel) rfl, by decide +kernel, by decide⟩
theorem zv_X3_isTold : zYv yX3_isTold := ⟨zT_in (i := 558) (by decide +kernel) rfl, zT_in (i := 559) (by decide +kernel) rfl⟩
set_option maxRecDepth 20000 in
theorem zy_X3_toldFlows : zY yX3_toldFlows cX3_toldFlows 3 (some .int) 0 := ⟨zT_in (i := 55) (by decide +kernel) rfl, zT_in (i := 950) (by decide +kernel) rfl, by decide +kernel, by decide⟩
theorem zv_X3_toldFlows : zYv yX3_toldFlows := ⟨zT_in (i := 948) (by decide +kernel) rfl, zT_in (i := 949) (by decide +kernel) rfl⟩
set_option maxRecDepth 20000 in
theorem zy_X3_liveIn : zY yX3_liveIn cX3_liveIn 4 (some .int) 1 := ⟨zT_in (i := 55) (by decide +kernel) rfl, zT_in (i := 804) (by decide +kernel) rfl, by decide +kernel, by decide⟩
theorem zv_X3_liveIn : zYv yX3_liveIn := ⟨zT_in (i := 802) (by decide +kernel) rfl, zT_in (i := 803) (by decide +kernel) rfl⟩
set_option maxRecDepth 20000 in
theorem zy_X3_tell : zY yX3_tell cX3_tell 4 none 2 := ⟨zT_in (i := 55) (by decide +kernel) rfl, zT_in (i := 540) (by decide +kernel) rfl, by decide +kernel, by decide⟩
theorem zv_X3_tell : zYv yX3_tell := ⟨zT_in (i := 538) (by decide +kernel) rfl, zT_in (i := 539) (by decide +kernel) rfl⟩
set_option maxRecDepth 20000 in
theorem zy_X3_tellFlow : zY yX3_tellFlow cX3_tellFlow 5 none 3 := ⟨zT_in (i := 55) (by decide +kernel) rfl, zT_in (i := 544) (by decide +kernel) rfl, by decide +kernel, by decide⟩
theorem zv_X3_tellFlow : zYv yX3_tellFlow := ⟨zT_in (i := 543) (by decide +kernel) rfl, zT_in (i := 5) (by decide +kernel) rfl⟩
set_option maxRecDepth 20000 in
theorem zy_X3_tellWay : zY yX3_tellWay cX3_tellWay 6 none 5 := ⟨zT_in (i := 55) (by decide +kernel) rfl, zT_in (i := 547) (by decide +kernel) rfl, by decide +kernel, by decide⟩
theorem zs_X3_tellWay : Cond.static yX3_tellWay ∈ zT := zT_in (i := 546) (by decide +kernel) rfl
set_option maxRecDepth 20000 in
theorem zy_X3_milesOf : zY yX3_milesOf cX3_milesOf 6 (some .int) 3 := ⟨zT_in (i := 55) (by decide +kernel) rfl, zT_in (i := 829) (by decide +kernel) rfl, by decide +kernel, by decide⟩
theorem zv_X3_milesOf : zYv yX3_milesOf := ⟨zT_in (i := 827) (by decide +kernel) rfl, zT_in (i := 828) (by decide +kernel) rfl⟩
set_option maxRecDepth 20000 in
theorem zy_X3_waysFrom : zY yX3_waysFrom cX3_waysFrom 3 (some .int) 2 := ⟨zT_in (i := 55) (by decide +kernel) rfl, zT_in (i := 813) (by decide +kernel) rfl, by decide +kernel, by decide⟩
theorem zv_X3_waysFrom : zYv yX3_waysFrom := ⟨zT_in (i := 811) (by decide +kernel) rfl, zT_in (i := 812) (by decide +kernel) rfl⟩
set_option maxRecDepth 20000 in
theorem zy_X4_init : zY yX4_init cX4_init 4 none 3 := ⟨zT_in (i := 60) (by decide +kernel) rfl, zT_in (i := 315) (by decide +kernel) rfl, by decide +kernel, by decide⟩
set_option maxRecDepth 20000 in
theorem zy_X4_fewestLegs : zY yX4_fewestLegs cX4_fewestLegs 10 (some .int) 4 := ⟨zT_in (i := 60) (by decide +kernel) rfl, zT_in (i := 808) (by decide +kernel) rfl, by decide +kernel, by decide⟩
theorem zv_X4_fewestLegs : zYv yX4_fewestLegs := ⟨zT_in (i := 806) (by decide +kernel) rfl, zT_in (i := 807) (by decide +kernel) rfl⟩
set_option maxRecDepth 20000 in
theorem zy_X4_measureMiles : zY yX4_measureMiles cX4_measureMiles 7 none 3 := ⟨zT_in (i := 60) (by decide +kernel) rfl, zT_in (i := 817) (by decide +kernel) rfl, by decide +kernel, by decide⟩
theorem zv_X4_measureMiles : zYv yX4_measureMiles := ⟨zT_in (i := 815) (by decide +kernel) rfl, zT_in (i := 816) (by decide +kernel) rfl⟩
set_option maxRecDepth 20000 in
theorem zy_X4_nearestOf : zY yX4_nearestOf cX4_nearestOf 4 (some .int) 1 := ⟨zT_in (i := 60) (by decide +kernel) rfl, zT_in (i := 821) (by decide +kernel) rfl, by decide +kernel, by decide⟩
theorem zv_X4_nearestOf : zYv yX4_nearestOf := ⟨zT_in (i := 820) (by decide +kernel) rfl, zT_in (i := 21) (by decide +kernel) rfl⟩
set_option maxRecDepth 20000 in
theorem zy_X4_goOnFrom : zY yX4_goOnFrom cX4_goOnFrom 6 none 3 := ⟨zT_in (i := 60) (by decide +kernel) rfl, zT_in (i := 825) (by decide +kernel) rfl, by decide +kernel, by decide⟩
theorem zv_X4_goOnFrom : zYv yX4_goOnFrom := ⟨zT_in (i := 824) (by decide +kernel) rfl, zT_in (i := 22) (by decide +kernel) rfl⟩
set_option maxRecDepth 20000 in
theorem zy_X4_firstYear : zY yX4_firstYear cX4_firstYear 7 (some .int) 3 := ⟨zT_in (i := 60) (by decide +kernel) rfl, zT_in (i := 839) (by decide +kernel) rfl, by decide +kernel, by decide⟩
theorem zv_X4_firstYear : zYv yX4_firstYear := ⟨zT_in (i := 837) (by decide +kernel) rfl, zT_in (i := 838) (by decide +kernel) rfl⟩
set_option maxRecDepth 20000 in
theorem zy_X4_legsInAnyYear : zY yX4_legsInAnyYear cX4_legsInAnyYear 7 (some .int) 3 := ⟨zT_in (i := 60) (by decide +kernel) rfl, zT_in (i := 856) (by decide +kernel) rfl, by decide +kernel, by decide⟩
theorem zv_X4_legsInAnyYear : zYv yX4_legsInAnyYear := ⟨zT_in (i := 854) (by decide +kernel) rfl, zT_in (i := 855) (by decide +kernel) rfl⟩
set_option maxRecDepth 20000 in
theorem zy_X4_yearOfChange : zY yX4_yearOfChange cX4_yearOfChange 7 (some .int) 3 := ⟨zT_in (i := 60) (by decide +kernel) rfl, zT_in (i := 843) (by decide +kernel) rfl, by decide +kernel, by decide⟩
theorem zv_X4_yearOfChange : zYv yX4_yearOfChange := ⟨zT_in (i := 842) (by decide +kernel) rfl, zT_in (i := 23) (by decide +kernel) rfl⟩
set_option maxRecDepth 20000 in
theorem zy_X4_legsIn : zY yX4_legsIn cX4_legsIn 5 (some .int) 4 := ⟨zT_in (i := 60) (by decide +kernel) rfl, zT_in (i := 850) (by decide +kernel) rfl, by decide +kernel, by decide⟩
theorem zv_X4_legsIn : zYv yX4_legsIn := ⟨zT_in (i := 849) (by decide +kernel) rfl, zT_in (i := 24) (by decide +kernel) rfl⟩
set_option maxRecDepth 20000 in
theorem zy_X4_comeByBoat : zY yX4_comeByBoat cX4_comeByBoat 3 (some .int) 0 := ⟨zT_in (i := 60) (by decide +kernel) rfl, zT_in (i := 864) (by decide +kernel) rfl, by decide +kernel, by decide⟩
theorem zv_X4_comeByBoat : zYv yX4_comeByBoat := ⟨zT_in (i := 862) (by decide +kernel) rfl, zT_in (i := 863) (by decide +kernel) rfl⟩
set_option maxRecDepth 20000 in
theorem zy_X4_mustHaveSailed : zY yX4_mustHaveSailed cX4_mustHaveSailed 5 (some .boolean) 1 := ⟨zT_in (i := 60) (by decide +kernel) rfl, zT_in (i := 869) (by decide +kernel) rfl, by decide +kernel, by decide⟩
theorem zv_X4_mustHaveSailed : zYv yX4_mustHaveSailed := ⟨zT_in (i := 868) (by decide +kernel) rfl, zT_in (i := 25) (by decide +kernel) rfl⟩
set_option maxRecDepth 20000 in
theorem zy_X5_init : zY yX5_init cX5_init 3 none 2 := ⟨zT_in (i := 59) (by decide +kernel) rfl, zT_in (i := 290) (by decide +kernel) rfl, by decide +kernel, by decide⟩
set_option maxRecDepth 20000 in
theorem zy_X5_mayBeFrom : zY yX5_mayBeFrom cX5_mayBeFrom 2 (some .int) 1 := ⟨zT_in (i := 59) (by decide +kernel) rfl, zT_in (i := 752) (by decide +kernel) rfl, by decide +kernel, by decide⟩
theorem zv_X5_mayBeFrom : zYv yX5_mayBeFrom := ⟨zT_in (i := 750) (by decide +kernel) rfl, zT_in (i := 751) (by decide +kernel) rfl⟩
set_option maxRecDepth 20000 in
theorem zy_X5_longestRow : zY yX5_longestRow cX5_longestRow 3 (some .int) 1 := ⟨zT_in (i := 59) (by decide +kernel) rfl, zT_in (i := 776) (by decide +kernel) rfl, by decide +kernel, by decide⟩
theorem zv_X5_longestRow : zYv yX5_longestRow := ⟨zT_in (i := 774) (by decide +kernel) rfl, zT_in (i := 775) (by decide +kernel) rfl⟩
set_option maxRecDepth 20000 in
theorem zy_X5_findMayFrom : zY yX5_findMayFrom cX5_findMayFrom 4 (some .int) 1 := ⟨zT_in (i := 59) (by decide +kernel) rfl, zT_in (i := 757) (by decide +kernel) rfl, by decide +kernel, by decide⟩
theorem zv_X5_findMayFrom : zYv yX5_findMayFrom := ⟨zT_in (i := 756) (by decide +kernel) rfl, zT_in (i := 14) (by decide +kernel) rfl⟩
set_option maxRecDepth 20000 in
theorem zy_X5_isLikely : zY yX5_isLikely cX5_isLikely 3 (some .boolean) 2 := ⟨zT_in (i := 59) (by decide +kernel) rfl, zT_in (i := 762) (by decide +kernel) rfl, by decide +kernel, by decide⟩
theorem zv_X5_isLikely : zYv yX5_isLikely := ⟨zT_in (i := 761) (by decide +kernel) rfl, zT_in (i := 15) (by decide +kernel) rfl⟩
set_option maxRecDepth 20000 in
theorem zy_X5_leavesWay : zY yX5_leavesWay cX5_leavesWay 3 (some .boolean) 2 := ⟨zT_in (i := 59) (by decide +kernel) rfl, zT_in (i := 767) (by decide +kernel) rfl, by decide +kernel, by decide⟩
theorem zv_X5_leavesWay : zYv yX5_leavesWay := ⟨zT_in (i := 766) (by decide +kernel) rfl, zT_in (i := 16) (by decide +kernel) rfl⟩
set_option maxRecDepth 20000 in
theorem zy_X5_measureRows : zY yX5_measureRows cX5_measureRows 5 none 0 := ⟨zT_in (i := 59) (by decide +kernel) rfl, zT_in (i := 780) (by decide +kernel) rfl, by decide +kernel, by decide⟩
theorem zv_X5_measureRows : zYv yX5_measureRows := ⟨zT_in (i := 779) (by decide +kernel) rfl, zT_in (i := 17) (by decide +kernel) rfl⟩
set_option maxRecDepth 20000 in
theorem zy_X5_lengthFrom : zY yX5_lengthFrom cX5_lengthFrom 4 (some .int) 1 := ⟨zT_in (i := 59) (by decide +kernel) rfl, zT_in (i := 784) (by decide +kernel) rfl, by decide +kernel, by decide⟩
theorem zv_X5_lengthFrom : zYv yX5_lengthFrom := ⟨zT_in (i := 783) (by decide +kernel) rfl, zT_in (i := 18) (by decide +kernel) rfl⟩
set_option maxRecDepth 20000 in
theorem zy_X5_layRow : zY yX5_layRow cX5_layRow 4 none 0 := ⟨zT_in (i := 59) (by decide +kernel) rfl, zT_in (i := 790) (by decide +kernel) rfl, by decide +kernel, by decide⟩
theorem zv_X5_layRow : zYv yX5_layRow := ⟨zT_in (i := 789) (by decide +kernel) rfl, zT_in (i := 19) (by decide +kernel) rfl⟩
set_option maxRecDepth 20000 in
theorem zy_X5_firstBehind : zY yX5_firstBehind cX5_firstBehind 5 (some .int) 2 := ⟨zT_in (i := 59) (by decide +kernel) rfl, zT_in (i := 795) (by decide +kernel) rfl, by decide +kernel, by decide⟩
theorem zv_X5_firstBehind : zYv yX5_firstBehind := ⟨zT_in (i := 794) (by decide +kernel) rfl, zT_in (i := 20) (by decide +kernel) rfl⟩
set_option maxRecDepth 20000 in
theorem zy_X6_init : zY yX6_init cX6_init 3 none 2 := ⟨zT_in (i := 61) (by decide +kernel) rfl, zT_in (i := 336) (by decide +kernel) rfl, by decide +kernel, by decide⟩
set_option maxRecDepth 20000 in
theorem zy_X6_setCounts : zY yX6_setCounts cX6_setCounts 5 none 4 := ⟨zT_in (i := 61) (by decide +kernel) rfl, zT_in (i := 892) (by decide +kernel) rfl, by decide +kernel, by decide⟩
theorem zv_X6_setCounts : zYv yX6_setCounts := ⟨zT_in (i := 890) (by decide +kernel) rfl, zT_in (i := 891) (by decide +kernel) rfl⟩
set_option maxRecDepth 20000 in
theorem zy_X6_gather : zY yX6_gather cX6_gather 4 none 1 := ⟨zT_in (i := 61) (by decide +kernel) rfl, zT_in (i := 900) (by decide +kernel) rfl, by decide +kernel, by decide⟩
theorem zv_X6_gather : zYv yX6_gather := ⟨zT_in (i := 898) (by decide +kernel) rfl, zT_in (i := 899) (by decide +kernel) rfl⟩
set_option maxRecDepth 20000 in
theorem zy_X6_missOf : zY yX6_missOf cX6_missOf 5 (some .int) 2 := ⟨zT_in (i := 61) (by decide +kernel) rfl, zT_in (i := 906) (by decide +kernel) rfl, by decide +kernel, by decide⟩
theorem zv_X6_missOf : zYv yX6_missOf := ⟨zT_in (i := 904) (by decide +kernel) rfl, zT_in (i := 905) (by decide +kernel) rfl⟩
set_option maxRecDepth 20000 in
theorem zy_X6_shareByLaw : zY yX6_shareByLaw cX6_shareByLaw 3 (some .int) 3 := ⟨zT_in (i := 61) (by decide +kernel) rfl, zT_in (i := 909) (by decide +kernel) rfl, by decide +kernel, by decide⟩
theorem zs_X6_shareByLaw : Cond.static yX6_shareByLaw ∈ zT := zT_in (i := 908) (by decide +kernel) rfl
set_option maxRecDepth 20000 in
theorem zy_X6_best : zY yX6_best cX6_best 7 (some .int) 1 := ⟨zT_in (i := 61) (by decide +kernel) rfl, zT_in (i := 920) (by decide +kernel) rfl, by decide +kernel, by decide⟩
theorem zv_X6_best : zYv yX6_best := ⟨zT_in (i := 918) (by decide +kernel) rfl, zT_in (i := 919) (by decide +kernel) rfl⟩
set_option maxRecDepth 20000 in
theorem zy_X7_init : zY yX7_init cX7_init 1 none 0 := ⟨zT_in (i := 54) (by decide +kernel) rfl, zT_in (i := 83) (by decide +kernel) rfl, by decide +kernel, by decide⟩
set_option maxRecDepth 20000 in
theorem zy_X7_hasRoomFor : zY yX7_hasRoomFor cX7_hasRoomFor 2 (some .boolean) 1 := ⟨zT_in (i := 54) (by decide +kernel) rfl, zT_in (i := 408) (by decide +kernel) rfl, by decide +kernel, by decide⟩
theorem zv_X7_hasRoomFor : zYv yX7_hasRoomFor := ⟨zT_in (i := 406) (by decide +kernel) rfl, zT_in (i := 407) (by decide +kernel) rfl⟩
set_option maxRecDepth 20000 in
theorem zy_X7_append : zY yX7_append cX7_append 5 (some .int) 2 := ⟨zT_in (i := 54) (by decide +kernel) rfl, zT_in (i := 412) (by decide +kernel) rfl, by decide +kernel, by decide⟩
theorem zv_X7_append : zYv yX7_append := ⟨zT_in (i := 410) (by decide +kernel) rfl, zT_in (i := 411) (by decide +kernel) rfl⟩
set_option maxRecDepth 20000 in
theorem zy_X7_empty : zY yX7_empty cX7_empty 2 (some .int) 0 := ⟨zT_in (i := 54) (by decide +kernel) rfl, zT_in (i := 420) (by decide +kernel) rfl, by decide +kernel, by decide⟩
theorem zv_X7_empty : zYv yX7_empty := ⟨zT_in (i := 418) (by decide +kernel) rfl, zT_in (i := 419) (by decide +kernel) rfl⟩
set_option maxRecDepth 20000 in
theorem zy_X7_read : zY yX7_read cX7_read 2 (some .int) 0 := ⟨zT_in (i := 54) (by decide +kernel) rfl, zT_in (i := 428) (by decide +kernel) rfl, by decide +kernel, by decide⟩
theorem zv_X7_read : zYv yX7_read := ⟨zT_in (i := 426) (by decide +kernel) rfl, zT_in (i := 427) (by decide +kernel) rfl⟩
set_option maxRecDepth 20000 in
theorem zy_X7_readLine : zY yX7_readLine cX7_readLine 7 (some .boolean) 1 := ⟨zT_in (i := 54) (by decide +kernel) rfl, zT_in (i := 432) (by decide +kernel) rfl, by decide +kernel, by decide⟩
theorem zv_X7_readLine : zYv yX7_readLine := ⟨zT_in (i := 431) (by decide +kernel) rfl, zT_in (i := 0) (by decide +kernel) rfl⟩
set_option maxRecDepth 20000 in
theorem zy_X7_takeToken : zY yX7_takeToken cX7_takeToken 1 none 0 := ⟨zT_in (i := 54) (by decide +kernel) rfl, zT_in (i := 436) (by decide +kernel) rfl, by decide +kernel, by decide⟩
theorem zv_X7_takeToken : zYv yX7_takeToken := ⟨zT_in (i := 435) (by decide +kernel) rfl, zT_in (i := 1) (by decide +kernel) rfl⟩
set_option maxRecDepth 20000 in
theorem zy_X7_areOfOneToken : zY yX7_areOfOneToken cX7_areOfOneToken 2 (some .boolean) 2 := ⟨zT_in (i := 54) (by decide +kernel) rfl, zT_in (i := 442) (by decide +kernel) rfl, by decide +kernel, by decide⟩
theorem zs_X7_areOfOneToken : Cond.static yX7_areOfOneToken ∈ zT := zT_in (i := 441) (by decide +kernel) rfl
set_option maxRecDepth 20000 in
theorem zy_X7_isLetter : zY yX7_isLetter cX7_isLetter 1 (some .boolean) 1 := ⟨zT_in (i := 54) (by decide +kernel) rfl, zT_in (i := 445) (by decide +kernel) rfl, by decide +kernel, by decide⟩
theorem zs_X7_isLetter : Cond.static yX7_isLetter ∈ zT := zT_in (i := 444) (by decide +kernel) rfl
set_option maxRecDepth 20000 in
theorem zy_X7_isDigit : zY yX7_isDigit cX7_isDigit 1 (some .boolean) 1 := ⟨zT_in (i := 54) (by decide +kernel) rfl, zT_in (i := 449) (by decide +kernel) rfl, by decide +kernel, by decide⟩
theorem zs_X7_isDigit : Cond.static yX7_isDigit ∈ zT := zT_in (i := 448) (by decide +kernel) rfl
set_option maxRecDepth 20000 in
theorem zy_X7_numberOfToken : zY yX7_numberOfToken cX7_numberOfToken 3 (some .int) 0 := ⟨zT_in (i := 54) (by decide +kernel) rfl, zT_in (i := 525) (by decide +kernel) rfl, by decide +kernel, by decide⟩
theorem zv_X7_numberOfToken : zYv yX7_numberOfToken := ⟨zT_in (i := 524) (by decide +kernel) rfl, zT_in (i := 4) (by decide +kernel) rfl⟩
set_option maxRecDepth 20000 in
theorem zy_X7_kindOfToken : zY yX7_kindOfToken cX7_kindOfToken 2 (some .int) 0 := ⟨zT_in (i := 54) (by decide +kernel) rfl, zT_in (i := 453) (by decide +kernel) rfl, by decide +kernel, by decide⟩
theorem zv_X7_kindOfToken : zYv yX7_kindOfToken := ⟨zT_in (i := 452) (by decide +kernel) rfl, zT_in (i := 2) (by decide +kernel) rfl⟩
set_option maxRecDepth 20000 in
theorem zy_X7_tokenIs : zY yX7_tokenIs cX7_tokenIs 4 (some .boolean) 1 := ⟨zT_in (i := 54) (by decide +kernel) rfl, zT_in (i := 466) (by decide +kernel) rfl, by decide +kernel, by decide⟩
theorem zv_X7_tokenIs : zYv yX7_tokenIs := ⟨zT_in (i := 465) (by decide +kernel) rfl, zT_in (i := 3) (by decide +kernel) rfl⟩
set_option maxRecDepth 20000 in
theorem zy_X7_wordOf : zY yX7_wordOf cX7_wordOf 1 (some (.object "java/lang/String")) 1 := ⟨zT_in (i := 54) (by decide +kernel) rfl, zT_in (i := 456) (by decide +kernel) rfl, by decide +kernel, by decide⟩
theorem zs_X7_wordOf : Cond.static yX7_wordOf ∈ zT := zT_in (i := 455) (by decide +kernel) rfl
set_option maxRecDepth 20000 in
theorem zy_X7_formOf : zY yX7_formOf cX7_formOf 1 (some (.object "java/lang/String")) 1 := ⟨zT_in (i := 54) (by decide +kernel) rfl, zT_in (i := 517) (by decide +kernel) rfl, by decide +kernel, by decide⟩
theorem zs_X7_formOf : Cond.static yX7_formOf ∈ zT := zT_in (i := 516) (by decide +kernel) rfl
set_option maxRecDepth 20000 in
theorem zy_X7_canStand : zY yX7_canStand cX7_canStand 3 (some .boolean) 3 := ⟨zT_in (i := 54) (by decide +kernel) rfl, zT_in (i := 528) (by decide +kernel) rfl, by decide +kernel, by decide⟩
theorem zs_X7_canStand : Cond.static yX7_canStand ∈ zT := zT_in (i := 527) (by decide +kernel) rfl
set_option maxRecDepth 20000 in
theorem zy_X8_init : zY yX8_init cX8_init 4 none 3 := ⟨zT_in (i := 58) (by decide +kernel) rfl, zT_in (i := 263) (by decide +kernel) rfl, by decide +kernel, by decide⟩
set_option maxRecDepth 20000 in
theorem zy_X8_bound : zY yX8_bound cX8_bound 3 (some .int) 2 := ⟨zT_in (i := 58) (by decide +kernel) rfl, zT_in (i := 713) (by decide +kernel) rfl, by decide +kernel, by decide⟩
theorem zv_X8_bound : zYv yX8_bound := ⟨zT_in (i := 711) (by decide +kernel) rfl, zT_in (i := 712) (by decide +kernel) rfl⟩
set_option maxRecDepth 20000 in
theorem zy_X8_settle : zY yX8_settle cX8_settle 1 (some .boolean) 0 := ⟨zT_in (i := 58) (by decide +kernel) rfl, zT_in (i := 669) (by decide +kernel) rfl, by decide +kernel, by decide⟩
theorem zv_X8_settle : zYv yX8_settle := ⟨zT_in (i := 667) (by decide +kernel) rfl, zT_in (i := 668) (by decide +kernel) rfl⟩
set_option maxRecDepth 20000 in
theorem zy_X8_boundByNumbers : zY yX8_boundByNumbers cX8_boundByNumbers 6 none 0 := ⟨zT_in (i := 58) (by decide +kernel) rfl, zT_in (i := 673) (by decide +kernel) rfl, by decide +kernel, by decide⟩
theorem zv_X8_boundByNumbers : zYv yX8_boundByNumbers := ⟨zT_in (i := 671) (by decide +kernel) rfl, zT_in (i := 672) (by decide +kernel) rfl⟩
set_option maxRecDepth 20000 in
theorem zy_X8_settleWithout : zY yX8_settleWithout cX8_settleWithout 2 (some .boolean) 1 := ⟨zT_in (i := 58) (by decide +kernel) rfl, zT_in (i := 698) (by decide +kernel) rfl, by decide +kernel, by decide⟩
theorem zv_X8_settleWithout : zYv yX8_settleWithout := ⟨zT_in (i := 696) (by decide +kernel) rfl, zT_in (i := 697) (by decide +kernel) rfl⟩
set_option maxRecDepth 20000 in
theorem zy_X8_heirloomOf : zY yX8_heirloomOf cX8_heirloomOf 5 (some .int) 1 := ⟨zT_in (i := 58) (by decide +kernel) rfl, zT_in (i := 743) (by decide +kernel) rfl, by decide +kernel, by decide⟩
theorem zv_X8_heirloomOf : zYv yX8_heirloomOf := ⟨zT_in (i := 741) (by decide +kernel) rfl, zT_in (i := 742) (by decide +kernel) rfl⟩
set_option maxRecDepth 20000 in
theorem zy_X8_setOwn : zY yX8_setOwn cX8_setOwn 4 none 3 := ⟨zT_in (i := 58) (by decide +kernel) rfl, zT_in (i := 691) (by decide +kernel) rfl, by decide +kernel, by decide⟩
theorem zv_X8_setOwn : zYv yX8_setOwn := ⟨zT_in (i := 690) (by decide +kernel) rfl, zT_in (i := 6) (by decide +kernel) rfl⟩
set_option maxRecDepth 20000 in
theorem zy_X8_raise : zY yX8_raise cX8_raise 5 none 3 := ⟨zT_in (i := 58) (by decide +kernel) rfl, zT_in (i := 717) (by decide +kernel) rfl, by decide +kernel, by decide⟩
theorem zv_X8_raise : zYv yX8_raise := ⟨zT_in (i := 716) (by decide +kernel) rfl, zT_in (i := 9) (by decide +kernel) rfl⟩
set_option maxRecDepth 20000 in
theorem zy_X8_lower : zY yX8_lower cX8_lower 5 none 3 := ⟨zT_in (i := 58) (by decide +kernel) rfl, zT_in (i := 729) (by decide +kernel) rfl, by decide +kernel, by decide⟩
theorem zv_X8_lower : zYv yX8_lower := ⟨zT_in (i := 728) (by decide +kernel) rfl, zT_in (i := 12) (by decide +kernel) rfl⟩
set_option maxRecDepth 20000 in
theorem zy_X8_rimFirst : zY yX8_rimFirst cX8_rimFirst 2 (some .int) 2 := ⟨zT_in (i := 58) (by decide +kernel) rfl, zT_in (i := 685) (by decide +kernel) rfl, by decide +kernel, by decide⟩
theorem zs_X8_rimFirst : Cond.static yX8_rimFirst ∈ zT := zT_in (i := 684) (by decide +kernel) rfl
set_option maxRecDepth 20000 in
theorem zy_X8_rimLast : zY yX8_rimLast cX8_rimLast 2 (some .int) 2 := ⟨zT_in (i := 58) (by decide +kernel) rfl, zT_in (i := 694) (by decide +kernel) rfl, by decide +kernel, by decide⟩
theorem zs_X8_rimLast : Cond.static yX8_rimLast ∈ zT := zT_in (i := 693) (by decide +kernel) rfl
set_option maxRecDepth 20000 in
theorem zy_X8_above : zY yX8_above cX8_above 3 (some .int) 2 := ⟨zT_in (i := 58) (by decide +kernel) rfl, zT_in (i := 709) (by decide +kernel) rfl, by decide +kernel, by decide⟩
theorem zv_X8_above : zYv yX8_above := ⟨zT_in (i := 708) (by decide +kernel) rfl, zT_in (i := 8) (by decide +kernel) rfl⟩
set_option maxRecDepth 20000 in
theorem zy_X8_raiseStruck : zY yX8_raiseStruck cX8_raiseStruck 5 none 1 := ⟨zT_in (i := 58) (by decide +kernel) rfl, zT_in (i := 705) (by decide +kernel) rfl, by decide +kernel, by decide⟩
theorem zv_X8_raiseStruck : zYv yX8_raiseStruck := ⟨zT_in (i := 704) (by decide +kernel) rfl, zT_in (i := 7) (by decide +kernel) rfl⟩
set_option maxRecDepth 20000 in
theorem zy_X8_raiseLaid : zY yX8_raiseLaid cX8_raiseLaid 4 none 0 := ⟨zT_in (i := 58) (by decide +kernel) rfl, zT_in (i := 721) (by decide +kernel) rfl, by decide +kernel, by decide⟩
theorem zv_X8_raiseLaid : zYv yX8_raiseLaid := ⟨zT_in (i := 720) (by decide +kernel) rfl, zT_in (i := 10) (by decide +kernel) rfl⟩
set_option maxRecDepth 20000 in
theorem zy_X8_lowerStruck : zY yX8_lowerStruck cX8_lowerStruck 5 none 1 := ⟨zT_in (i := 58) (by decide +kernel) rfl, zT_in (i := 725) (by decide +kernel) rfl, by decide +kernel, by decide⟩
theorem zv_X8_lowerStruck : zYv yX8_lowerStruck := ⟨zT_in (i := 724) (by decide +kernel) rfl, zT_in (i := 11) (by decide +kernel) rfl⟩
set_option maxRecDepth 20000 in
theorem zy_X8_hasWay : zY yX8_hasWay cX8_hasWay 3 (some .boolean) 0 := ⟨zT_in (i := 58) (by decide +kernel) rfl, zT_in (i := 734) (by decide +kernel) rfl, by decide +kernel, by decide⟩
theorem zv_X8_hasWay : zYv yX8_hasWay := ⟨zT_in (i := 733) (by decide +kernel) rfl, zT_in (i := 13) (by decide +kernel) rfl⟩
set_option maxRecDepth 20000 in
theorem zy_X9_init : zY yX9_init cX9_init 1 none 0 := ⟨zT_in (i := 53) (by decide +kernel) rfl, zT_in (i := 75) (by decide +kernel) rfl, by decide +kernel, by decide⟩
set_option maxRecDepth 20000 in
theorem zy_X9_write : zY yX9_write cX9_write 4 (some .int) 2 := ⟨zT_in (i := 53) (by decide +kernel) rfl, zT_in (i := 401) (by decide +kernel) rfl, by decide +kernel, by decide⟩
theorem zv_X9_write : zYv yX9_write := ⟨zT_in (i := 399) (by decide +kernel) rfl, zT_in (i := 400) (by decide +kernel) rfl⟩
set_option maxRecDepth 20000 in
theorem zy_X9_erase : zY yX9_erase cX9_erase 1 (some .int) 0 := ⟨zT_in (i := 53) (by decide +kernel) rfl, zT_in (i := 416) (by decide +kernel) rfl, by decide +kernel, by decide⟩
theorem zv_X9_erase : zYv yX9_erase := ⟨zT_in (i := 414) (by decide +kernel) rfl, zT_in (i := 415) (by decide +kernel) rfl⟩
set_option maxRecDepth 20000 in
theorem zy_X9_fault : zY yX9_fault cX9_fault 1 (some .int) 0 := ⟨zT_in (i := 53) (by decide +kernel) rfl, zT_in (i := 424) (by decide +kernel) rfl, by decide +kernel, by decide⟩
theorem zv_X9_fault : zYv yX9_fault := ⟨zT_in (i := 422) (by decide +kernel) rfl, zT_in (i := 423) (by decide +kernel) rfl⟩
set_option maxRecDepth 20000 in
theorem zy_X9_land : zY yX9_land cX9_land 3 (some .int) 0 := ⟨zT_in (i := 53) (by decide +kernel) rfl, zT_in (i := 536) (by decide +kernel) rfl, by decide +kernel, by decide⟩
theorem zv_X9_land : zYv yX9_land := ⟨zT_in (i := 534) (by decide +kernel) rfl, zT_in (i := 535) (by decide +kernel) rfl⟩
set_option maxRecDepth 20000 in
theorem zy_X9_place : zY yX9_place cX9_place 3 (some .int) 2 := ⟨zT_in (i := 53) (by decide +kernel) rfl, zT_in (i := 551) (by decide +kernel) rfl, by decide +kernel, by decide⟩
theorem zv_X9_place : zYv yX9_place := ⟨zT_in (i := 549) (by decide +kernel) rfl, zT_in (i := 550) (by decide +kernel) rfl⟩
set_option maxRecDepth 20000 in
theorem zy_X9_flow : zY yX9_flow cX9_flow 3 (some .int) 2 := ⟨zT_in (i := 53) (by decide +kernel) rfl, zT_in (i := 556) (by decide +kernel) rfl, by decide +kernel, by decide⟩
theorem zv_X9_flow : zYv yX9_flow := ⟨zT_in (i := 554) (by decide +kernel) rfl, zT_in (i := 555) (by decide +kernel) rfl⟩
set_option maxRecDepth 20000 in
theorem zy_X9_way : zY yX9_way cX9_way 4 (some .int) 3 := ⟨zT_in (i := 53) (by decide +kernel) rfl, zT_in (i := 565) (by decide +kernel) rfl, by decide +kernel, by decide⟩
theorem zv_X9_way : zYv yX9_way := ⟨zT_in (i := 563) (by decide +kernel) rfl, zT_in (i := 564) (by decide +kernel) rfl⟩
set_option maxRecDepth 20000 in
theorem zy_X9_blade : zY yX9_blade cX9_blade 7 (some .int) 5 := ⟨zT_in (i := 53) (by decide +kernel) rfl, zT_in (i := 569) (by decide +kernel) rfl, by decide +kernel, by decide⟩
theorem zv_X9_blade : zYv yX9_blade := ⟨zT_in (i := 567) (by decide +kernel) rfl, zT_in (i := 568) (by decide +kernel) rfl⟩
set_option maxRecDepth 20000 in
theorem zy_X9_rim : zY yX9_rim cX9_rim 5 (some .int) 3 := ⟨zT_in (i := 53) (by decide +kernel) rfl, zT_in (i := 588) (by decide +kernel) rfl, by decide +kernel, by decide⟩
theorem zv_X9_rim : zYv yX9_rim := ⟨zT_in (i := 586) (by decide +kernel) rfl, zT_in (i := 587) (by decide +kernel) rfl⟩
set_option maxRecDepth 20000 in
theorem zy_X9_measure : zY yX9_measure cX9_measure 5 (some .int) 3 := ⟨zT_in (i := 53) (by decide +kernel) rfl, zT_in (i := 597) (by decide +kernel) rfl, by decide +kernel, by decide⟩
theorem zv_X9_measure : zYv yX9_measure := ⟨zT_in (i := 595) (by decide +kernel) rfl, zT_in (i := 596) (by decide +kernel) rfl⟩
set_option maxRecDepth 20000 in
theorem zy_X9_of : zY yX9_of cX9_of 3 (some .int) 2 := ⟨zT_in (i := 53) (by decide +kernel) rfl, zT_in (i := 601) (by decide +kernel) rfl, by decide +kernel, by decide⟩
theorem zv_X9_of : zYv yX9_of := ⟨zT_in (i := 599) (by decide +kernel) rfl, zT_in (i := 600) (by decide +kernel) rfl⟩
set_option maxRecDepth 20000 in
theorem zy_X9_off : zY yX9_off cX9_off 3 (some .int) 2 := ⟨zT_in (i := 53) (by decide +kernel) rfl, zT_in (i := 605) (by decide +kernel) rfl, by decide +kernel, by decide⟩
theorem zv_X9_off : zYv yX9_off := ⟨zT_in (i := 603) (by decide +kernel) rfl, zT_in (i := 604) (by decide +kernel) rfl⟩
set_option maxRecDepth 20000 in
theorem zy_X9_can : zY yX9_can cX9_can 2 (some .int) 1 := ⟨zT_in (i := 53) (by decide +kernel) rfl, zT_in (i := 622) (by decide +kernel) rfl, by decide +kernel, by decide⟩
theorem zv_X9_can : zYv yX9_can := ⟨zT_in (i := 620) (by decide +kernel) rfl, zT_in (i := 621) (by decide +kernel) rfl⟩
set_option maxRecDepth 20000 in
theorem zy_X9_named : zY yX9_named cX9_named 2 (some .int) 1 := ⟨zT_in (i := 53) (by decide +kernel) rfl, zT_in (i := 631) (by decide +kernel) rfl, by decide +kernel, by decide⟩
theorem zv_X9_named : zYv yX9_named := ⟨zT_in (i := 629) (by decide +kernel) rfl, zT_in (i := 630) (by decide +kernel) rfl⟩
set_option maxRecDepth 20000 in
theorem zy_X9_strike : zY yX9_strike cX9_strike 3 (some .int) 2 := ⟨zT_in (i := 53) (by decide +kernel) rfl, zT_in (i := 649) (by decide +kernel) rfl, by decide +kernel, by decide⟩
theorem zv_X9_strike : zYv yX9_strike := ⟨zT_in (i := 647) (by decide +kernel) rfl, zT_in (i := 648) (by decide +kernel) rfl⟩
set_option maxRecDepth 20000 in
theorem zy_X9_undo : zY yX9_undo cX9_undo 3 (some .int) 1 := ⟨zT_in (i := 53) (by decide +kernel) rfl, zT_in (i := 657) (by decide +kernel) rfl, by decide +kernel, by decide⟩
theorem zv_X9_undo : zYv yX9_undo := ⟨zT_in (i := 655) (by decide +kernel) rfl, zT_in (i := 656) (by decide +kernel) rfl⟩
set_option maxRecDepth 20000 in
theorem zy_X9_span : zY yX9_span cX9_span 4 (some .int) 2 := ⟨zT_in (i := 53) (by decide +kernel) rfl, zT_in (i := 661) (by decide +kernel) rfl, by decide +kernel, by decide⟩
theorem zv_X9_span : zYv yX9_span := ⟨zT_in (i := 659) (by decide +kernel) rfl, zT_in (i := 660) (by decide +kernel) rfl⟩
set_option maxRecDepth 20000 in
theorem zy_X9_heirloom : zY yX9_heirloom cX9_heirloom 2 (some .int) 1 := ⟨zT_in (i := 53) (by decide +kernel) rfl, zT_in (i := 739) (by decide +kernel) rfl, by decide +kernel, by decide⟩
theorem zv_X9_heirloom : zYv yX9_heirloom := ⟨zT_in (i := 737) (by decide +kernel) rfl, zT_in (i := 738) (by decide +kernel) rfl⟩
set_option maxRecDepth 20000 in
theorem zy_X9_from : zY yX9_from cX9_from 2 (some .int) 1 := ⟨zT_in (i := 53) (by decide +kernel) rfl, zT_in (i := 748) (by decide +kernel) rfl, by decide +kernel, by decide⟩
theorem zv_X9_from : zYv yX9_from := ⟨zT_in (i := 746) (by decide +kernel) rfl, zT_in (i := 747) (by decide +kernel) rfl⟩
set_option maxRecDepth 20000 in
theorem zy_X9_chain : zY yX9_chain cX9_chain 2 (some .int) 1 := ⟨zT_in (i := 53) (by decide +kernel) rfl, zT_in (i := 772) (by decide +kernel) rfl, by decide +kernel, by decide⟩
theorem zv_X9_chain : zYv yX9_chain := ⟨zT_in (i := 770) (by decide +kernel) rfl, zT_in (i := 771) (by decide +kernel) rfl⟩
set_option maxRecDepth 20000 in
theorem zy_X9_legs : zY yX9_legs cX9_legs 9 (some .int) 5 := ⟨zT_in (i := 53) (by decide +kernel) rfl, zT_in (i := 800) (by decide +kernel) rfl, by decide +kernel, by decide⟩
theorem zv_X9_legs : zYv yX9_legs := ⟨zT_in (i := 798) (by decide +kernel) rfl, zT_in (i := 799) (by decide +kernel) rfl⟩
set_option maxRecDepth 20000 in
theorem zy_X9_reach : zY yX9_reach cX9_reach 5 (some .int) 4 := ⟨zT_in (i := 53) (by decide +kernel) rfl, zT_in (i := 835) (by decide +kernel) rfl, by decide +kernel, by decide⟩
theorem zv_X9_reach : zYv yX9_reach := ⟨zT_in (i := 833) (by decide +kernel) rfl, zT_in (i := 834) (by decide +kernel) rfl⟩
set_option maxRecDepth 20000 in
theorem zy_X9_boats : zY yX9_boats cX9_boats 1 (some .int) 0 := ⟨zT_in (i := 53) (by decide +kernel) rfl, zT_in (i := 860) (by decide +kernel) rfl, by decide +kernel, by decide⟩
theorem zv_X9_boats : zYv yX9_boats := ⟨zT_in (i := 858) (by decide +kernel) rfl, zT_in (i := 859) (by decide +kernel) rfl⟩
set_option maxRecDepth 20000 in
theorem zy_X9_sea : zY yX9_sea cX9_sea 4 (some .int) 0 := ⟨zT_in (i := 53) (by decide +kernel) rfl, zT_in (i := 874) (by decide +kernel) rfl, by decide +kernel, by decide⟩
theorem zv_X9_sea : zYv yX9_sea := ⟨zT_in (i := 872) (by decide +kernel) rfl, zT_in (i := 873) (by decide +kernel) rfl⟩
set_option maxRecDepth 20000 in
theorem zy_X9_next : zY yX9_next cX9_next 1 (some .int) 0 := ⟨zT_in (i := 53) (by decide +kernel) rfl, zT_in (i := 880) (by decide +kernel) rfl, by decide +kernel, by decide⟩
theorem zv_X9_next : zYv yX9_next := ⟨zT_in (i := 878) (by decide +kernel) rfl, zT_in (i := 879) (by decide +kernel) rfl⟩
set_option maxRecDepth 20000 in
theorem zy_X9_counts : zY yX9_counts cX9_counts 5 (some .int) 4 := ⟨zT_in (i := 53) (by decide +kernel) rfl, zT_in (i := 888) (by decide +kernel) rfl, by decide +kernel, by decide⟩
theorem zv_X9_counts : zYv yX9_counts := ⟨zT_in (i := 886) (by decide +kernel) rfl, zT_in (i := 887) (by decide +kernel) rfl⟩
set_option maxRecDepth 20000 in
theorem zy_X9_miss : zY yX9_miss cX9_miss 4 (some .int) 3 := ⟨zT_in (i := 53) (by decide +kernel) rfl, zT_in (i := 896) (by decide +kernel) rfl, by decide +kernel, by decide⟩
theorem zv_X9_miss : zYv yX9_miss := ⟨zT_in (i := 894) (by decide +kernel) rfl, zT_in (i := 895) (by decide +kernel) rfl⟩
set_option maxRecDepth 20000 in
theorem zy_X9_law : zY yX9_law cX9_law 3 (some .int) 2 := ⟨zT_in (i := 53) (by decide +kernel) rfl, zT_in (i := 916) (by decide +kernel) rfl, by decide +kernel, by decide⟩
theorem zv_X9_law : zYv yX9_law := ⟨zT_in (i := 914) (by decide +kernel) rfl, zT_in (i := 915) (by decide +kernel) rfl⟩
set_option maxRecDepth 20000 in
theorem zy_X9_dated : zY yX9_dated cX9_dated 3 (some .int) 2 := ⟨zT_in (i := 53) (by decide +kernel) rfl, zT_in (i := 925) (by decide +kernel) rfl, by decide +kernel, by decide⟩
theorem zv_X9_dated : zYv yX9_dated := ⟨zT_in (i := 923) (by decide +kernel) rfl, zT_in (i := 924) (by decide +kernel) rfl⟩
set_option maxRecDepth 20000 in
theorem zy_X9_learnt : zY yX9_learnt cX9_learnt 3 (some .int) 2 := ⟨zT_in (i := 53) (by decide +kernel) rfl, zT_in (i := 929) (by decide +kernel) rfl, by decide +kernel, by decide⟩
theorem zv_X9_learnt : zYv yX9_learnt := ⟨zT_in (i := 927) (by decide +kernel) rfl, zT_in (i := 928) (by decide +kernel) rfl⟩
set_option maxRecDepth 20000 in
theorem zy_X9_count : zY yX9_count cX9_count 2 (some .int) 1 := ⟨zT_in (i := 53) (by decide +kernel) rfl, zT_in (i := 946) (by decide +kernel) rfl, by decide +kernel, by decide⟩
theorem zv_X9_count : zYv yX9_count := ⟨zT_in (i := 944) (by decide +kernel) rfl, zT_in (i := 945) (by decide +kernel) rfl⟩
set_option maxRecDepth 20000 in
theorem zy_X9_isPlace : zY yX9_isPlace cX9_isPlace 1 (some .boolean) 1 := ⟨zT_in (i := 53) (by decide +kernel) rfl, zT_in (i := 531) (by decide +kernel) rfl, by decide +kernel, by decide⟩
theorem zs_X9_isPlace : Cond.static yX9_isPlace ∈ zT := zT_in (i := 530) (by decide +kernel) rfl
set_option maxRecDepth 20000 in
theorem zy_X9_areMeasured : zY yX9_areMeasured cX9_areMeasured 4 (some .boolean) 2 := ⟨zT_in (i := 53) (by decide +kernel) rfl, zT_in (i := 572) (by decide +kernel) rfl, by decide +kernel, by decide⟩
theorem zs_X9_areMeasured : Cond.static yX9_areMeasured ∈ zT := zT_in (i := 571) (by decide +kernel) rfl
set_option maxRecDepth 20000 in
theorem zy_X9_numberAt : zY yX9_numberAt cX9_numberAt 2 (some .int) 2 := ⟨zT_in (i := 53) (by decide +kernel) rfl, zT_in (i := 575) (by decide +kernel) rfl, by decide +kernel, by decide⟩
theorem zs_X9_numberAt : Cond.static yX9_numberAt ∈ zT := zT_in (i := 574) (by decide +kernel) rfl
set_option maxRecDepth 20000 in
theorem zy_X9_isWithin : zY yX9_isWithin cX9_isWithin 3 (some .boolean) 3 := ⟨zT_in (i := 53) (by decide +kernel) rfl, zT_in (i := 404) (by decide +kernel) rfl, by decide +kernel, by decide⟩
theorem zs_X9_isWithin : Cond.static yX9_isWithin ∈ zT := zT_in (i := 403) (by decide +kernel) rfl
set_option maxRecDepth 20000 in
theorem zy_X9_hasBit : zY yX9_hasBit cX9_hasBit 2 (some .boolean) 2 := ⟨zT_in (i := 53) (by decide +kernel) rfl, zT_in (i := 645) (by decide +kernel) rfl, by decide +kernel, by decide⟩
theorem zs_X9_hasBit : Cond.static yX9_hasBit ∈ zT := zT_in (i := 644) (by decide +kernel) rfl
set_option maxRecDepth 20000 in
theorem zy_X9_cut : zY yX9_cut cX9_cut 2 (some .int) 2 := ⟨zT_in (i := 53) (by decide +kernel) rfl, zT_in (i := 618) (by decide +kernel) rfl, by decide +kernel, by decide⟩
theorem zs_X9_cut : Cond.static yX9_cut ∈ zT := zT_in (i := 617) (by decide +kernel) rfl
set_option maxRecDepth 20000 in
theorem zy_X9_lesser : zY yX9_lesser cX9_lesser 2 (some .int) 2 := ⟨zT_in (i := 53) (by decide +kernel) rfl, zT_in (i := 681) (by decide +kernel) rfl, by decide +kernel, by decide⟩
theorem zs_X9_lesser : Cond.static yX9_lesser ∈ zT := zT_in (i := 680) (by decide +kernel) rfl
set_option maxRecDepth 20000 in
theorem zy_X10_init : zY yX10_init cX10_init 2 none 0 := ⟨zT_in (i := 63) (by decide +kernel) rfl, zT_in (i := 959) (by decide +kernel) rfl, by decide +kernel, by decide⟩
set_option maxRecDepth 20000 in
theorem zy_X10_in : zY yX10_in cX10_in 3 (some .boolean) 3 := ⟨zT_in (i := 63) (by decide +kernel) rfl, zT_in (i := 1058) (by decide +kernel) rfl, by decide +kernel, by decide⟩
theorem zs_X10_in : Cond.static yX10_in ∈ zT := zT_in (i := 1057) (by decide +kernel) rfl
set_option maxRecDepth 20000 in
theorem zy_X10_isPlace : zY yX10_isPlace cX10_isPlace 1 (some .boolean) 1 := ⟨zT_in (i := 63) (by decide +kernel) rfl, zT_in (i := 1118) (by decide +kernel) rfl, by decide +kernel, by decide⟩
theorem zs_X10_isPlace : Cond.static yX10_isPlace ∈ zT := zT_in (i := 1117) (by decide +kernel) rfl
set_option maxRecDepth 20000 in
theorem zy_X10_isFlow : zY yX10_isFlow cX10_isFlow 2 (some .boolean) 1 := ⟨zT_in (i := 63) (by decide +kernel) rfl, zT_in (i := 1126) (by decide +kernel) rfl, by decide +kernel, by decide⟩
theorem zv_X10_isFlow : zYv yX10_isFlow := ⟨zT_in (i := 1125) (by decide +kernel) rfl, zT_in (i := 33) (by decide +kernel) rfl⟩
set_option maxRecDepth 20000 in
theorem zy_X10_isBlade : zY yX10_isBlade cX10_isBlade 2 (some .boolean) 1 := ⟨zT_in (i := 63) (by decide +kernel) rfl, zT_in (i := 1149) (by decide +kernel) rfl, by decide +kernel, by decide⟩
theorem zv_X10_isBlade : zYv yX10_isBlade := ⟨zT_in (i := 1148) (by decide +kernel) rfl, zT_in (i := 35) (by decide +kernel) rfl⟩
set_option maxRecDepth 20000 in
theorem zy_X10_at : zY yX10_at cX10_at 3 (some .int) 2 := ⟨zT_in (i := 63) (by decide +kernel) rfl, zT_in (i := 1157) (by decide +kernel) rfl, by decide +kernel, by decide⟩
theorem zv_X10_at : zYv yX10_at := ⟨zT_in (i := 1156) (by decide +kernel) rfl, zT_in (i := 36) (by decide +kernel) rfl⟩
set_option maxRecDepth 20000 in
theorem zy_X10_write : zY yX10_write cX10_write 5 (some .int) 2 := ⟨zT_in (i := 63) (by decide +kernel) rfl, zT_in (i := 1055) (by decide +kernel) rfl, by decide +kernel, by decide⟩
theorem zv_X10_write : zYv yX10_write := ⟨zT_in (i := 1053) (by decide +kernel) rfl, zT_in (i := 1054) (by decide +kernel) rfl⟩
set_option maxRecDepth 20000 in
theorem zy_X10_erase : zY yX10_erase cX10_erase 2 (some .int) 0 := ⟨zT_in (i := 63) (by decide +kernel) rfl, zT_in (i := 1063) (by decide +kernel) rfl, by decide +kernel, by decide⟩
theorem zv_X10_erase : zYv yX10_erase := ⟨zT_in (i := 1061) (by decide +kernel) rfl, zT_in (i := 1062) (by decide +kernel) rfl⟩
set_option maxRecDepth 20000 in
theorem zy_X10_nextToken : zY yX10_nextToken cX10_nextToken 1 none 0 := ⟨zT_in (i := 63) (by decide +kernel) rfl, zT_in (i := 1079) (by decide +kernel) rfl, by decide +kernel, by decide⟩
theorem zv_X10_nextToken : zYv yX10_nextToken := ⟨zT_in (i := 1078) (by decide +kernel) rfl, zT_in (i := 28) (by decide +kernel) rfl⟩
set_option maxRecDepth 20000 in
theorem zy_X10_fails : zY yX10_fails cX10_fails 1 (some .boolean) 0 := ⟨zT_in (i := 63) (by decide +kernel) rfl, zT_in (i := 1099) (by decide +kernel) rfl, by decide +kernel, by decide⟩
theorem zv_X10_fails : zYv yX10_fails := ⟨zT_in (i := 1098) (by decide +kernel) rfl, zT_in (i := 30) (by decide +kernel) rfl⟩
set_option maxRecDepth 20000 in
theorem zy_X10_isNumber : zY yX10_isNumber cX10_isNumber 4 (some .boolean) 3 := ⟨zT_in (i := 63) (by decide +kernel) rfl, zT_in (i := 1095) (by decide +kernel) rfl, by decide +kernel, by decide⟩
theorem zv_X10_isNumber : zYv yX10_isNumber := ⟨zT_in (i := 1094) (by decide +kernel) rfl, zT_in (i := 29) (by decide +kernel) rfl⟩
set_option maxRecDepth 20000 in
theorem zy_X10_isWay : zY yX10_isWay cX10_isWay 2 (some .boolean) 1 := ⟨zT_in (i := 63) (by decide +kernel) rfl, zT_in (i := 1103) (by decide +kernel) rfl, by decide +kernel, by decide⟩
theorem zv_X10_isWay : zYv yX10_isWay := ⟨zT_in (i := 1102) (by decide +kernel) rfl, zT_in (i := 31) (by decide +kernel) rfl⟩
set_option maxRecDepth 20000 in
theorem zy_X10_isLine : zY yX10_isLine cX10_isLine 2 (some .boolean) 1 := ⟨zT_in (i := 63) (by decide +kernel) rfl, zT_in (i := 1075) (by decide +kernel) rfl, by decide +kernel, by decide⟩
theorem zv_X10_isLine : zYv yX10_isLine := ⟨zT_in (i := 1074) (by decide +kernel) rfl, zT_in (i := 27) (by decide +kernel) rfl⟩
set_option maxRecDepth 20000 in
theorem zy_X10_isRead : zY yX10_isRead cX10_isRead 2 (some .boolean) 0 := ⟨zT_in (i := 63) (by decide +kernel) rfl, zT_in (i := 1071) (by decide +kernel) rfl, by decide +kernel, by decide⟩
theorem zv_X10_isRead : zYv yX10_isRead := ⟨zT_in (i := 1070) (by decide +kernel) rfl, zT_in (i := 26) (by decide +kernel) rfl⟩
set_option maxRecDepth 20000 in
theorem zy_X10_fault : zY yX10_fault cX10_fault 1 (some .int) 0 := ⟨zT_in (i := 63) (by decide +kernel) rfl, zT_in (i := 1067) (by decide +kernel) rfl, by decide +kernel, by decide⟩
theorem zv_X10_fault : zYv yX10_fault := ⟨zT_in (i := 1065) (by decide +kernel) rfl, zT_in (i := 1066) (by decide +kernel) rfl⟩
set_option maxRecDepth 20000 in
theorem zy_X10_doLine : zY yX10_doLine cX10_doLine 5 none 1 := ⟨zT_in (i := 63) (by decide +kernel) rfl, zT_in (i := 1111) (by decide +kernel) rfl, by decide +kernel, by decide⟩
theorem zv_X10_doLine : zYv yX10_doLine := ⟨zT_in (i := 1110) (by decide +kernel) rfl, zT_in (i := 32) (by decide +kernel) rfl⟩
set_option maxRecDepth 20000 in
theorem zy_X10_land : zY yX10_land cX10_land 2 (some .int) 0 := ⟨zT_in (i := 63) (by decide +kernel) rfl, zT_in (i := 1107) (by decide +kernel) rfl, by decide +kernel, by decide⟩
theorem zv_X10_land : zYv yX10_land := ⟨zT_in (i := 1105) (by decide +kernel) rfl, zT_in (i := 1106) (by decide +kernel) rfl⟩
set_option maxRecDepth 20000 in
theorem zy_X10_place : zY yX10_place cX10_place 3 (some .int) 2 := ⟨zT_in (i := 63) (by decide +kernel) rfl, zT_in (i := 1115) (by decide +kernel) rfl, by decide +kernel, by decide⟩
theorem zv_X10_place : zYv yX10_place := ⟨zT_in (i := 1113) (by decide +kernel) rfl, zT_in (i := 1114) (by decide +kernel) rfl⟩
set_option maxRecDepth 20000 in
theorem zy_X10_flow : zY yX10_flow cX10_flow 3 (some .int) 2 := ⟨zT_in (i := 63) (by decide +kernel) rfl, zT_in (i := 1122) (by decide +kernel) rfl, by decide +kernel, by decide⟩
theorem zv_X10_flow : zYv yX10_flow := ⟨zT_in (i := 1120) (by decide +kernel) rfl, zT_in (i := 1121) (by decide +kernel) rfl⟩
set_option maxRecDepth 20000 in
theorem zy_X10_way : zY yX10_way cX10_way 4 (some .int) 3 := ⟨zT_in (i := 63) (by decide +kernel) rfl, zT_in (i := 1130) (by decide +kernel) rfl, by decide +kernel, by decide⟩
theorem zv_X10_way : zYv yX10_way := ⟨zT_in (i := 1128) (by decide +kernel) rfl, zT_in (i := 1129) (by decide +kernel) rfl⟩
set_option maxRecDepth 20000 in
theorem zy_X10_areNumbers : zY yX10_areNumbers cX10_areNumbers 1 (some .boolean) 1 := ⟨zT_in (i := 63) (by decide +kernel) rfl, zT_in (i := 1137) (by decide +kernel) rfl, by decide +kernel, by decide⟩
theorem zs_X10_areNumbers : Cond.static yX10_areNumbers ∈ zT := zT_in (i := 1136) (by decide +kernel) rfl
set_option maxRecDepth 20000 in
theorem zy_X10_layNumbers : zY yX10_layNumbers cX10_layNumbers 5 none 3 := ⟨zT_in (i := 63) (by decide +kernel) rfl, zT_in (i := 1141) (by decide +kernel) rfl, by decide +kernel, by decide⟩
theorem zv_X10_layNumbers : zYv yX10_layNumbers := ⟨zT_in (i := 1140) (by decide +kernel) rfl, zT_in (i := 34) (by decide +kernel) rfl⟩
set_option maxRecDepth 20000 in
theorem zy_X10_blade : zY yX10_blade cX10_blade 7 (some .int) 5 := ⟨zT_in (i := 63) (by decide +kernel) rfl, zT_in (i := 1134) (by decide +kernel) rfl, by decide +kernel, by decide⟩
theorem zv_X10_blade : zYv yX10_blade := ⟨zT_in (i := 1132) (by decide +kernel) rfl, zT_in (i := 1133) (by decide +kernel) rfl⟩
set_option maxRecDepth 20000 in
theorem zy_X10_rim : zY yX10_rim cX10_rim 4 (some .int) 3 := ⟨zT_in (i := 63) (by decide +kernel) rfl, zT_in (i := 1145) (by decide +kernel) rfl, by decide +kernel, by decide⟩
theorem zv_X10_rim : zYv yX10_rim := ⟨zT_in (i := 1143) (by decide +kernel) rfl, zT_in (i := 1144) (by decide +kernel) rfl⟩
set_option maxRecDepth 20000 in
theorem zy_X10_measure : zY yX10_measure cX10_measure 5 (some .int) 3 := ⟨zT_in (i := 63) (by decide +kernel) rfl, zT_in (i := 1153) (by decide +kernel) rfl, by decide +kernel, by decide⟩
theorem zv_X10_measure : zYv yX10_measure := ⟨zT_in (i := 1151) (by decide +kernel) rfl, zT_in (i := 1152) (by decide +kernel) rfl⟩
set_option maxRecDepth 20000 in
theorem zy_X10_of : zY yX10_of cX10_of 3 (some .int) 2 := ⟨zT_in (i := 63) (by decide +kernel) rfl, zT_in (i := 1161) (by decide +kernel) rfl, by decide +kernel, by decide⟩
theorem zv_X10_of : zYv yX10_of := ⟨zT_in (i := 1159) (by decide +kernel) rfl, zT_in (i := 1160) (by decide +kernel) rfl⟩
set_option maxRecDepth 20000 in
theorem zy_X10_offOf : zY yX10_offOf cX10_offOf 7 (some .int) 2 := ⟨zT_in (i := 63) (by decide +kernel) rfl, zT_in (i := 1169) (by decide +kernel) rfl, by decide +kernel, by decide⟩
theorem zv_X10_offOf : zYv yX10_offOf := ⟨zT_in (i := 1168) (by decide +kernel) rfl, zT_in (i := 37) (by decide +kernel) rfl⟩
set_option maxRecDepth 20000 in
theorem zy_X10_off : zY yX10_off cX10_off 3 (some .int) 2 := ⟨zT_in (i := 63) (by decide +kernel) rfl, zT_in (i := 1165) (by decide +kernel) rfl, by decide +kernel, by decide⟩
theorem zv_X10_off : zYv yX10_off := ⟨zT_in (i := 1163) (by decide +kernel) rfl, zT_in (i := 1164) (by decide +kernel) rfl⟩
set_option maxRecDepth 20000 in
theorem zy_X10_canBe : zY yX10_canBe cX10_canBe 4 (some .int) 1 := ⟨zT_in (i := 63) (by decide +kernel) rfl, zT_in (i := 1177) (by decide +kernel) rfl, by decide +kernel, by decide⟩
theorem zv_X10_canBe : zYv yX10_canBe := ⟨zT_in (i := 1176) (by decide +kernel) rfl, zT_in (i := 38) (by decide +kernel) rfl⟩
set_option maxRecDepth 20000 in
theorem zy_X10_can : zY yX10_can cX10_can 2 (some .int) 1 := ⟨zT_in (i := 63) (by decide +kernel) rfl, zT_in (i := 1173) (by decide +kernel) rfl, by decide +kernel, by decide⟩
theorem zv_X10_can : zYv yX10_can := ⟨zT_in (i := 1171) (by decide +kernel) rfl, zT_in (i := 1172) (by decide +kernel) rfl⟩
set_option maxRecDepth 20000 in
theorem zy_X10_bits : zY yX10_bits cX10_bits 3 (some .int) 1 := ⟨zT_in (i := 63) (by decide +kernel) rfl, zT_in (i := 1184) (by decide +kernel) rfl, by decide +kernel, by decide⟩
theorem zs_X10_bits : Cond.static yX10_bits ∈ zT := zT_in (i := 1183) (by decide +kernel) rfl
set_option maxRecDepth 20000 in
theorem zy_X10_named : zY yX10_named cX10_named 5 (some .int) 1 := ⟨zT_in (i := 63) (by decide +kernel) rfl, zT_in (i := 1181) (by decide +kernel) rfl, by decide +kernel, by decide⟩
theorem zv_X10_named : zYv yX10_named := ⟨zT_in (i := 1179) (by decide +kernel) rfl, zT_in (i := 1180) (by decide +kernel) rfl⟩
set_option maxRecDepth 20000 in
theorem zy_X10_isFrom : zY yX10_isFrom cX10_isFrom 4 (some .boolean) 2 := ⟨zT_in (i := 63) (by decide +kernel) rfl, zT_in (i := 1192) (by decide +kernel) rfl, by decide +kernel, by decide⟩
theorem zv_X10_isFrom : zYv yX10_isFrom := ⟨zT_in (i := 1191) (by decide +kernel) rfl, zT_in (i := 39) (by decide +kernel) rfl⟩
set_option maxRecDepth 20000 in
theorem zy_X10_strike : zY yX10_strike cX10_strike 3 (some .int) 2 := ⟨zT_in (i := 63) (by decide +kernel) rfl, zT_in (i := 1188) (by decide +kernel) rfl, by decide +kernel, by decide⟩
theorem zv_X10_strike : zYv yX10_strike := ⟨zT_in (i := 1186) (by decide +kernel) rfl, zT_in (i := 1187) (by decide +kernel) rfl⟩
set_option maxRecDepth 20000 in
theorem zy_X10_undo : zY yX10_undo cX10_undo 3 (some .int) 1 := ⟨zT_in (i := 63) (by decide +kernel) rfl, zT_in (i := 1196) (by decide +kernel) rfl, by decide +kernel, by decide⟩
theorem zv_X10_undo : zYv yX10_undo := ⟨zT_in (i := 1194) (by decide +kernel) rfl, zT_in (i := 1195) (by decide +kernel) rfl⟩
set_option maxRecDepth 20000 in
theorem zy_X10_ago : zY yX10_ago cX10_ago 3 (some .int) 2 := ⟨zT_in (i := 63) (by decide +kernel) rfl, zT_in (i := 1215) (by decide +kernel) rfl, by decide +kernel, by decide⟩
theorem zs_X10_ago : Cond.static yX10_ago ∈ zT := zT_in (i := 1214) (by decide +kernel) rfl
set_option maxRecDepth 20000 in
theorem zy_X10_warmthOf : zY yX10_warmthOf cX10_warmthOf 2 (some .int) 1 := ⟨zT_in (i := 63) (by decide +kernel) rfl, zT_in (i := 1212) (by decide +kernel) rfl, by decide +kernel, by decide⟩
theorem zv_X10_warmthOf : zYv yX10_warmthOf := ⟨zT_in (i := 1211) (by decide +kernel) rfl, zT_in (i := 42) (by decide +kernel) rfl⟩
set_option maxRecDepth 20000 in
theorem zy_X10_isReused : zY yX10_isReused cX10_isReused 2 (some .boolean) 1 := ⟨zT_in (i := 63) (by decide +kernel) rfl, zT_in (i := 1219) (by decide +kernel) rfl, by decide +kernel, by decide⟩
theorem zv_X10_isReused : zYv yX10_isReused := ⟨zT_in (i := 1218) (by decide +kernel) rfl, zT_in (i := 43) (by decide +kernel) rfl⟩
set_option maxRecDepth 20000 in
theorem zy_X10_begin : zY yX10_begin cX10_begin 5 none 1 := ⟨zT_in (i := 63) (by decide +kernel) rfl, zT_in (i := 1208) (by decide +kernel) rfl, by decide +kernel, by decide⟩
theorem zv_X10_begin : zYv yX10_begin := ⟨zT_in (i := 1207) (by decide +kernel) rfl, zT_in (i := 41) (by decide +kernel) rfl⟩
set_option maxRecDepth 20000 in
theorem zy_X10_greater : zY yX10_greater cX10_greater 2 (some .int) 2 := ⟨zT_in (i := 63) (by decide +kernel) rfl, zT_in (i := 1226) (by decide +kernel) rfl, by decide +kernel, by decide⟩
theorem zs_X10_greater : Cond.static yX10_greater ∈ zT := zT_in (i := 1225) (by decide +kernel) rfl
set_option maxRecDepth 20000 in
theorem zy_X10_lesser : zY yX10_lesser cX10_lesser 2 (some .int) 2 := ⟨zT_in (i := 63) (by decide +kernel) rfl, zT_in (i := 1229) (by decide +kernel) rfl, by decide +kernel, by decide⟩
theorem zs_X10_lesser : Cond.static yX10_lesser ∈ zT := zT_in (i := 1228) (by decide +kernel) rfl
set_option maxRecDepth 20000 in
theorem zy_X10_isBelow : zY yX10_isBelow cX10_isBelow 3 (some .boolean) 2 := ⟨zT_in (i := 63) (by decide +kernel) rfl, zT_in (i := 1233) (by decide +kernel) rfl, by decide +kernel, by decide⟩
theorem zv_X10_isBelow : zYv yX10_isBelow := ⟨zT_in (i := 1232) (by decide +kernel) rfl, zT_in (i := 45) (by decide +kernel) rfl⟩
set_option maxRecDepth 20000 in
theorem zy_X10_goRound : zY yX10_goRound cX10_goRound 3 none 0 := ⟨zT_in (i := 63) (by decide +kernel) rfl, zT_in (i := 1223) (by decide +kernel) rfl, by decide +kernel, by decide⟩
theorem zv_X10_goRound : zYv yX10_goRound := ⟨zT_in (i := 1222) (by decide +kernel) rfl, zT_in (i := 44) (by decide +kernel) rfl⟩
set_option maxRecDepth 20000 in
theorem zy_X10_areYears : zY yX10_areYears cX10_areYears 3 (some .boolean) 0 := ⟨zT_in (i := 63) (by decide +kernel) rfl, zT_in (i := 1204) (by decide +kernel) rfl, by decide +kernel, by decide⟩
theorem zv_X10_areYears : zYv yX10_areYears := ⟨zT_in (i := 1203) (by decide +kernel) rfl, zT_in (i := 40) (by decide +kernel) rfl⟩
set_option maxRecDepth 20000 in
theorem zy_X10_span : zY yX10_span cX10_span 3 (some .int) 2 := ⟨zT_in (i := 63) (by decide +kernel) rfl, zT_in (i := 1200) (by decide +kernel) rfl, by decide +kernel, by decide⟩
theorem zv_X10_span : zYv yX10_span := ⟨zT_in (i := 1198) (by decide +kernel) rfl, zT_in (i := 1199) (by decide +kernel) rfl⟩
set_option maxRecDepth 20000 in
theorem zy_X10_heirloom : zY yX10_heirloom cX10_heirloom 4 (some .int) 1 := ⟨zT_in (i := 63) (by decide +kernel) rfl, zT_in (i := 1237) (by decide +kernel) rfl, by decide +kernel, by decide⟩
theorem zv_X10_heirloom : zYv yX10_heirloom := ⟨zT_in (i := 1235) (by decide +kernel) rfl, zT_in (i := 1236) (by decide +kernel) rfl⟩
set_option maxRecDepth 20000 in
theorem zy_X10_mayBeFrom : zY yX10_mayBeFrom cX10_mayBeFrom 5 (some .int) 1 := ⟨zT_in (i := 63) (by decide +kernel) rfl, zT_in (i := 1245) (by decide +kernel) rfl, by decide +kernel, by decide⟩
theorem zv_X10_mayBeFrom : zYv yX10_mayBeFrom := ⟨zT_in (i := 1244) (by decide +kernel) rfl, zT_in (i := 46) (by decide +kernel) rfl⟩
set_option maxRecDepth 20000 in
theorem zy_X10_from : zY yX10_from cX10_from 2 (some .int) 1 := ⟨zT_in (i := 63) (by decide +kernel) rfl, zT_in (i := 1241) (by decide +kernel) rfl, by decide +kernel, by decide⟩
theorem zv_X10_from : zYv yX10_from := ⟨zT_in (i := 1239) (by decide +kernel) rfl, zT_in (i := 1240) (by decide +kernel) rfl⟩
set_option maxRecDepth 20000 in
theorem zy_X10_chain : zY yX10_chain cX10_chain 8 (some .int) 1 := ⟨zT_in (i := 63) (by decide +kernel) rfl, zT_in (i := 1249) (by decide +kernel) rfl, by decide +kernel, by decide⟩
theorem zv_X10_chain : zYv yX10_chain := ⟨zT_in (i := 1247) (by decide +kernel) rfl, zT_in (i := 1248) (by decide +kernel) rfl⟩
set_option maxRecDepth 20000 in
theorem zy_X10_isLive : zY yX10_isLive cX10_isLive 3 (some .boolean) 2 := ⟨zT_in (i := 63) (by decide +kernel) rfl, zT_in (i := 1261) (by decide +kernel) rfl, by decide +kernel, by decide⟩
theorem zv_X10_isLive : zYv yX10_isLive := ⟨zT_in (i := 1260) (by decide +kernel) rfl, zT_in (i := 48) (by decide +kernel) rfl⟩
set_option maxRecDepth 20000 in
theorem zy_X10_layOut : zY yX10_layOut cX10_layOut 10 none 3 := ⟨zT_in (i := 63) (by decide +kernel) rfl, zT_in (i := 1257) (by decide +kernel) rfl, by decide +kernel, by decide⟩
theorem zv_X10_layOut : zYv yX10_layOut := ⟨zT_in (i := 1256) (by decide +kernel) rfl, zT_in (i := 47) (by decide +kernel) rfl⟩
set_option maxRecDepth 20000 in
theorem zy_X10_legs : zY yX10_legs cX10_legs 6 (some .int) 5 := ⟨zT_in (i := 63) (by decide +kernel) rfl, zT_in (i := 1253) (by decide +kernel) rfl, by decide +kernel, by decide⟩
theorem zv_X10_legs : zYv yX10_legs := ⟨zT_in (i := 1251) (by decide +kernel) rfl, zT_in (i := 1252) (by decide +kernel) rfl⟩
set_option maxRecDepth 20000 in
theorem zy_X10_comesBy : zY yX10_comesBy cX10_comesBy 11 (some .int) 4 := ⟨zT_in (i := 63) (by decide +kernel) rfl, zT_in (i := 1269) (by decide +kernel) rfl, by decide +kernel, by decide⟩
theorem zv_X10_comesBy : zYv yX10_comesBy := ⟨zT_in (i := 1268) (by decide +kernel) rfl, zT_in (i := 49) (by decide +kernel) rfl⟩
set_option maxRecDepth 20000 in
theorem zy_X10_reach : zY yX10_reach cX10_reach 5 (some .int) 4 := ⟨zT_in (i := 63) (by decide +kernel) rfl, zT_in (i := 1265) (by decide +kernel) rfl, by decide +kernel, by decide⟩
theorem zv_X10_reach : zYv yX10_reach := ⟨zT_in (i := 1263) (by decide +kernel) rfl, zT_in (i := 1264) (by decide +kernel) rfl⟩
set_option maxRecDepth 20000 in
theorem zy_X10_byBoat : zY yX10_byBoat cX10_byBoat 7 (some .int) 0 := ⟨zT_in (i := 63) (by decide +kernel) rfl, zT_in (i := 1277) (by decide +kernel) rfl, by decide +kernel, by decide⟩
theorem zv_X10_byBoat : zYv yX10_byBoat := ⟨zT_in (i := 1276) (by decide +kernel) rfl, zT_in (i := 50) (by decide +kernel) rfl⟩
set_option maxRecDepth 20000 in
theorem zy_X10_boats : zY yX10_boats cX10_boats 1 (some .int) 0 := ⟨zT_in (i := 63) (by decide +kernel) rfl, zT_in (i := 1273) (by decide +kernel) rfl, by decide +kernel, by decide⟩
theorem zv_X10_boats : zYv yX10_boats := ⟨zT_in (i := 1271) (by decide +kernel) rfl, zT_in (i := 1272) (by decide +kernel) rfl⟩
set_option maxRecDepth 20000 in
theorem zy_X10_sea : zY yX10_sea cX10_sea 4 (some .int) 0 := ⟨zT_in (i := 63) (by decide +kernel) rfl, zT_in (i := 1281) (by decide +kernel) rfl, by decide +kernel, by decide⟩
theorem zv_X10_sea : zYv yX10_sea := ⟨zT_in (i := 1279) (by decide +kernel) rfl, zT_in (i := 1280) (by decide +kernel) rfl⟩
set_option maxRecDepth 20000 in
theorem zy_X10_next : zY yX10_next cX10_next 5 (some .int) 0 := ⟨zT_in (i := 63) (by decide +kernel) rfl, zT_in (i := 1285) (by decide +kernel) rfl, by decide +kernel, by decide⟩
theorem zv_X10_next : zYv yX10_next := ⟨zT_in (i := 1283) (by decide +kernel) rfl, zT_in (i := 1284) (by decide +kernel) rfl⟩
set_option maxRecDepth 20000 in
theorem zy_X10_counts : zY yX10_counts cX10_counts 5 (some .int) 4 := ⟨zT_in (i := 63) (by decide +kernel) rfl, zT_in (i := 1289) (by decide +kernel) rfl, by decide +kernel, by decide⟩
theorem zv_X10_counts : zYv yX10_counts := ⟨zT_in (i := 1287) (by decide +kernel) rfl, zT_in (i := 1288) (by decide +kernel) rfl⟩
set_option maxRecDepth 20000 in
theorem zy_X10_shareBy : zY yX10_shareBy cX10_shareBy 5 (some .int) 3 := ⟨zT_in (i := 63) (by decide +kernel) rfl, zT_in (i := 1300) (by decide +kernel) rfl, by decide +kernel, by decide⟩
theorem zs_X10_shareBy : Cond.static yX10_shareBy ∈ zT := zT_in (i := 1299) (by decide +kernel) rfl
set_option maxRecDepth 20000 in
theorem zy_X10_missBy : zY yX10_missBy cX10_missBy 7 (some .int) 3 := ⟨zT_in (i := 63) (by decide +kernel) rfl, zT_in (i := 1297) (by decide +kernel) rfl, by decide +kernel, by decide⟩
theorem zv_X10_missBy : zYv yX10_missBy := ⟨zT_in (i := 1296) (by decide +kernel) rfl, zT_in (i := 51) (by decide +kernel) rfl⟩
set_option maxRecDepth 20000 in
theorem zy_X10_miss : zY yX10_miss cX10_miss 4 (some .int) 3 := ⟨zT_in (i := 63) (by decide +kernel) rfl, zT_in (i := 1293) (by decide +kernel) rfl, by decide +kernel, by decide⟩
theorem zv_X10_miss : zYv yX10_miss := ⟨zT_in (i := 1291) (by decide +kernel) rfl, zT_in (i := 1292) (by decide +kernel) rfl⟩
set_option maxRecDepth 20000 in
theorem zy_X10_law : zY yX10_law cX10_law 8 (some .int) 2 := ⟨zT_in (i := 63) (by decide +kernel) rfl, zT_in (i := 1304) (by decide +kernel) rfl, by decide +kernel, by decide⟩
theorem zv_X10_law : zYv yX10_law := ⟨zT_in (i := 1302) (by decide +kernel) rfl, zT_in (i := 1303) (by decide +kernel) rfl⟩
set_option maxRecDepth 20000 in
theorem zy_X10_dated : zY yX10_dated cX10_dated 3 (some .int) 2 := ⟨zT_in (i := 63) (by decide +kernel) rfl, zT_in (i := 1308) (by decide +kernel) rfl, by decide +kernel, by decide⟩
theorem zv_X10_dated : zYv yX10_dated := ⟨zT_in (i := 1306) (by decide +kernel) rfl, zT_in (i := 1307) (by decide +kernel) rfl⟩
set_option maxRecDepth 20000 in
theorem zy_X10_learnt : zY yX10_learnt cX10_learnt 9 (some .int) 2 := ⟨zT_in (i := 63) (by decide +kernel) rfl, zT_in (i := 1312) (by decide +kernel) rfl, by decide +kernel, by decide⟩
theorem zv_X10_learnt : zYv yX10_learnt := ⟨zT_in (i := 1310) (by decide +kernel) rfl, zT_in (i := 1311) (by decide +kernel) rfl⟩
set_option maxRecDepth 20000 in
theorem zy_X10_count : zY yX10_count cX10_count 4 (some .int) 1 := ⟨zT_in (i := 63) (by decide +kernel) rfl, zT_in (i := 1316) (by decide +kernel) rfl, by decide +kernel, by decide⟩
theorem zv_X10_count : zYv yX10_count := ⟨zT_in (i := 1314) (by decide +kernel) rfl, zT_in (i := 1315) (by decide +kernel) rfl⟩
set_option maxRecDepth 20000 in
theorem zy_J6_bitCount_0f7a4 : zY yJ6_bitCount_0f7a4 cJ6_bitCount_0f7a4 1 (some .int) 1 := ⟨zT_in (i := 69) (by decide +kernel) rfl, zT_in (i := 639) (by decide +kernel) rfl, by decide +kernel, by decide⟩
theorem zs_J6_bitCount_0f7a4 : Cond.static yJ6_bitCount_0f7a4 ∈ zT := zT_in (i := 638) (by decide +kernel) rfl
set_option maxRecDepth 20000 in
theorem zy_J9_abs_0f7a4 : zY yJ9_abs_0f7a4 cJ9_abs_0f7a4 1 (some .int) 1 := ⟨zT_in (i := 64) (by decide +kernel) rfl, zT_in (i := 612) (by decide +kernel) rfl, by decide +kernel, by decide⟩
theorem zs_J9_abs_0f7a4 : Cond.static yJ9_abs_0f7a4 ∈ zT := zT_in (i := 611) (by decide +kernel) rfl
set_option maxRecDepth 20000 in
theorem zy_J9_max_7cf53 : zY yJ9_max_7cf53 cJ9_max_7cf53 2 (some .int) 2 := ⟨zT_in (i := 64) (by decide +kernel) rfl, zT_in (i := 615) (by decide +kernel) rfl, by decide +kernel, by decide⟩
theorem zs_J9_max_7cf53 : Cond.static yJ9_max_7cf53 ∈ zT := zT_in (i := 614) (by decide +kernel) rfl
set_option maxRecDepth 20000 in
theorem zy_J9_min_7cf53 : zY yJ9_min_7cf53 cJ9_min_7cf53 2 (some .int) 2 := ⟨zT_in (i := 64) (by decide +kernel) rfl, zT_in (i := 439) (by decide +kernel) rfl, by decide +kernel, by decide⟩
theorem zs_J9_min_7cf53 : Cond.static yJ9_min_7cf53 ∈ zT := zT_in (i := 438) (by decide +kernel) rfl
set_option maxRecDepth 20000 in
theorem zy_J0_length_8abf5 : zY yJ0_length_8abf5 cJ0_length_8abf5 1 (some .int) 0 := ⟨zT_in (i := 65) (by decide +kernel) rfl, zT_in (i := 470) (by decide +kernel) rfl, by decide +kernel, by decide⟩
theorem zv_J0_length_8abf5 : zYv yJ0_length_8abf5 := ⟨zT_in (i := 468) (by decide +kernel) rfl, zT_in (i := 469) (by decide +kernel) rfl⟩
set_option maxRecDepth 20000 in
theorem zy_J0_charAt_5068e : zY yJ0_charAt_5068e cJ0_charAt_5068e 2 (some .char) 1 := ⟨zT_in (i := 65) (by decide +kernel) rfl, zT_in (i := 480) (by decide +kernel) rfl, by decide +kernel, by decide⟩
theorem zv_J0_charAt_5068e : zYv yJ0_charAt_5068e := ⟨zT_in (i := 478) (by decide +kernel) rfl, zT_in (i := 479) (by decide +kernel) rfl⟩
set_option maxRecDepth 20000 in
theorem zy_J0_coder_7d493 : zY yJ0_coder_7d493 cJ0_coder_7d493 1 (some .byte) 0 := ⟨zT_in (i := 65) (by decide +kernel) rfl, zT_in (i := 474) (by decide +kernel) rfl, by decide +kernel, by decide⟩
theorem zv_J0_coder_7d493 : zYv yJ0_coder_7d493 := ⟨zT_in (i := 472) (by decide +kernel) rfl, zT_in (i := 473) (by decide +kernel) rfl⟩
set_option maxRecDepth 20000 in
theorem zy_J0_isLatin1_aae02 : zY yJ0_isLatin1_aae02 cJ0_isLatin1_aae02 1 (some .boolean) 0 := ⟨zT_in (i := 65) (by decide +kernel) rfl, zT_in (i := 484) (by decide +kernel) rfl, by decide +kernel, by decide⟩
theorem zv_J0_isLatin1_aae02 : zYv yJ0_isLatin1_aae02 := ⟨zT_in (i := 482) (by decide +kernel) rfl, zT_in (i := 483) (by decide +kernel) rfl⟩
set_option maxRecDepth 20000 in
theorem zy_J0_checkIndex_df160 : zY yJ0_checkIndex_df160 cJ0_checkIndex_df160 2 none 2 := ⟨zT_in (i := 65) (by decide +kernel) rfl, zT_in (i := 490) (by decide +kernel) rfl, by decide +kernel, by decide⟩
theorem zs_J0_checkIndex_df160 : Cond.static yJ0_checkIndex_df160 ∈ zT := zT_in (i := 489) (by decide +kernel) rfl
set_option maxRecDepth 20000 in
theorem zy_J1_charAt_3b067 : zY yJ1_charAt_3b067 cJ1_charAt_3b067 2 (some .char) 2 := ⟨zT_in (i := 66) (by decide +kernel) rfl, zT_in (i := 487) (by decide +kernel) rfl, by decide +kernel, by decide⟩
theorem zs_J1_charAt_3b067 : Cond.static yJ1_charAt_3b067 ∈ zT := zT_in (i := 486) (by decide +kernel) rfl
set_option maxRecDepth 20000 in
theorem zy_J3_checkIndex_8e157 : zY yJ3_checkIndex_8e157 cJ3_checkIndex_8e157 3 (some .int) 3 := ⟨zT_in (i := 67) (by decide +kernel) rfl, zT_in (i := 495) (by decide +kernel) rfl, by decide +kernel, by decide⟩
theorem zs_J3_checkIndex_8e157 : Cond.static yJ3_checkIndex_8e157 ∈ zT := zT_in (i := 494) (by decide +kernel) rfl
theorem ml_L_9 : Cond.methodLink RL 9 yX9_init ∈ zT := zT_in (i := 73) (by decide +kernel) rfl
theorem ml_X9_3 : Cond.methodLink RX9 3 objectInit ∈ zT := zT_in (i := 76) (by decide +kernel) rfl
theorem ml_X9_11 : Cond.methodLink RX9 11 yX7_init ∈ zT := zT_in (i := 81) (by decide +kernel) rfl
theorem ml_X7_3 : Cond.methodLink RX7 3 objectInit ∈ zT := zT_in (i := 84) (by decide +kernel) rfl
theorem ml_X9_18 : Cond.methodLink RX9 18 yX3_init ∈ zT := zT_in (i := 110) (by decide +kernel) rfl
theorem ml_X3_3 : Cond.methodLink RX3 3 objectInit ∈ zT := zT_in (i := 113) (by decide +kernel) rfl
theorem ml_X9_25 : Cond.methodLink RX9 25 yX0_init ∈ zT := zT_in (i := 184) (by decide +kernel) rfl
theorem ml_X0_3 : Cond.methodLink RX0 3 objectInit ∈ zT := zT_in (i := 187) (by decide +kernel) rfl
theorem ml_X9_32 : Cond.methodLink RX9 32 yX2_init ∈ zT := zT_in (i := 248) (by decide +kernel) rfl
theorem ml_X2_3 : Cond.methodLink RX2 3 objectInit ∈ zT := zT_in (i := 251) (by decide +kernel) rfl
theorem ml_X9_41 : Cond.methodLink RX9 41 yX8_init ∈ zT := zT_in (i := 261) (by decide +kernel) rfl
theorem ml_X8_3 : Cond.methodLink RX8 3 objectInit ∈ zT := zT_in (i := 264) (by decide +kernel) rfl
theorem ml_X9_50 : Cond.methodLink RX9 50 yX5_init ∈ zT := zT_in (i := 288) (by decide +kernel) rfl
theorem ml_X5_3 : Cond.methodLink RX5 3 objectInit ∈ zT := zT_in (i := 291) (by decide +kernel) rfl
theorem ml_X9_59 : Cond.methodLink RX9 59 yX4_init ∈ zT := zT_in (i := 313) (by decide +kernel) rfl
theorem ml_X4_3 : Cond.methodLink RX4 3 objectInit ∈ zT := zT_in (i := 316) (by decide +kernel) rfl
theorem ml_X9_68 : Cond.methodLink RX9 68 yX6_init ∈ zT := zT_in (i := 334) (by decide +kernel) rfl
theorem ml_X6_3 : Cond.methodLink RX6 3 objectInit ∈ zT := zT_in (i := 337) (by decide +kernel) rfl
theorem ml_X9_77 : Cond.methodLink RX9 77 yX1_init ∈ zT := zT_in (i := 362) (by decide +kernel) rfl
theorem ml_X1_3 : Cond.methodLink RX1 3 objectInit ∈ zT := zT_in (i := 365) (by decide +kernel) rfl
theorem ml_L_15 : Cond.methodLink RL 15 yX9_write ∈ zT := zT_in (i := 398) (by decide +kernel) rfl
theorem ml_X9_84 : Cond.methodLink RX9 84 yX9_isWithin ∈ zT := zT_in (i := 402) (by decide +kernel) rfl
theorem ml_X9_88 : Cond.methodLink RX9 88 yX7_hasRoomFor ∈ zT := zT_in (i := 405) (by decide +kernel) rfl
theorem ml_X9_92 : Cond.methodLink RX9 92 yX7_append ∈ zT := zT_in (i := 409) (by decide +kernel) rfl
theorem ml_L_20 : Cond.methodLink RL 20 yX9_erase ∈ zT := zT_in (i := 413) (by decide +kernel) rfl
theorem ml_X9_96 : Cond.methodLink RX9 96 yX7_empty ∈ zT := zT_in (i := 417) (by decide +kernel) rfl
theorem ml_L_25 : Cond.methodLink RL 25 yX9_fault ∈ zT := zT_in (i := 421) (by decide +kernel) rfl
theorem ml_X9_100 : Cond.methodLink RX9 100 yX7_read ∈ zT := zT_in (i := 425) (by decide +kernel) rfl
theorem ml_X7_28 : Cond.methodLink RX7 28 yX7_readLine ∈ zT := zT_in (i := 429) (by decide +kernel) rfl
theorem ml_X7_35 : Cond.methodLink RX7 35 yX7_takeToken ∈ zT := zT_in (i := 433) (by decide +kernel) rfl
theorem ml_X7_61 : Cond.methodLink RX7 61 Lib.Math.min.name ∈ zT := zT_in (i := 437) (by decide +kernel) rfl
theorem ml_X7_67 : Cond.methodLink RX7 67 yX7_areOfOneToken ∈ zT := zT_in (i := 440) (by decide +kernel) rfl
theorem ml_X7_71 : Cond.methodLink RX7 71 yX7_isLetter ∈ zT := zT_in (i := 443) (by decide +kernel) rfl
theorem mn_X7_77 : (RX7, 77, yX9_isWithin, "BlackGlass") ∈ zNests := List.mem_of_getElem? (i := 0) rfl
theorem ml_X7_74 : Cond.methodLink RX7 74 yX7_isDigit ∈ zT := zT_in (i := 447) (by decide +kernel) rfl
theorem ml_X7_38 : Cond.methodLink RX7 38 yX7_kindOfToken ∈ zT := zT_in (i := 450) (by decide +kernel) rfl
theorem ml_X7_80 : Cond.methodLink RX7 80 yX7_wordOf ∈ zT := zT_in (i := 454) (by decide +kernel) rfl
theorem ml_X7_83 : Cond.methodLink RX7 83 yX7_tokenIs ∈ zT := zT_in (i := 463) (by decide +kernel) rfl
theorem ml_X7_46 : Cond.methodLink RX7 46 yJ0_length_8abf5 ∈ zT := zT_in (i := 467) (by decide +kernel) rfl
theorem ml_J0_335 : Cond.methodLink RJ0 335 yJ0_coder_7d493 ∈ zT := zT_in (i := 471) (by decide +kernel) rfl
theorem ml_X7_53 : Cond.methodLink RX7 53 yJ0_charAt_5068e ∈ zT := zT_in (i := 477) (by decide +kernel) rfl
theorem ml_J0_492 : Cond.methodLink RJ0 492 yJ0_isLatin1_aae02 ∈ zT := zT_in (i := 481) (by decide +kernel) rfl
theorem ml_J0_495 : Cond.methodLink RJ0 495 yJ1_charAt_3b067 ∈ zT := zT_in (i := 485) (by decide +kernel) rfl
theorem ml_J1_9 : Cond.methodLink RJ1 9 yJ0_checkIndex_df160 ∈ zT := zT_in (i := 488) (by decide +kernel) rfl
theorem ml_J0_1059 : Cond.methodLink RJ0 1059 yJ3_checkIndex_8e157 ∈ zT := zT_in (i := 493) (by decide +kernel) rfl
theorem ml_J0_498 : Cond.methodLink RJ0 498 yJ2_charAt_3b067 ∈ zT := zT_in (i := 496) (by decide +kernel) rfl
theorem ml_J2_67 : Cond.methodLink RJ2 67 yJ2_checkIndex_2214a ∈ zT := zT_in (i := 499) (by decide +kernel) rfl
theorem ml_J2_48 : Cond.methodLink RJ2 48 yJ2_length_9d52b ∈ zT := zT_in (i := 502) (by decide +kernel) rfl
theorem ml_J2_414 : Cond.methodLink RJ2 414 yJ0_checkIndex_df160 ∈ zT := zT_in (i := 505) (by decide +kernel) rfl
theorem ml_J2_71 : Cond.methodLink RJ2 71 yJ2_getChar_3b067 ∈ zT := zT_in (i := 506) (by decide +kernel) rfl
theorem ml_X7_42 : Cond.methodLink RX7 42 yX7_formOf ∈ zT := zT_in (i := 515) (by decide +kernel) rfl
theorem ml_X7_50 : Cond.methodLink RX7 50 yX7_numberOfToken ∈ zT := zT_in (i := 522) (by decide +kernel) rfl
theorem ml_X7_57 : Cond.methodLink RX7 57 yX7_canStand ∈ zT := zT_in (i := 526) (by decide +kernel) rfl
theorem mn_X7_107 : (RX7, 107, yX9_isPlace, "BlackGlass") ∈ zNests := List.mem_of_getElem? (i := 1) rfl
theorem ml_L_29 : Cond.methodLink RL 29 yX9_land ∈ zT := zT_in (i := 533) (by decide +kernel) rfl
theorem ml_X9_111 : Cond.methodLink RX9 111 yX3_tell ∈ zT := zT_in (i := 537) (by decide +kernel) rfl
theorem ml_X3_60 : Cond.methodLink RX3 60 yX3_tellFlow ∈ zT := zT_in (i := 541) (by decide +kernel) rfl
theorem ml_X3_64 : Cond.methodLink RX3 64 yX3_tellWay ∈ zT := zT_in (i := 545) (by decide +kernel) rfl
theorem ml_L_33 : Cond.methodLink RL 33 yX9_place ∈ zT := zT_in (i := 548) (by decide +kernel) rfl
theorem ml_X9_115 : Cond.methodLink RX9 115 yX9_isPlace ∈ zT := zT_in (i := 552) (by decide +kernel) rfl
theorem ml_L_38 : Cond.methodLink RL 38 yX9_flow ∈ zT := zT_in (i := 553) (by decide +kernel) rfl
theorem ml_X9_127 : Cond.methodLink RX9 127 yX3_isTold ∈ zT := zT_in (i := 557) (by decide +kernel) rfl
theorem mn_X3_56 : (RX3, 56, yX9_isWithin, "BlackGlass") ∈ zNests := List.mem_of_getElem? (i := 2) rfl
theorem ml_L_42 : Cond.methodLink RL 42 yX9_way ∈ zT := zT_in (i := 562) (by decide +kernel) rfl
theorem ml_L_47 : Cond.methodLink RL 47 yX9_blade ∈ zT := zT_in (i := 566) (by decide +kernel) rfl
theorem ml_X9_148 : Cond.methodLink RX9 148 yX9_areMeasured ∈ zT := zT_in (i := 570) (by decide +kernel) rfl
theorem ml_X9_291 : Cond.methodLink RX9 291 yX9_numberAt ∈ zT := zT_in (i := 573) (by decide +kernel) rfl
theorem ml_X9_155 : Cond.methodLink RX9 155 yX0_add ∈ zT := zT_in (i := 576) (by decide +kernel) rfl
theorem ml_X9_159 : Cond.methodLink RX9 159 yX0_setMeasured ∈ zT := zT_in (i := 580) (by decide +kernel) rfl
theorem mn_X0_47 : (RX0, 47, yX9_numberAt, "BlackGlass") ∈ zNests := List.mem_of_getElem? (i := 3) rfl
theorem ml_L_52 : Cond.methodLink RL 52 yX9_rim ∈ zT := zT_in (i := 585) (by decide +kernel) rfl
theorem ml_X9_163 : Cond.methodLink RX9 163 yX0_has ∈ zT := zT_in (i := 589) (by decide +kernel) rfl
theorem mn_X0_43 : (RX0, 43, yX9_isWithin, "BlackGlass") ∈ zNests := List.mem_of_getElem? (i := 4) rfl
theorem ml_L_56 : Cond.methodLink RL 56 yX9_measure ∈ zT := zT_in (i := 594) (by decide +kernel) rfl
theorem ml_L_60 : Cond.methodLink RL 60 yX9_of ∈ zT := zT_in (i := 598) (by decide +kernel) rfl
theorem ml_L_64 : Cond.methodLink RL 64 yX9_off ∈ zT := zT_in (i := 602) (by decide +kernel) rfl
theorem ml_X9_190 : Cond.methodLink RX9 190 yX2_offBetween ∈ zT := zT_in (i := 606) (by decide +kernel) rfl
theorem ml_X2_30 : Cond.methodLink RX2 30 Lib.Math.abs.name ∈ zT := zT_in (i := 610) (by decide +kernel) rfl
theorem ml_X2_36 : Cond.methodLink RX2 36 Lib.Math.max.name ∈ zT := zT_in (i := 613) (by decide +kernel) rfl
theorem mn_X2_46 : (RX2, 46, yX9_cut, "BlackGlass") ∈ zNests := List.mem_of_getElem? (i := 5) rfl
theorem ml_L_68 : Cond.methodLink RL 68 yX9_can ∈ zT := zT_in (i := 619) (by decide +kernel) rfl
theorem ml_X9_194 : Cond.methodLink RX9 194 yX2_canBeOf ∈ zT := zT_in (i := 623) (by decide +kernel) rfl
theorem ml_X2_53 : Cond.methodLink RX2 53 yX2_offBetween ∈ zT := zT_in (i := 627) (by decide +kernel) rfl
theorem ml_L_73 : Cond.methodLink RL 73 yX9_named ∈ zT := zT_in (i := 628) (by decide +kernel) rfl
theorem ml_X9_198 : Cond.methodLink RX9 198 yX2_nameOf ∈ zT := zT_in (i := 632) (by decide +kernel) rfl
theorem ml_X2_60 : Cond.methodLink RX2 60 yX2_canBeOf ∈ zT := zT_in (i := 636) (by decide +kernel) rfl
theorem ml_X2_63 : Cond.methodLink RX2 63 yJ6_bitCount_0f7a4 ∈ zT := zT_in (i := 637) (by decide +kernel) rfl
theorem mn_X2_68 : (RX2, 68, yX9_hasBit, "BlackGlass") ∈ zNests := List.mem_of_getElem? (i := 6) rfl
theorem ml_L_77 : Cond.methodLink RL 77 yX9_strike ∈ zT := zT_in (i := 646) (by decide +kernel) rfl
theorem ml_X9_201 : Cond.methodLink RX9 201 yX0_comesFrom ∈ zT := zT_in (i := 650) (by decide +kernel) rfl
theorem ml_L_81 : Cond.methodLink RL 81 yX9_undo ∈ zT := zT_in (i := 654) (by decide +kernel) rfl
theorem ml_L_85 : Cond.methodLink RL 85 yX9_span ∈ zT := zT_in (i := 658) (by decide +kernel) rfl
theorem ml_X9_204 : Cond.methodLink RX9 204 yX0_isReused ∈ zT := zT_in (i := 662) (by decide +kernel) rfl
theorem ml_X9_207 : Cond.methodLink RX9 207 yX8_settle ∈ zT := zT_in (i := 666) (by decide +kernel) rfl
theorem ml_X8_33 : Cond.methodLink RX8 33 yX8_boundByNumbers ∈ zT := zT_in (i := 670) (by decide +kernel) rfl
theorem ml_X8_60 : Cond.methodLink RX8 60 yX2_canBeOf ∈ zT := zT_in (i := 674) (by decide +kernel) rfl
theorem ml_X8_66 : Cond.methodLink RX8 66 yX2_firstOpen ∈ zT := zT_in (i := 675) (by decide +kernel) rfl
theorem mn_X2_78 : (RX2, 78, yX9_lesser, "BlackGlass") ∈ zNests := List.mem_of_getElem? (i := 7) rfl
theorem ml_X9_294 : Cond.methodLink RX9 294 Lib.Math.min.name ∈ zT := zT_in (i := 682) (by decide +kernel) rfl
theorem ml_X8_69 : Cond.methodLink RX8 69 yX8_rimFirst ∈ zT := zT_in (i := 683) (by decide +kernel) rfl
theorem mn_X8_120 : (RX8, 120, yX9_cut, "BlackGlass") ∈ zNests := List.mem_of_getElem? (i := 8) rfl
theorem ml_X8_73 : Cond.methodLink RX8 73 Lib.Math.max.name ∈ zT := zT_in (i := 687) (by decide +kernel) rfl
theorem ml_X8_78 : Cond.methodLink RX8 78 yX8_setOwn ∈ zT := zT_in (i := 688) (by decide +kernel) rfl
theorem ml_X8_82 : Cond.methodLink RX8 82 yX8_rimLast ∈ zT := zT_in (i := 692) (by decide +kernel) rfl
theorem ml_X8_36 : Cond.methodLink RX8 36 yX8_settleWithout ∈ zT := zT_in (i := 695) (by decide +kernel) rfl
theorem ml_X8_91 : Cond.methodLink RX8 91 arraycopyName ∈ zT := zT_in (i := 699) (by decide +kernel) rfl
theorem ml_X8_97 : Cond.methodLink RX8 97 yX8_raiseStruck ∈ zT := zT_in (i := 702) (by decide +kernel) rfl
theorem ml_X8_126 : Cond.methodLink RX8 126 yX8_above ∈ zT := zT_in (i := 706) (by decide +kernel) rfl
theorem ml_X8_114 : Cond.methodLink RX8 114 yX8_bound ∈ zT := zT_in (i := 710) (by decide +kernel) rfl
theorem ml_X8_129 : Cond.methodLink RX8 129 yX8_raise ∈ zT := zT_in (i := 714) (by decide +kernel) rfl
theorem ml_X8_101 : Cond.methodLink RX8 101 yX8_raiseLaid ∈ zT := zT_in (i := 718) (by decide +kernel) rfl
theorem ml_X8_104 : Cond.methodLink RX8 104 yX8_lowerStruck ∈ zT := zT_in (i := 722) (by decide +kernel) rfl
theorem ml_X8_135 : Cond.methodLink RX8 135 yX8_lower ∈ zT := zT_in (i := 726) (by decide +kernel) rfl
theorem ml_X8_117 : Cond.methodLink RX8 117 Lib.Math.min.name ∈ zT := zT_in (i := 730) (by decide +kernel) rfl
theorem ml_X8_107 : Cond.methodLink RX8 107 yX8_hasWay ∈ zT := zT_in (i := 731) (by decide +kernel) rfl
theorem ml_X9_211 : Cond.methodLink RX9 211 yX8_bound ∈ zT := zT_in (i := 735) (by decide +kernel) rfl
theorem ml_L_89 : Cond.methodLink RL 89 yX9_heirloom ∈ zT := zT_in (i := 736) (by decide +kernel) rfl
theorem ml_X9_214 : Cond.methodLink RX9 214 yX8_heirloomOf ∈ zT := zT_in (i := 740) (by decide +kernel) rfl
theorem ml_X8_111 : Cond.methodLink RX8 111 yX0_isReused ∈ zT := zT_in (i := 744) (by decide +kernel) rfl
theorem ml_L_93 : Cond.methodLink RL 93 yX9_from ∈ zT := zT_in (i := 745) (by decide +kernel) rfl
theorem ml_X9_217 : Cond.methodLink RX9 217 yX5_mayBeFrom ∈ zT := zT_in (i := 749) (by decide +kernel) rfl
theorem ml_X5_29 : Cond.methodLink RX5 29 yX8_boundByNumbers ∈ zT := zT_in (i := 753) (by decide +kernel) rfl
theorem ml_X5_34 : Cond.methodLink RX5 34 yX5_findMayFrom ∈ zT := zT_in (i := 754) (by decide +kernel) rfl
theorem ml_X5_60 : Cond.methodLink RX5 60 yX8_settleWithout ∈ zT := zT_in (i := 758) (by decide +kernel) rfl
theorem ml_X5_64 : Cond.methodLink RX5 64 yX5_isLikely ∈ zT := zT_in (i := 759) (by decide +kernel) rfl
theorem ml_X5_74 : Cond.methodLink RX5 74 yX0_comesFrom ∈ zT := zT_in (i := 763) (by decide +kernel) rfl
theorem ml_X5_68 : Cond.methodLink RX5 68 yX5_leavesWay ∈ zT := zT_in (i := 764) (by decide +kernel) rfl
theorem ml_X5_77 : Cond.methodLink RX5 77 yX8_bound ∈ zT := zT_in (i := 768) (by decide +kernel) rfl
theorem ml_L_97 : Cond.methodLink RL 97 yX9_chain ∈ zT := zT_in (i := 769) (by decide +kernel) rfl
theorem ml_X9_220 : Cond.methodLink RX9 220 yX5_longestRow ∈ zT := zT_in (i := 773) (by decide +kernel) rfl
theorem ml_X5_44 : Cond.methodLink RX5 44 yX5_measureRows ∈ zT := zT_in (i := 777) (by decide +kernel) rfl
theorem ml_X5_81 : Cond.methodLink RX5 81 yX5_lengthFrom ∈ zT := zT_in (i := 781) (by decide +kernel) rfl
theorem mn_X5_84 : (RX5, 84, yX9_hasBit, "BlackGlass") ∈ zNests := List.mem_of_getElem? (i := 9) rfl
theorem ml_X5_87 : Cond.methodLink RX5 87 Lib.Math.max.name ∈ zT := zT_in (i := 786) (by decide +kernel) rfl
theorem ml_X5_47 : Cond.methodLink RX5 47 yX5_layRow ∈ zT := zT_in (i := 787) (by decide +kernel) rfl
theorem ml_X5_92 : Cond.methodLink RX5 92 Lib.Math.min.name ∈ zT := zT_in (i := 791) (by decide +kernel) rfl
theorem ml_X5_95 : Cond.methodLink RX5 95 yX5_firstBehind ∈ zT := zT_in (i := 792) (by decide +kernel) rfl
theorem mn_X5_56 : (RX5, 56, yX9_isWithin, "BlackGlass") ∈ zNests := List.mem_of_getElem? (i := 10) rfl
theorem ml_L_101 : Cond.methodLink RL 101 yX9_legs ∈ zT := zT_in (i := 797) (by decide +kernel) rfl
theorem ml_X9_223 : Cond.methodLink RX9 223 yX3_liveIn ∈ zT := zT_in (i := 801) (by decide +kernel) rfl
theorem ml_X9_226 : Cond.methodLink RX9 226 yX4_fewestLegs ∈ zT := zT_in (i := 805) (by decide +kernel) rfl
theorem mn_X4_27 : (RX4, 27, yX9_hasBit, "BlackGlass") ∈ zNests := List.mem_of_getElem? (i := 11) rfl
theorem ml_X4_31 : Cond.methodLink RX4 31 yX3_waysFrom ∈ zT := zT_in (i := 810) (by decide +kernel) rfl
theorem ml_X9_230 : Cond.methodLink RX9 230 yX4_measureMiles ∈ zT := zT_in (i := 814) (by decide +kernel) rfl
theorem ml_X4_37 : Cond.methodLink RX4 37 yX4_nearestOf ∈ zT := zT_in (i := 818) (by decide +kernel) rfl
theorem ml_X4_41 : Cond.methodLink RX4 41 yX4_goOnFrom ∈ zT := zT_in (i := 822) (by decide +kernel) rfl
theorem ml_X4_45 : Cond.methodLink RX4 45 yX3_milesOf ∈ zT := zT_in (i := 826) (by decide +kernel) rfl
theorem ml_X3_68 : Cond.methodLink RX3 68 Lib.Math.min.name ∈ zT := zT_in (i := 830) (by decide +kernel) rfl
theorem mn_X4_49 : (RX4, 49, yX9_lesser, "BlackGlass") ∈ zNests := List.mem_of_getElem? (i := 12) rfl
theorem ml_L_106 : Cond.methodLink RL 106 yX9_reach ∈ zT := zT_in (i := 832) (by decide +kernel) rfl
theorem ml_X9_237 : Cond.methodLink RX9 237 yX4_firstYear ∈ zT := zT_in (i := 836) (by decide +kernel) rfl
theorem ml_X4_53 : Cond.methodLink RX4 53 yX4_yearOfChange ∈ zT := zT_in (i := 840) (by decide +kernel) rfl
theorem ml_X4_61 : Cond.methodLink RX4 61 yX8_bound ∈ zT := zT_in (i := 844) (by decide +kernel) rfl
theorem ml_X4_69 : Cond.methodLink RX4 69 Lib.Math.max.name ∈ zT := zT_in (i := 845) (by decide +kernel) rfl
theorem mn_X4_77 : (RX4, 77, yX9_isWithin, "BlackGlass") ∈ zNests := List.mem_of_getElem? (i := 13) rfl
theorem ml_X4_57 : Cond.methodLink RX4 57 yX4_legsIn ∈ zT := zT_in (i := 847) (by decide +kernel) rfl
theorem ml_X4_89 : Cond.methodLink RX4 89 yX3_liveIn ∈ zT := zT_in (i := 851) (by decide +kernel) rfl
theorem ml_X4_92 : Cond.methodLink RX4 92 yX4_fewestLegs ∈ zT := zT_in (i := 852) (by decide +kernel) rfl
theorem ml_X9_241 : Cond.methodLink RX9 241 yX4_legsInAnyYear ∈ zT := zT_in (i := 853) (by decide +kernel) rfl
theorem ml_L_111 : Cond.methodLink RL 111 yX9_boats ∈ zT := zT_in (i := 857) (by decide +kernel) rfl
theorem ml_X9_244 : Cond.methodLink RX9 244 yX4_comeByBoat ∈ zT := zT_in (i := 861) (by decide +kernel) rfl
theorem ml_X4_95 : Cond.methodLink RX4 95 yX8_settle ∈ zT := zT_in (i := 865) (by decide +kernel) rfl
theorem ml_X4_103 : Cond.methodLink RX4 103 yX4_mustHaveSailed ∈ zT := zT_in (i := 866) (by decide +kernel) rfl
theorem ml_X4_110 : Cond.methodLink RX4 110 yX4_firstYear ∈ zT := zT_in (i := 870) (by decide +kernel) rfl
theorem ml_L_115 : Cond.methodLink RL 115 yX9_sea ∈ zT := zT_in (i := 871) (by decide +kernel) rfl
theorem ml_X9_247 : Cond.methodLink RX9 247 yX9_hasBit ∈ zT := zT_in (i := 875) (by decide +kernel) rfl
theorem ml_X9_250 : Cond.methodLink RX9 250 yX9_lesser ∈ zT := zT_in (i := 876) (by decide +kernel) rfl
theorem ml_L_119 : Cond.methodLink RL 119 yX9_next ∈ zT := zT_in (i := 877) (by decide +kernel) rfl
theorem ml_X9_253 : Cond.methodLink RX9 253 yX2_nextToMeasure ∈ zT := zT_in (i := 881) (by decide +kernel) rfl
theorem ml_L_123 : Cond.methodLink RL 123 yX9_counts ∈ zT := zT_in (i := 885) (by decide +kernel) rfl
theorem ml_X9_256 : Cond.methodLink RX9 256 yX6_setCounts ∈ zT := zT_in (i := 889) (by decide +kernel) rfl
theorem ml_L_128 : Cond.methodLink RL 128 yX9_miss ∈ zT := zT_in (i := 893) (by decide +kernel) rfl
theorem ml_X9_260 : Cond.methodLink RX9 260 yX6_gather ∈ zT := zT_in (i := 897) (by decide +kernel) rfl
theorem ml_X6_37 : Cond.methodLink RX6 37 yX4_measureMiles ∈ zT := zT_in (i := 901) (by decide +kernel) rfl
theorem mn_X6_50 : (RX6, 50, yX9_cut, "BlackGlass") ∈ zNests := List.mem_of_getElem? (i := 14) rfl
theorem ml_X9_264 : Cond.methodLink RX9 264 yX6_missOf ∈ zT := zT_in (i := 903) (by decide +kernel) rfl
theorem ml_X6_54 : Cond.methodLink RX6 54 yX6_shareByLaw ∈ zT := zT_in (i := 907) (by decide +kernel) rfl
theorem ml_X6_64 : Cond.methodLink RX6 64 Lib.Math.min.name ∈ zT := zT_in (i := 910) (by decide +kernel) rfl
theorem ml_X6_67 : Cond.methodLink RX6 67 Lib.Math.max.name ∈ zT := zT_in (i := 911) (by decide +kernel) rfl
theorem ml_X6_58 : Cond.methodLink RX6 58 Lib.Math.abs.name ∈ zT := zT_in (i := 912) (by decide +kernel) rfl
theorem ml_L_132 : Cond.methodLink RL 132 yX9_law ∈ zT := zT_in (i := 913) (by decide +kernel) rfl
theorem ml_X9_267 : Cond.methodLink RX9 267 yX6_best ∈ zT := zT_in (i := 917) (by decide +kernel) rfl
theorem ml_X6_70 : Cond.methodLink RX6 70 yX6_missOf ∈ zT := zT_in (i := 921) (by decide +kernel) rfl
theorem ml_L_136 : Cond.methodLink RL 136 yX9_dated ∈ zT := zT_in (i := 922) (by decide +kernel) rfl
theorem ml_L_140 : Cond.methodLink RL 140 yX9_learnt ∈ zT := zT_in (i := 926) (by decide +kernel) rfl
theorem ml_X9_273 : Cond.methodLink RX9 273 yX1_warmthLearnt ∈ zT := zT_in (i := 930) (by decide +kernel) rfl
theorem ml_X1_31 : Cond.methodLink RX1 31 yX1_leastFor ∈ zT := zT_in (i := 934) (by decide +kernel) rfl
theorem mn_X1_46 : (RX1, 46, yX9_cut, "BlackGlass") ∈ zNests := List.mem_of_getElem? (i := 15) rfl
theorem ml_X1_35 : Cond.methodLink RX1 35 Lib.Math.max.name ∈ zT := zT_in (i := 938) (by decide +kernel) rfl
theorem ml_X1_40 : Cond.methodLink RX1 40 yX1_greatestFor ∈ zT := zT_in (i := 939) (by decide +kernel) rfl
theorem ml_X1_43 : Cond.methodLink RX1 43 Lib.Math.min.name ∈ zT := zT_in (i := 942) (by decide +kernel) rfl
theorem ml_L_144 : Cond.methodLink RL 144 yX9_count ∈ zT := zT_in (i := 943) (by decide +kernel) rfl
theorem ml_X9_276 : Cond.methodLink RX9 276 yX3_toldFlows ∈ zT := zT_in (i := 947) (by decide +kernel) rfl
theorem ml_X9_288 : Cond.methodLink RX9 288 yX0_strikes ∈ zT := zT_in (i := 951) (by decide +kernel) rfl
theorem ml_L_12 : Cond.methodLink RL 12 yX10_init ∈ zT := zT_in (i := 957) (by decide +kernel) rfl
theorem ml_X10_1 : Cond.methodLink RX10 1 objectInit ∈ zT := zT_in (i := 960) (by decide +kernel) rfl
theorem ml_L_19 : Cond.methodLink RL 19 yX10_write ∈ zT := zT_in (i := 1052) (by decide +kernel) rfl
theorem ml_X10_71 : Cond.methodLink RX10 71 yX10_in ∈ zT := zT_in (i := 1056) (by decide +kernel) rfl
theorem ml_L_24 : Cond.methodLink RL 24 yX10_erase ∈ zT := zT_in (i := 1060) (by decide +kernel) rfl
theorem ml_L_28 : Cond.methodLink RL 28 yX10_fault ∈ zT := zT_in (i := 1064) (by decide +kernel) rfl
theorem ml_X10_149 : Cond.methodLink RX10 149 yX10_isRead ∈ zT := zT_in (i := 1068) (by decide +kernel) rfl
theorem ml_X10_146 : Cond.methodLink RX10 146 yX10_isLine ∈ zT := zT_in (i := 1072) (by decide +kernel) rfl
theorem ml_X10_117 : Cond.methodLink RX10 117 yX10_nextToken ∈ zT := zT_in (i := 1076) (by decide +kernel) rfl
theorem ml_X10_124 : Cond.methodLink RX10 124 yX10_isNumber ∈ zT := zT_in (i := 1092) (by decide +kernel) rfl
theorem ml_X10_120 : Cond.methodLink RX10 120 yX10_fails ∈ zT := zT_in (i := 1096) (by decide +kernel) rfl
theorem ml_X10_139 : Cond.methodLink RX10 139 yX10_isWay ∈ zT := zT_in (i := 1100) (by decide +kernel) rfl
theorem ml_L_32 : Cond.methodLink RL 32 yX10_land ∈ zT := zT_in (i := 1104) (by decide +kernel) rfl
theorem ml_X10_152 : Cond.methodLink RX10 152 yX10_doLine ∈ zT := zT_in (i := 1108) (by decide +kernel) rfl
theorem ml_L_37 : Cond.methodLink RL 37 yX10_place ∈ zT := zT_in (i := 1112) (by decide +kernel) rfl
theorem ml_X10_156 : Cond.methodLink RX10 156 yX10_isPlace ∈ zT := zT_in (i := 1116) (by decide +kernel) rfl
theorem ml_L_41 : Cond.methodLink RL 41 yX10_flow ∈ zT := zT_in (i := 1119) (by decide +kernel) rfl
theorem ml_X10_159 : Cond.methodLink RX10 159 yX10_isFlow ∈ zT := zT_in (i := 1123) (by decide +kernel) rfl
theorem ml_L_46 : Cond.methodLink RL 46 yX10_way ∈ zT := zT_in (i := 1127) (by decide +kernel) rfl
theorem ml_L_51 : Cond.methodLink RL 51 yX10_blade ∈ zT := zT_in (i := 1131) (by decide +kernel) rfl
theorem ml_X10_162 : Cond.methodLink RX10 162 yX10_areNumbers ∈ zT := zT_in (i := 1135) (by decide +kernel) rfl
theorem ml_X10_165 : Cond.methodLink RX10 165 yX10_layNumbers ∈ zT := zT_in (i := 1138) (by decide +kernel) rfl
theorem ml_L_55 : Cond.methodLink RL 55 yX10_rim ∈ zT := zT_in (i := 1142) (by decide +kernel) rfl
theorem ml_X10_169 : Cond.methodLink RX10 169 yX10_isBlade ∈ zT := zT_in (i := 1146) (by decide +kernel) rfl
theorem ml_L_59 : Cond.methodLink RL 59 yX10_measure ∈ zT := zT_in (i := 1150) (by decide +kernel) rfl
theorem ml_X10_172 : Cond.methodLink RX10 172 yX10_at ∈ zT := zT_in (i := 1154) (by decide +kernel) rfl
theorem ml_L_63 : Cond.methodLink RL 63 yX10_of ∈ zT := zT_in (i := 1158) (by decide +kernel) rfl
theorem ml_L_67 : Cond.methodLink RL 67 yX10_off ∈ zT := zT_in (i := 1162) (by decide +kernel) rfl
theorem ml_X10_176 : Cond.methodLink RX10 176 yX10_offOf ∈ zT := zT_in (i := 1166) (by decide +kernel) rfl
theorem ml_L_72 : Cond.methodLink RL 72 yX10_can ∈ zT := zT_in (i := 1170) (by decide +kernel) rfl
theorem ml_X10_179 : Cond.methodLink RX10 179 yX10_canBe ∈ zT := zT_in (i := 1174) (by decide +kernel) rfl
theorem ml_L_76 : Cond.methodLink RL 76 yX10_named ∈ zT := zT_in (i := 1178) (by decide +kernel) rfl
theorem ml_X10_183 : Cond.methodLink RX10 183 yX10_bits ∈ zT := zT_in (i := 1182) (by decide +kernel) rfl
theorem ml_L_80 : Cond.methodLink RL 80 yX10_strike ∈ zT := zT_in (i := 1185) (by decide +kernel) rfl
theorem ml_X10_186 : Cond.methodLink RX10 186 yX10_isFrom ∈ zT := zT_in (i := 1189) (by decide +kernel) rfl
theorem ml_L_84 : Cond.methodLink RL 84 yX10_undo ∈ zT := zT_in (i := 1193) (by decide +kernel) rfl
theorem ml_L_88 : Cond.methodLink RL 88 yX10_span ∈ zT := zT_in (i := 1197) (by decide +kernel) rfl
theorem ml_X10_214 : Cond.methodLink RX10 214 yX10_areYears ∈ zT := zT_in (i := 1201) (by decide +kernel) rfl
theorem ml_X10_208 : Cond.methodLink RX10 208 yX10_begin ∈ zT := zT_in (i := 1205) (by decide +kernel) rfl
theorem ml_X10_190 : Cond.methodLink RX10 190 yX10_warmthOf ∈ zT := zT_in (i := 1209) (by decide +kernel) rfl
theorem ml_X10_193 : Cond.methodLink RX10 193 yX10_ago ∈ zT := zT_in (i := 1213) (by decide +kernel) rfl
theorem ml_X10_196 : Cond.methodLink RX10 196 yX10_isReused ∈ zT := zT_in (i := 1216) (by decide +kernel) rfl
theorem ml_X10_211 : Cond.methodLink RX10 211 yX10_goRound ∈ zT := zT_in (i := 1220) (by decide +kernel) rfl
theorem ml_X10_199 : Cond.methodLink RX10 199 yX10_greater ∈ zT := zT_in (i := 1224) (by decide +kernel) rfl
theorem ml_X10_202 : Cond.methodLink RX10 202 yX10_lesser ∈ zT := zT_in (i := 1227) (by decide +kernel) rfl
theorem ml_X10_205 : Cond.methodLink RX10 205 yX10_isBelow ∈ zT := zT_in (i := 1230) (by decide +kernel) rfl
theorem ml_L_92 : Cond.methodLink RL 92 yX10_heirloom ∈ zT := zT_in (i := 1234) (by decide +kernel) rfl
theorem ml_L_96 : Cond.methodLink RL 96 yX10_from ∈ zT := zT_in (i := 1238) (by decide +kernel) rfl
theorem ml_X10_217 : Cond.methodLink RX10 217 yX10_mayBeFrom ∈ zT := zT_in (i := 1242) (by decide +kernel) rfl
theorem ml_L_100 : Cond.methodLink RL 100 yX10_chain ∈ zT := zT_in (i := 1246) (by decide +kernel) rfl
theorem ml_L_105 : Cond.methodLink RL 105 yX10_legs ∈ zT := zT_in (i := 1250) (by decide +kernel) rfl
theorem ml_X10_223 : Cond.methodLink RX10 223 yX10_layOut ∈ zT := zT_in (i := 1254) (by decide +kernel) rfl
theorem ml_X10_220 : Cond.methodLink RX10 220 yX10_isLive ∈ zT := zT_in (i := 1258) (by decide +kernel) rfl
theorem ml_L_110 : Cond.methodLink RL 110 yX10_reach ∈ zT := zT_in (i := 1262) (by decide +kernel) rfl
theorem ml_X10_227 : Cond.methodLink RX10 227 yX10_comesBy ∈ zT := zT_in (i := 1266) (by decide +kernel) rfl
theorem ml_L_114 : Cond.methodLink RL 114 yX10_boats ∈ zT := zT_in (i := 1270) (by decide +kernel) rfl
theorem ml_X10_231 : Cond.methodLink RX10 231 yX10_byBoat ∈ zT := zT_in (i := 1274) (by decide +kernel) rfl
theorem ml_L_118 : Cond.methodLink RL 118 yX10_sea ∈ zT := zT_in (i := 1278) (by decide +kernel) rfl
theorem ml_L_122 : Cond.methodLink RL 122 yX10_next ∈ zT := zT_in (i := 1282) (by decide +kernel) rfl
theorem ml_L_127 : Cond.methodLink RL 127 yX10_counts ∈ zT := zT_in (i := 1286) (by decide +kernel) rfl
theorem ml_L_131 : Cond.methodLink RL 131 yX10_miss ∈ zT := zT_in (i := 1290) (by decide +kernel) rfl
theorem ml_X10_239 : Cond.methodLink RX10 239 yX10_missBy ∈ zT := zT_in (i := 1294) (by decide +kernel) rfl
theorem ml_X10_235 : Cond.methodLink RX10 235 yX10_shareBy ∈ zT := zT_in (i := 1298) (by decide +kernel) rfl
theorem ml_L_135 : Cond.methodLink RL 135 yX10_law ∈ zT := zT_in (i := 1301) (by decide +kernel) rfl
theorem ml_L_139 : Cond.methodLink RL 139 yX10_dated ∈ zT := zT_in (i := 1305) (by decide +kernel) rfl
theorem ml_L_143 : Cond.methodLink RL 143 yX10_learnt ∈ zT := zT_in (i := 1309) (by decide +kernel) rfl
theorem ml_L_147 : Cond.methodLink RL 147 yX10_count ∈ zT := zT_in (i := 1313) (by decide +kernel) rfl
theorem zma_max_s : Cond.static Lib.Math.max.name ∈ zT := zT_in (i := 614) (by decide +kernel) rfl
theorem zma_max_c : Cond.code Lib.Math.max.name Lib.Math.max.code 2 (some .int) ∈ zT := zT_in (i := 615) (by decide +kernel) rfl
theorem zma_min_s : Cond.static Lib.Math.min.name ∈ zT := zT_in (i := 438) (by decide +kernel) rfl
theorem zma_min_c : Cond.code Lib.Math.min.name Lib.Math.min.code 2 (some .int) ∈ zT := zT_in (i := 439) (by decide +kernel) rfl
theorem zma_abs_s : Cond.static Lib.Math.abs.name ∈ zT := zT_in (i := 611) (by decide +kernel) rfl
theorem zma_abs_c : Cond.code Lib.Math.abs.name Lib.Math.abs.code 1 (some .int) ∈ zT := zT_in (i := 612) (by decide +kernel) rfl
theorem zma_i : Cond.initialized "java/lang/Math" ∈ zT := zT_in (i := 64) (by decide +kernel) rfl
theorem zac_n : Cond.native arraycopyName ∈ zT := zT_in (i := 701) (by decide +kernel) rfl
theorem zac_s : Cond.static arraycopyName ∈ zT := zT_in (i := 700) (by decide +kernel) rfl
theorem zac_i : Cond.initialized "java/lang/System" ∈ zT := zT_in (i := 70) (by decide +kernel) rfl
theorem ko_J6_265 : Cond.constant RJ6 265 (1431655765) ∈ zT := zT_in (i := 640) (by decide +kernel) rfl
theorem ko_J6_266 : Cond.constant RJ6 266 (858993459) ∈ zT := zT_in (i := 641) (by decide +kernel) rfl
theorem ko_J6_267 : Cond.constant RJ6 267 (252645135) ∈ zT := zT_in (i := 642) (by decide +kernel) rfl
theorem ko_X10_84 : Cond.constantLong RX10 84 (255) ∈ zT := zT_in (i := 1059) (by decide +kernel) rfl
theorem ko_X10_98 : Cond.constantLong RX10 98 (-2) ∈ zT := zT_in (i := 1080) (by decide +kernel) rfl
theorem ko_X10_104 : Cond.constantLong RX10 104 (27) ∈ zT := zT_in (i := 1081) (by decide +kernel) rfl
theorem ko_X10_106 : Cond.constantLong RX10 106 (96) ∈ zT := zT_in (i := 1082) (by decide +kernel) rfl
theorem ko_X10_108 : Cond.constantLong RX10 108 (-4) ∈ zT := zT_in (i := 1083) (by decide +kernel) rfl
theorem ko_X10_110 : Cond.constantLong RX10 110 (-1) ∈ zT := zT_in (i := 1084) (by decide +kernel) rfl
theorem ko_X10_112 : Cond.constantLong RX10 112 (-3) ∈ zT := zT_in (i := 1085) (by decide +kernel) rfl
theorem ko_X10_127 : Cond.constantLong RX10 127 (8740067) ∈ zT := zT_in (i := 1086) (by decide +kernel) rfl
theorem ko_X10_129 : Cond.constantLong RX10 129 (127274) ∈ zT := zT_in (i := 1087) (by decide +kernel) rfl
theorem ko_X10_131 : Cond.constantLong RX10 131 (237307) ∈ zT := zT_in (i := 1088) (by decide +kernel) rfl
theorem ko_X10_133 : Cond.constantLong RX10 133 (50348) ∈ zT := zT_in (i := 1089) (by decide +kernel) rfl
theorem ko_X10_135 : Cond.constantLong RX10 135 (279252) ∈ zT := zT_in (i := 1090) (by decide +kernel) rfl
theorem ko_X10_137 : Cond.constantLong RX10 137 (4419) ∈ zT := zT_in (i := 1091) (by decide +kernel) rfl
theorem ko_L_13 : Cond.constantLong RL 13 (4294967295) ∈ zT := zT_in (i := 1317) (by decide +kernel) rfl
end
