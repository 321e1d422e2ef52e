def zshA : List zC := [.inl (9, [.inr 1, .inr 4, .inr 17, .inr 27, .inr 28, .inr 32, .inr 36, .inr 38, .inr 43]), .inl (7, [.inr 2, .inl false, .inr 3, .inl false, .inl false, .inl false]), .inr (false, 200), .inr (false, 64), .inl (3, [.inr 5, .inr 6, .inr 7, .inr 8, .inr 9, .inr 10, .inr 11, .inr 12, .inr 13, .inr 14, .inr 15, .inr 16, .inl false, .inl false]), .inr (false, 10), .inr (false, 10), .inr (false, 10), .inr (true, 9), .inr (false, 9), .inr (false, 9), .inr (false, 27), .inr (false, 9), .inr (false, 100), .inr (false, 100), .inr (false, 10), .inr (false, 10), .inl (0, [.inl false, .inr 18, .inr 19, .inr 20, .inr 21, .inr 22, .inr 23, .inr 24, .inr 25, .inr 26]), .inr (false, 12), .inr (false, 36), .inr (false, 12), .inr (false, 12), .inr (false, 12), .inr (false, 12), .inr (false, 12), .inr (false, 12), .inr (false, 12), .inl (2, [.inr 4, .inr 17]), .inl (8, [.inr 4, .inr 17, .inr 27, .inr 29, .inr 30, .inr 31]), .inr (false, 72), .inr (false, 72), .inr (false, 12), .inl (5, [.inr 17, .inr 28, .inr 33, .inr 34, .inr 35, .inl false]), .inr (false, 12), .inr (false, 12), .inr (false, 12), .inl (4, [.inr 4, .inr 17, .inr 28, .inr 37]), .inr (false, 10), .inl (6, [.inr 4, .inr 36, .inr 39, .inr 40, .inr 41, .inr 42, .inl false]), .inr (false, 90), .inr (false, 90), .inr (false, 10), .inr (false, 10), .inl (1, [.inr 17])]
theorem rcA_0 : zRc zshA 0 RX9 := ⟨9, _, _, rfl, rfl, rfl⟩
theorem rcA_1 : zRc zshA 1 RX7 := ⟨7, _, _, rfl, rfl, rfl⟩
theorem sA_2 : zshA[2]? = some (.inr (false, 200)) := rfl
theorem sA_3 : zshA[3]? = some (.inr (false, 64)) := rfl
theorem rcA_4 : zRc zshA 4 RX3 := ⟨3, _, _, rfl, rfl, rfl⟩
theorem sA_5 : zshA[5]? = some (.inr (false, 10)) := rfl
theorem sA_6 : zshA[6]? = some (.inr (false, 10)) := rfl
theorem sA_7 : zshA[7]? = some (.inr (false, 10)) := rfl
theorem sA_8 : zshA[8]? = some (.inr (true, 9)) := rfl
theorem sA_9 : zshA[9]? = some (.inr (false, 9)) := rfl
theorem sA_10 : zshA[10]? = some (.inr (false, 9)) := rfl
theorem sA_11 : zshA[11]? = some (.inr (false, 27)) := rfl
theorem sA_12 : zshA[12]? = some (.inr (false, 9)) := rfl
theorem sA_13 : zshA[13]? = some (.inr (false, 100)) := rfl
theorem sA_14 : zshA[14]? = some (.inr (false, 100)) := rfl
theorem sA_15 : zshA[15]? = some (.inr (false, 10)) := rfl
theorem sA_16 : zshA[16]? = some (.inr (false, 10)) := rfl
theorem rcA_17 : zRc zshA 17 RX0 := ⟨0, _, _, rfl, rfl, rfl⟩
theorem sA_18 : zshA[18]? = some (.inr (false, 12)) := rfl
theorem sA_19 : zshA[19]? = some (.inr (false, 36)) := rfl
theorem sA_20 : zshA[20]? = some (.inr (false, 12)) := rfl
theorem sA_21 : zshA[21]? = some (.inr (false, 12)) := rfl
theorem sA_22 : zshA[22]? = some (.inr (false, 12)) := rfl
theorem sA_23 : zshA[23]? = some (.inr (false, 12)) := rfl
theorem sA_24 : zshA[24]? = some (.inr (false, 12)) := rfl
theorem sA_25 : zshA[25]? = some (.inr (false, 12)) := rfl
theorem sA_26 : zshA[26]? = some (.inr (false, 12)) := rfl
theorem rcA_27 : zRc zshA 27 RX2 := ⟨2, _, _, rfl, rfl, rfl⟩
theorem rcA_28 : zRc zshA 28 RX8 := ⟨8, _, _, rfl, rfl, rfl⟩
theorem sA_29 : zshA[29]? = some (.inr (false, 72)) := rfl
theorem sA_30 : zshA[30]? = some (.inr (false, 72)) := rfl
theorem sA_31 : zshA[31]? = some (.inr (false, 12)) := rfl
theorem rcA_32 : zRc zshA 32 RX5 := ⟨5, _, _, rfl, rfl, rfl⟩
theorem sA_33 : zshA[33]? = some (.inr (false, 12)) := rfl
theorem sA_34 : zshA[34]? = some (.inr (false, 12)) := rfl
theorem sA_35 : zshA[35]? = some (.inr (false, 12)) := rfl
theorem rcA_36 : zRc zshA 36 RX4 := ⟨4, _, _, rfl, rfl, rfl⟩
theorem sA_37 : zshA[37]? = some (.inr (false, 10)) := rfl
theorem rcA_38 : zRc zshA 38 RX6 := ⟨6, _, _, rfl, rfl, rfl⟩
theorem sA_39 : zshA[39]? = some (.inr (false, 90)) := rfl
theorem sA_40 : zshA[40]? = some (.inr (false, 90)) := rfl
theorem sA_41 : zshA[41]? = some (.inr (false, 10)) := rfl
theorem sA_42 : zshA[42]? = some (.inr (false, 10)) := rfl
theorem rcA_43 : zRc zshA 43 RX1 := ⟨1, _, _, rfl, rfl, rfl⟩
theorem lgA (q : Nat) : ∀ (sl : List (Bool ⊕ Nat)) (ci : Nat), zshA[q]? = some (.inl (ci, sl)) → sl.length ≤ 1000 := by
  intro sl ci h
  have h1 := List.all_eq_true.mp (show zshA.all (fun c => match c with | .inl o => decide (o.2.length ≤ 1000) | .inr _ => true) = true by decide +kernel) _ (List.mem_of_getElem? h)
  simpa using h1
def zshB : List zC := [.inl (10, [.inr 1, .inr 2, .inr 3, .inl false, .inl false, .inl false, .inl false, .inr 4, .inl false, .inl false, .inl true, .inl false, .inl false, .inl false, .inl false, .inr 5, .inl false, .inr 6, .inr 7, .inr 8, .inr 9, .inr 10, .inr 11, .inr 12, .inr 13, .inr 14, .inr 15, .inr 16, .inr 17, .inr 18]), .inr (false, 30), .inr (false, 200), .inr (false, 54), .inr (false, 200), .inr (false, 64), .inr (false, 132), .inr (false, 12), .inr (false, 12), .inr (false, 12), .inr (false, 12), .inr (false, 12), .inr (false, 12), .inr (false, 12), .inr (false, 12), .inr (false, 10), .inr (false, 10), .inr (false, 90), .inr (false, 90)]
theorem rcB_0 : zRc zshB 0 RX10 := ⟨10, _, _, rfl, rfl, rfl⟩
theorem sB_1 : zshB[1]? = some (.inr (false, 30)) := rfl
theorem sB_2 : zshB[2]? = some (.inr (false, 200)) := rfl
theorem sB_3 : zshB[3]? = some (.inr (false, 54)) := rfl
theorem sB_4 : zshB[4]? = some (.inr (false, 200)) := rfl
theorem sB_5 : zshB[5]? = some (.inr (false, 64)) := rfl
theorem sB_6 : zshB[6]? = some (.inr (false, 132)) := rfl
theorem sB_7 : zshB[7]? = some (.inr (false, 12)) := rfl
theorem sB_8 : zshB[8]? = some (.inr (false, 12)) := rfl
theorem sB_9 : zshB[9]? = some (.inr (false, 12)) := rfl
theorem sB_10 : zshB[10]? = some (.inr (false, 12)) := rfl
theorem sB_11 : zshB[11]? = some (.inr (false, 12)) := rfl
theorem sB_12 : zshB[12]? = some (.inr (false, 12)) := rfl
theorem sB_13 : zshB[13]? = some (.inr (false, 12)) := rfl
theorem sB_14 : zshB[14]? = some (.inr (false, 12)) := rfl
theorem sB_15 : zshB[15]? = some (.inr (false, 10)) := rfl
theorem sB_16 : zshB[16]? = some (.inr (false, 10)) := rfl
theorem sB_17 : zshB[17]? = some (.inr (false, 90)) := rfl
theorem sB_18 : zshB[18]? = some (.inr (false, 90)) := rfl
theorem lgB (q : Nat) : ∀ (sl : List (Bool ⊕ Nat)) (ci : Nat), zshB[q]? = some (.inl (ci, sl)) → sl.length ≤ 1000 := by
  intro sl ci h
  have h1 := List.all_eq_true.mp (show zshB.all (fun c => match c with | .inl o => decide (o.2.length ≤ 1000) | .inr _ => true) = true by decide +kernel) _ (List.mem_of_getElem? h)
  simpa using h1
theorem fd_X9_12 : zFd zshA RX9 12 0 0 (.inr 1) := ⟨9, _, _, rfl, rfl, rfl, by decide, zT_in (i := 370) (by decide +kernel) rfl⟩
theorem fd_X9_19 : zFd zshA RX9 19 0 1 (.inr 4) := ⟨9, _, _, rfl, rfl, rfl, by decide, zT_in (i := 371) (by decide +kernel) rfl⟩
theorem fd_X9_26 : zFd zshA RX9 26 0 2 (.inr 17) := ⟨9, _, _, rfl, rfl, rfl, by decide, zT_in (i := 372) (by decide +kernel) rfl⟩
theorem fd_X9_35 : zFd zshA RX9 35 0 3 (.inr 27) := ⟨9, _, _, rfl, rfl, rfl, by decide, zT_in (i := 373) (by decide +kernel) rfl⟩
theorem fd_X9_44 : zFd zshA RX9 44 0 4 (.inr 28) := ⟨9, _, _, rfl, rfl, rfl, by decide, zT_in (i := 374) (by decide +kernel) rfl⟩
theorem fd_X9_53 : zFd zshA RX9 53 0 5 (.inr 32) := ⟨9, _, _, rfl, rfl, rfl, by decide, zT_in (i := 375) (by decide +kernel) rfl⟩
theorem fd_X9_62 : zFd zshA RX9 62 0 6 (.inr 36) := ⟨9, _, _, rfl, rfl, rfl, by decide, zT_in (i := 376) (by decide +kernel) rfl⟩
theorem fd_X9_71 : zFd zshA RX9 71 0 7 (.inr 38) := ⟨9, _, _, rfl, rfl, rfl, by decide, zT_in (i := 377) (by decide +kernel) rfl⟩
theorem fd_X9_80 : zFd zshA RX9 80 0 8 (.inr 43) := ⟨9, _, _, rfl, rfl, rfl, by decide, zT_in (i := 378) (by decide +kernel) rfl⟩
theorem fd_X9_103 : zFd zshA RX9 103 1 3 (.inl false) := ⟨7, _, _, rfl, rfl, rfl, by decide, zT_in (i := 91) (by decide +kernel) rfl⟩
theorem fd_X9_107 : zFd zshA RX9 107 1 2 (.inr 3) := ⟨7, _, _, rfl, rfl, rfl, by decide, zT_in (i := 89) (by decide +kernel) rfl⟩
theorem fd_X9_118 : zFd zshA RX9 118 4 0 (.inr 5) := ⟨3, _, _, rfl, rfl, rfl, by decide, zT_in (i := 116) (by decide +kernel) rfl⟩
theorem fd_X9_121 : zFd zshA RX9 121 4 1 (.inr 6) := ⟨3, _, _, rfl, rfl, rfl, by decide, zT_in (i := 120) (by decide +kernel) rfl⟩
theorem fd_X9_124 : zFd zshA RX9 124 4 2 (.inr 7) := ⟨3, _, _, rfl, rfl, rfl, by decide, zT_in (i := 123) (by decide +kernel) rfl⟩
theorem fd_X9_130 : zFd zshA RX9 130 4 4 (.inr 9) := ⟨3, _, _, rfl, rfl, rfl, by decide, zT_in (i := 128) (by decide +kernel) rfl⟩
theorem fd_X9_133 : zFd zshA RX9 133 4 5 (.inr 10) := ⟨3, _, _, rfl, rfl, rfl, by decide, zT_in (i := 132) (by decide +kernel) rfl⟩
theorem fd_X9_136 : zFd zshA RX9 136 4 6 (.inr 11) := ⟨3, _, _, rfl, rfl, rfl, by decide, zT_in (i := 136) (by decide +kernel) rfl⟩
theorem fd_X9_139 : zFd zshA RX9 139 4 7 (.inr 12) := ⟨3, _, _, rfl, rfl, rfl, by decide, zT_in (i := 139) (by decide +kernel) rfl⟩
theorem fd_X9_142 : zFd zshA RX9 142 4 8 (.inr 13) := ⟨3, _, _, rfl, rfl, rfl, by decide, zT_in (i := 141) (by decide +kernel) rfl⟩
theorem fd_X9_145 : zFd zshA RX9 145 4 9 (.inr 14) := ⟨3, _, _, rfl, rfl, rfl, by decide, zT_in (i := 143) (by decide +kernel) rfl⟩
theorem fd_X9_152 : zFd zshA RX9 152 17 0 (.inl false) := ⟨0, _, _, rfl, rfl, rfl, by decide, zT_in (i := 193) (by decide +kernel) rfl⟩
theorem fd_X9_166 : zFd zshA RX9 166 17 6 (.inr 23) := ⟨0, _, _, rfl, rfl, rfl, by decide, zT_in (i := 215) (by decide +kernel) rfl⟩
theorem fd_X9_169 : zFd zshA RX9 169 17 7 (.inr 24) := ⟨0, _, _, rfl, rfl, rfl, by decide, zT_in (i := 218) (by decide +kernel) rfl⟩
theorem fd_X9_172 : zFd zshA RX9 172 17 3 (.inr 20) := ⟨0, _, _, rfl, rfl, rfl, by decide, zT_in (i := 205) (by decide +kernel) rfl⟩
theorem fd_X9_175 : zFd zshA RX9 175 17 1 (.inr 18) := ⟨0, _, _, rfl, rfl, rfl, by decide, zT_in (i := 199) (by decide +kernel) rfl⟩
theorem fd_X9_178 : zFd zshA RX9 178 17 2 (.inr 19) := ⟨0, _, _, rfl, rfl, rfl, by decide, zT_in (i := 202) (by decide +kernel) rfl⟩
theorem fd_X9_181 : zFd zshA RX9 181 17 4 (.inr 21) := ⟨0, _, _, rfl, rfl, rfl, by decide, zT_in (i := 208) (by decide +kernel) rfl⟩
theorem fd_X9_184 : zFd zshA RX9 184 17 5 (.inr 22) := ⟨0, _, _, rfl, rfl, rfl, by decide, zT_in (i := 210) (by decide +kernel) rfl⟩
theorem fd_X9_187 : zFd zshA RX9 187 17 8 (.inr 25) := ⟨0, _, _, rfl, rfl, rfl, by decide, zT_in (i := 221) (by decide +kernel) rfl⟩
theorem fd_X9_234 : zFd zshA RX9 234 36 3 (.inr 37) := ⟨4, _, _, rfl, rfl, rfl, by decide, zT_in (i := 322) (by decide +kernel) rfl⟩
theorem fd_X9_270 : zFd zshA RX9 270 17 9 (.inr 26) := ⟨0, _, _, rfl, rfl, rfl, by decide, zT_in (i := 224) (by decide +kernel) rfl⟩
theorem fd_X9_279 : zFd zshA RX9 279 1 1 (.inl false) := ⟨7, _, _, rfl, rfl, rfl, by decide, zT_in (i := 87) (by decide +kernel) rfl⟩
theorem fd_X9_282 : zFd zshA RX9 282 4 12 (.inl false) := ⟨3, _, _, rfl, rfl, rfl, by decide, zT_in (i := 148) (by decide +kernel) rfl⟩
theorem fd_X9_285 : zFd zshA RX9 285 4 13 (.inl false) := ⟨3, _, _, rfl, rfl, rfl, by decide, zT_in (i := 151) (by decide +kernel) rfl⟩
theorem fd_X0_9 : zFd zshA RX0 9 17 1 (.inr 18) := ⟨0, _, _, rfl, rfl, rfl, by decide, zT_in (i := 195) (by decide +kernel) rfl⟩
theorem fd_X0_15 : zFd zshA RX0 15 17 2 (.inr 19) := ⟨0, _, _, rfl, rfl, rfl, by decide, zT_in (i := 200) (by decide +kernel) rfl⟩
theorem fd_X0_18 : zFd zshA RX0 18 17 3 (.inr 20) := ⟨0, _, _, rfl, rfl, rfl, by decide, zT_in (i := 203) (by decide +kernel) rfl⟩
theorem fd_X0_21 : zFd zshA RX0 21 17 4 (.inr 21) := ⟨0, _, _, rfl, rfl, rfl, by decide, zT_in (i := 206) (by decide +kernel) rfl⟩
theorem fd_X0_24 : zFd zshA RX0 24 17 5 (.inr 22) := ⟨0, _, _, rfl, rfl, rfl, by decide, zT_in (i := 209) (by decide +kernel) rfl⟩
theorem fd_X0_27 : zFd zshA RX0 27 17 6 (.inr 23) := ⟨0, _, _, rfl, rfl, rfl, by decide, zT_in (i := 212) (by decide +kernel) rfl⟩
theorem fd_X0_30 : zFd zshA RX0 30 17 7 (.inr 24) := ⟨0, _, _, rfl, rfl, rfl, by decide, zT_in (i := 216) (by decide +kernel) rfl⟩
theorem fd_X0_33 : zFd zshA RX0 33 17 8 (.inr 25) := ⟨0, _, _, rfl, rfl, rfl, by decide, zT_in (i := 219) (by decide +kernel) rfl⟩
theorem fd_X0_36 : zFd zshA RX0 36 17 9 (.inr 26) := ⟨0, _, _, rfl, rfl, rfl, by decide, zT_in (i := 222) (by decide +kernel) rfl⟩
theorem fd_X0_39 : zFd zshA RX0 39 17 0 (.inl false) := ⟨0, _, _, rfl, rfl, rfl, by decide, zT_in (i := 188) (by decide +kernel) rfl⟩
theorem fd_X1_9 : zFd zshA RX1 9 43 0 (.inr 17) := ⟨1, _, _, rfl, rfl, rfl, by decide, zT_in (i := 366) (by decide +kernel) rfl⟩
theorem fd_X1_15 : zFd zshA RX1 15 17 0 (.inl false) := ⟨0, _, _, rfl, rfl, rfl, by decide, zT_in (i := 189) (by decide +kernel) rfl⟩
theorem fd_X1_21 : zFd zshA RX1 21 17 1 (.inr 18) := ⟨0, _, _, rfl, rfl, rfl, by decide, zT_in (i := 196) (by decide +kernel) rfl⟩
theorem fd_X1_25 : zFd zshA RX1 25 17 6 (.inr 23) := ⟨0, _, _, rfl, rfl, rfl, by decide, zT_in (i := 213) (by decide +kernel) rfl⟩
theorem fd_X1_28 : zFd zshA RX1 28 17 9 (.inr 26) := ⟨0, _, _, rfl, rfl, rfl, by decide, zT_in (i := 223) (by decide +kernel) rfl⟩
theorem fd_X2_9 : zFd zshA RX2 9 27 0 (.inr 4) := ⟨2, _, _, rfl, rfl, rfl, by decide, zT_in (i := 252) (by decide +kernel) rfl⟩
theorem fd_X2_15 : zFd zshA RX2 15 27 1 (.inr 17) := ⟨2, _, _, rfl, rfl, rfl, by decide, zT_in (i := 253) (by decide +kernel) rfl⟩
theorem fd_X2_19 : zFd zshA RX2 19 17 2 (.inr 19) := ⟨0, _, _, rfl, rfl, rfl, by decide, zT_in (i := 201) (by decide +kernel) rfl⟩
theorem fd_X2_25 : zFd zshA RX2 25 4 6 (.inr 11) := ⟨3, _, _, rfl, rfl, rfl, by decide, zT_in (i := 135) (by decide +kernel) rfl⟩
theorem fd_X2_40 : zFd zshA RX2 40 17 3 (.inr 20) := ⟨0, _, _, rfl, rfl, rfl, by decide, zT_in (i := 204) (by decide +kernel) rfl⟩
theorem fd_X2_43 : zFd zshA RX2 43 4 7 (.inr 12) := ⟨3, _, _, rfl, rfl, rfl, by decide, zT_in (i := 138) (by decide +kernel) rfl⟩
theorem fd_X2_49 : zFd zshA RX2 49 4 3 (.inr 8) := ⟨3, _, _, rfl, rfl, rfl, by decide, zT_in (i := 125) (by decide +kernel) rfl⟩
theorem fd_X2_56 : zFd zshA RX2 56 4 12 (.inl false) := ⟨3, _, _, rfl, rfl, rfl, by decide, zT_in (i := 147) (by decide +kernel) rfl⟩
theorem fd_X2_72 : zFd zshA RX2 72 4 13 (.inl false) := ⟨3, _, _, rfl, rfl, rfl, by decide, zT_in (i := 150) (by decide +kernel) rfl⟩
theorem fd_X2_75 : zFd zshA RX2 75 4 5 (.inr 10) := ⟨3, _, _, rfl, rfl, rfl, by decide, zT_in (i := 131) (by decide +kernel) rfl⟩
theorem fd_X2_81 : zFd zshA RX2 81 17 0 (.inl false) := ⟨0, _, _, rfl, rfl, rfl, by decide, zT_in (i := 192) (by decide +kernel) rfl⟩
theorem fd_X3_9 : zFd zshA RX3 9 4 0 (.inr 5) := ⟨3, _, _, rfl, rfl, rfl, by decide, zT_in (i := 114) (by decide +kernel) rfl⟩
theorem fd_X3_15 : zFd zshA RX3 15 4 1 (.inr 6) := ⟨3, _, _, rfl, rfl, rfl, by decide, zT_in (i := 118) (by decide +kernel) rfl⟩
theorem fd_X3_18 : zFd zshA RX3 18 4 2 (.inr 7) := ⟨3, _, _, rfl, rfl, rfl, by decide, zT_in (i := 121) (by decide +kernel) rfl⟩
theorem fd_X3_21 : zFd zshA RX3 21 4 3 (.inr 8) := ⟨3, _, _, rfl, rfl, rfl, by decide, zT_in (i := 124) (by decide +kernel) rfl⟩
theorem fd_X3_25 : zFd zshA RX3 25 4 4 (.inr 9) := ⟨3, _, _, rfl, rfl, rfl, by decide, zT_in (i := 126) (by decide +kernel) rfl⟩
theorem fd_X3_28 : zFd zshA RX3 28 4 5 (.inr 10) := ⟨3, _, _, rfl, rfl, rfl, by decide, zT_in (i := 130) (by decide +kernel) rfl⟩
theorem fd_X3_31 : zFd zshA RX3 31 4 6 (.inr 11) := ⟨3, _, _, rfl, rfl, rfl, by decide, zT_in (i := 134) (by decide +kernel) rfl⟩
theorem fd_X3_34 : zFd zshA RX3 34 4 7 (.inr 12) := ⟨3, _, _, rfl, rfl, rfl, by decide, zT_in (i := 137) (by decide +kernel) rfl⟩
theorem fd_X3_37 : zFd zshA RX3 37 4 8 (.inr 13) := ⟨3, _, _, rfl, rfl, rfl, by decide, zT_in (i := 140) (by decide +kernel) rfl⟩
theorem fd_X3_40 : zFd zshA RX3 40 4 9 (.inr 14) := ⟨3, _, _, rfl, rfl, rfl, by decide, zT_in (i := 142) (by decide +kernel) rfl⟩
theorem fd_X3_43 : zFd zshA RX3 43 4 10 (.inr 15) := ⟨3, _, _, rfl, rfl, rfl, by decide, zT_in (i := 144) (by decide +kernel) rfl⟩
theorem fd_X3_46 : zFd zshA RX3 46 4 11 (.inr 16) := ⟨3, _, _, rfl, rfl, rfl, by decide, zT_in (i := 145) (by decide +kernel) rfl⟩
theorem fd_X3_49 : zFd zshA RX3 49 4 12 (.inl false) := ⟨3, _, _, rfl, rfl, rfl, by decide, zT_in (i := 146) (by decide +kernel) rfl⟩
theorem fd_X3_53 : zFd zshA RX3 53 4 13 (.inl false) := ⟨3, _, _, rfl, rfl, rfl, by decide, zT_in (i := 149) (by decide +kernel) rfl⟩
theorem fd_X4_9 : zFd zshA RX4 9 36 0 (.inr 4) := ⟨4, _, _, rfl, rfl, rfl, by decide, zT_in (i := 317) (by decide +kernel) rfl⟩
theorem fd_X4_15 : zFd zshA RX4 15 36 1 (.inr 17) := ⟨4, _, _, rfl, rfl, rfl, by decide, zT_in (i := 318) (by decide +kernel) rfl⟩
theorem fd_X4_19 : zFd zshA RX4 19 36 2 (.inr 28) := ⟨4, _, _, rfl, rfl, rfl, by decide, zT_in (i := 319) (by decide +kernel) rfl⟩
theorem fd_X4_23 : zFd zshA RX4 23 36 3 (.inr 37) := ⟨4, _, _, rfl, rfl, rfl, by decide, zT_in (i := 320) (by decide +kernel) rfl⟩
theorem fd_X4_66 : zFd zshA RX4 66 4 5 (.inr 10) := ⟨3, _, _, rfl, rfl, rfl, by decide, zT_in (i := 133) (by decide +kernel) rfl⟩
theorem fd_X4_74 : zFd zshA RX4 74 4 0 (.inr 5) := ⟨3, _, _, rfl, rfl, rfl, by decide, zT_in (i := 117) (by decide +kernel) rfl⟩
theorem fd_X4_81 : zFd zshA RX4 81 4 4 (.inr 9) := ⟨3, _, _, rfl, rfl, rfl, by decide, zT_in (i := 129) (by decide +kernel) rfl⟩
theorem fd_X4_84 : zFd zshA RX4 84 17 1 (.inr 18) := ⟨0, _, _, rfl, rfl, rfl, by decide, zT_in (i := 198) (by decide +kernel) rfl⟩
theorem fd_X4_99 : zFd zshA RX4 99 17 0 (.inl false) := ⟨0, _, _, rfl, rfl, rfl, by decide, zT_in (i := 194) (by decide +kernel) rfl⟩
theorem fd_X4_107 : zFd zshA RX4 107 28 5 (.inr 31) := ⟨8, _, _, rfl, rfl, rfl, by decide, zT_in (i := 272) (by decide +kernel) rfl⟩
theorem fd_X5_9 : zFd zshA RX5 9 32 0 (.inr 17) := ⟨5, _, _, rfl, rfl, rfl, by decide, zT_in (i := 292) (by decide +kernel) rfl⟩
theorem fd_X5_15 : zFd zshA RX5 15 32 1 (.inr 28) := ⟨5, _, _, rfl, rfl, rfl, by decide, zT_in (i := 293) (by decide +kernel) rfl⟩
theorem fd_X5_19 : zFd zshA RX5 19 32 2 (.inr 33) := ⟨5, _, _, rfl, rfl, rfl, by decide, zT_in (i := 294) (by decide +kernel) rfl⟩
theorem fd_X5_23 : zFd zshA RX5 23 32 3 (.inr 34) := ⟨5, _, _, rfl, rfl, rfl, by decide, zT_in (i := 295) (by decide +kernel) rfl⟩
theorem fd_X5_26 : zFd zshA RX5 26 32 4 (.inr 35) := ⟨5, _, _, rfl, rfl, rfl, by decide, zT_in (i := 296) (by decide +kernel) rfl⟩
theorem fd_X5_38 : zFd zshA RX5 38 17 0 (.inl false) := ⟨0, _, _, rfl, rfl, rfl, by decide, zT_in (i := 190) (by decide +kernel) rfl⟩
theorem fd_X5_50 : zFd zshA RX5 50 32 5 (.inl false) := ⟨5, _, _, rfl, rfl, rfl, by decide, zT_in (i := 297) (by decide +kernel) rfl⟩
theorem fd_X5_53 : zFd zshA RX5 53 17 4 (.inr 21) := ⟨0, _, _, rfl, rfl, rfl, by decide, zT_in (i := 207) (by decide +kernel) rfl⟩
theorem fd_X5_71 : zFd zshA RX5 71 28 5 (.inr 31) := ⟨8, _, _, rfl, rfl, rfl, by decide, zT_in (i := 271) (by decide +kernel) rfl⟩
theorem fd_X6_9 : zFd zshA RX6 9 38 0 (.inr 4) := ⟨6, _, _, rfl, rfl, rfl, by decide, zT_in (i := 338) (by decide +kernel) rfl⟩
theorem fd_X6_15 : zFd zshA RX6 15 38 1 (.inr 36) := ⟨6, _, _, rfl, rfl, rfl, by decide, zT_in (i := 339) (by decide +kernel) rfl⟩
theorem fd_X6_19 : zFd zshA RX6 19 38 2 (.inr 39) := ⟨6, _, _, rfl, rfl, rfl, by decide, zT_in (i := 340) (by decide +kernel) rfl⟩
theorem fd_X6_23 : zFd zshA RX6 23 38 3 (.inr 40) := ⟨6, _, _, rfl, rfl, rfl, by decide, zT_in (i := 341) (by decide +kernel) rfl⟩
theorem fd_X6_26 : zFd zshA RX6 26 38 4 (.inr 41) := ⟨6, _, _, rfl, rfl, rfl, by decide, zT_in (i := 342) (by decide +kernel) rfl⟩
theorem fd_X6_29 : zFd zshA RX6 29 38 5 (.inr 42) := ⟨6, _, _, rfl, rfl, rfl, by decide, zT_in (i := 343) (by decide +kernel) rfl⟩
theorem fd_X6_32 : zFd zshA RX6 32 4 4 (.inr 9) := ⟨3, _, _, rfl, rfl, rfl, by decide, zT_in (i := 127) (by decide +kernel) rfl⟩
theorem fd_X6_43 : zFd zshA RX6 43 38 6 (.inl false) := ⟨6, _, _, rfl, rfl, rfl, by decide, zT_in (i := 344) (by decide +kernel) rfl⟩
theorem fd_X6_47 : zFd zshA RX6 47 36 3 (.inr 37) := ⟨4, _, _, rfl, rfl, rfl, by decide, zT_in (i := 321) (by decide +kernel) rfl⟩
theorem fd_X7_9 : zFd zshA RX7 9 1 0 (.inr 2) := ⟨7, _, _, rfl, rfl, rfl, by decide, zT_in (i := 85) (by decide +kernel) rfl⟩
theorem fd_X7_15 : zFd zshA RX7 15 1 2 (.inr 3) := ⟨7, _, _, rfl, rfl, rfl, by decide, zT_in (i := 88) (by decide +kernel) rfl⟩
theorem fd_X7_18 : zFd zshA RX7 18 1 1 (.inl false) := ⟨7, _, _, rfl, rfl, rfl, by decide, zT_in (i := 86) (by decide +kernel) rfl⟩
theorem fd_X7_22 : zFd zshA RX7 22 1 5 (.inl false) := ⟨7, _, _, rfl, rfl, rfl, by decide, zT_in (i := 93) (by decide +kernel) rfl⟩
theorem fd_X7_25 : zFd zshA RX7 25 1 3 (.inl false) := ⟨7, _, _, rfl, rfl, rfl, by decide, zT_in (i := 90) (by decide +kernel) rfl⟩
theorem fd_X7_32 : zFd zshA RX7 32 1 4 (.inl false) := ⟨7, _, _, rfl, rfl, rfl, by decide, zT_in (i := 92) (by decide +kernel) rfl⟩
theorem fd_X8_9 : zFd zshA RX8 9 28 0 (.inr 4) := ⟨8, _, _, rfl, rfl, rfl, by decide, zT_in (i := 265) (by decide +kernel) rfl⟩
theorem fd_X8_15 : zFd zshA RX8 15 28 1 (.inr 17) := ⟨8, _, _, rfl, rfl, rfl, by decide, zT_in (i := 266) (by decide +kernel) rfl⟩
theorem fd_X8_19 : zFd zshA RX8 19 28 2 (.inr 27) := ⟨8, _, _, rfl, rfl, rfl, by decide, zT_in (i := 267) (by decide +kernel) rfl⟩
theorem fd_X8_23 : zFd zshA RX8 23 28 3 (.inr 29) := ⟨8, _, _, rfl, rfl, rfl, by decide, zT_in (i := 268) (by decide +kernel) rfl⟩
theorem fd_X8_27 : zFd zshA RX8 27 28 4 (.inr 30) := ⟨8, _, _, rfl, rfl, rfl, by decide, zT_in (i := 269) (by decide +kernel) rfl⟩
theorem fd_X8_30 : zFd zshA RX8 30 28 5 (.inr 31) := ⟨8, _, _, rfl, rfl, rfl, by decide, zT_in (i := 270) (by decide +kernel) rfl⟩
theorem fd_X8_40 : zFd zshA RX8 40 17 0 (.inl false) := ⟨0, _, _, rfl, rfl, rfl, by decide, zT_in (i := 191) (by decide +kernel) rfl⟩
theorem fd_X8_46 : zFd zshA RX8 46 17 1 (.inr 18) := ⟨0, _, _, rfl, rfl, rfl, by decide, zT_in (i := 197) (by decide +kernel) rfl⟩
theorem fd_X8_49 : zFd zshA RX8 49 4 2 (.inr 7) := ⟨3, _, _, rfl, rfl, rfl, by decide, zT_in (i := 122) (by decide +kernel) rfl⟩
theorem fd_X8_54 : zFd zshA RX8 54 17 6 (.inr 23) := ⟨0, _, _, rfl, rfl, rfl, by decide, zT_in (i := 214) (by decide +kernel) rfl⟩
theorem fd_X8_57 : zFd zshA RX8 57 17 7 (.inr 24) := ⟨0, _, _, rfl, rfl, rfl, by decide, zT_in (i := 217) (by decide +kernel) rfl⟩
theorem fd_X8_85 : zFd zshA RX8 85 4 0 (.inr 5) := ⟨3, _, _, rfl, rfl, rfl, by decide, zT_in (i := 115) (by decide +kernel) rfl⟩
theorem fd_X8_88 : zFd zshA RX8 88 4 1 (.inr 6) := ⟨3, _, _, rfl, rfl, rfl, by decide, zT_in (i := 119) (by decide +kernel) rfl⟩
theorem fd_X8_123 : zFd zshA RX8 123 17 8 (.inr 25) := ⟨0, _, _, rfl, rfl, rfl, by decide, zT_in (i := 220) (by decide +kernel) rfl⟩
theorem fd_X8_132 : zFd zshA RX8 132 17 5 (.inr 22) := ⟨0, _, _, rfl, rfl, rfl, by decide, zT_in (i := 211) (by decide +kernel) rfl⟩
theorem fd_X10_7 : zFd zshB RX10 7 0 0 (.inr 1) := ⟨10, _, _, rfl, rfl, rfl, by decide, zT_in (i := 961) (by decide +kernel) rfl⟩
theorem fd_X10_13 : zFd zshB RX10 13 0 1 (.inr 2) := ⟨10, _, _, rfl, rfl, rfl, by decide, zT_in (i := 962) (by decide +kernel) rfl⟩
theorem fd_X10_16 : zFd zshB RX10 16 0 2 (.inr 3) := ⟨10, _, _, rfl, rfl, rfl, by decide, zT_in (i := 963) (by decide +kernel) rfl⟩
theorem fd_X10_19 : zFd zshB RX10 19 0 4 (.inl false) := ⟨10, _, _, rfl, rfl, rfl, by decide, zT_in (i := 965) (by decide +kernel) rfl⟩
theorem fd_X10_23 : zFd zshB RX10 23 0 5 (.inl false) := ⟨10, _, _, rfl, rfl, rfl, by decide, zT_in (i := 966) (by decide +kernel) rfl⟩
theorem fd_X10_26 : zFd zshB RX10 26 0 7 (.inr 4) := ⟨10, _, _, rfl, rfl, rfl, by decide, zT_in (i := 968) (by decide +kernel) rfl⟩
theorem fd_X10_29 : zFd zshB RX10 29 0 15 (.inr 5) := ⟨10, _, _, rfl, rfl, rfl, by decide, zT_in (i := 976) (by decide +kernel) rfl⟩
theorem fd_X10_32 : zFd zshB RX10 32 0 17 (.inr 6) := ⟨10, _, _, rfl, rfl, rfl, by decide, zT_in (i := 978) (by decide +kernel) rfl⟩
theorem fd_X10_35 : zFd zshB RX10 35 0 18 (.inr 7) := ⟨10, _, _, rfl, rfl, rfl, by decide, zT_in (i := 979) (by decide +kernel) rfl⟩
theorem fd_X10_38 : zFd zshB RX10 38 0 19 (.inr 8) := ⟨10, _, _, rfl, rfl, rfl, by decide, zT_in (i := 980) (by decide +kernel) rfl⟩
theorem fd_X10_41 : zFd zshB RX10 41 0 20 (.inr 9) := ⟨10, _, _, rfl, rfl, rfl, by decide, zT_in (i := 981) (by decide +kernel) rfl⟩
theorem fd_X10_44 : zFd zshB RX10 44 0 21 (.inr 10) := ⟨10, _, _, rfl, rfl, rfl, by decide, zT_in (i := 982) (by decide +kernel) rfl⟩
theorem fd_X10_47 : zFd zshB RX10 47 0 22 (.inr 11) := ⟨10, _, _, rfl, rfl, rfl, by decide, zT_in (i := 983) (by decide +kernel) rfl⟩
theorem fd_X10_50 : zFd zshB RX10 50 0 23 (.inr 12) := ⟨10, _, _, rfl, rfl, rfl, by decide, zT_in (i := 984) (by decide +kernel) rfl⟩
theorem fd_X10_53 : zFd zshB RX10 53 0 24 (.inr 13) := ⟨10, _, _, rfl, rfl, rfl, by decide, zT_in (i := 985) (by decide +kernel) rfl⟩
theorem fd_X10_56 : zFd zshB RX10 56 0 25 (.inr 14) := ⟨10, _, _, rfl, rfl, rfl, by decide, zT_in (i := 986) (by decide +kernel) rfl⟩
theorem fd_X10_59 : zFd zshB RX10 59 0 26 (.inr 15) := ⟨10, _, _, rfl, rfl, rfl, by decide, zT_in (i := 987) (by decide +kernel) rfl⟩
theorem fd_X10_62 : zFd zshB RX10 62 0 27 (.inr 16) := ⟨10, _, _, rfl, rfl, rfl, by decide, zT_in (i := 988) (by decide +kernel) rfl⟩
theorem fd_X10_65 : zFd zshB RX10 65 0 28 (.inr 17) := ⟨10, _, _, rfl, rfl, rfl, by decide, zT_in (i := 989) (by decide +kernel) rfl⟩
theorem fd_X10_68 : zFd zshB RX10 68 0 29 (.inr 18) := ⟨10, _, _, rfl, rfl, rfl, by decide, zT_in (i := 990) (by decide +kernel) rfl⟩
theorem fd_X10_75 : zFd zshB RX10 75 0 3 (.inl false) := ⟨10, _, _, rfl, rfl, rfl, by decide, zT_in (i := 964) (by decide +kernel) rfl⟩
theorem fd_X10_78 : zFd zshB RX10 78 0 16 (.inl false) := ⟨10, _, _, rfl, rfl, rfl, by decide, zT_in (i := 977) (by decide +kernel) rfl⟩
theorem fd_X10_81 : zFd zshB RX10 81 0 6 (.inl false) := ⟨10, _, _, rfl, rfl, rfl, by decide, zT_in (i := 967) (by decide +kernel) rfl⟩
theorem fd_X10_86 : zFd zshB RX10 86 0 8 (.inl false) := ⟨10, _, _, rfl, rfl, rfl, by decide, zT_in (i := 969) (by decide +kernel) rfl⟩
theorem fd_X10_89 : zFd zshB RX10 89 0 9 (.inl false) := ⟨10, _, _, rfl, rfl, rfl, by decide, zT_in (i := 970) (by decide +kernel) rfl⟩
theorem fd_X10_92 : zFd zshB RX10 92 0 11 (.inl false) := ⟨10, _, _, rfl, rfl, rfl, by decide, zT_in (i := 972) (by decide +kernel) rfl⟩
theorem fd_X10_95 : zFd zshB RX10 95 0 12 (.inl false) := ⟨10, _, _, rfl, rfl, rfl, by decide, zT_in (i := 973) (by decide +kernel) rfl⟩
theorem fd_X10_100 : zFd zshB RX10 100 0 10 (.inl true) := ⟨10, _, _, rfl, rfl, rfl, by decide, zT_in (i := 971) (by decide +kernel) rfl⟩
theorem fd_X10_114 : zFd zshB RX10 114 0 13 (.inl false) := ⟨10, _, _, rfl, rfl, rfl, by decide, zT_in (i := 974) (by decide +kernel) rfl⟩
theorem fd_X10_143 : zFd zshB RX10 143 0 14 (.inl false) := ⟨10, _, _, rfl, rfl, rfl, by decide, zT_in (i := 975) (by decide +kernel) rfl⟩
theorem fwA_17_0 : zFw zshA 17 0 "I" := ⟨0, _, _, rfl, rfl, rfl, rfl⟩
theorem fwA_4_13 : zFw zshA 4 13 "I" := ⟨3, _, _, rfl, rfl, rfl, rfl⟩
theorem fwA_4_12 : zFw zshA 4 12 "I" := ⟨3, _, _, rfl, rfl, rfl, rfl⟩
theorem fwA_32_5 : zFw zshA 32 5 "I" := ⟨5, _, _, rfl, rfl, rfl, rfl⟩
theorem fwA_38_6 : zFw zshA 38 6 "I" := ⟨6, _, _, rfl, rfl, rfl, rfl⟩
theorem fwA_1_5 : zFw zshA 1 5 "I" := ⟨7, _, _, rfl, rfl, rfl, rfl⟩
theorem fwA_1_1 : zFw zshA 1 1 "I" := ⟨7, _, _, rfl, rfl, rfl, rfl⟩
theorem fwA_1_3 : zFw zshA 1 3 "I" := ⟨7, _, _, rfl, rfl, rfl, rfl⟩
theorem fwA_1_4 : zFw zshA 1 4 "I" := ⟨7, _, _, rfl, rfl, rfl, rfl⟩
theorem fwB_0_16 : zFw zshB 0 16 "I" := ⟨10, _, _, rfl, rfl, rfl, rfl⟩
theorem fwB_0_6 : zFw zshB 0 6 "I" := ⟨10, _, _, rfl, rfl, rfl, rfl⟩
theorem fwB_0_11 : zFw zshB 0 11 "I" := ⟨10, _, _, rfl, rfl, rfl, rfl⟩
theorem fwB_0_5 : zFw zshB 0 5 "I" := ⟨10, _, _, rfl, rfl, rfl, rfl⟩
theorem fwB_0_13 : zFw zshB 0 13 "I" := ⟨10, _, _, rfl, rfl, rfl, rfl⟩
theorem fwB_0_4 : zFw zshB 0 4 "I" := ⟨10, _, _, rfl, rfl, rfl, rfl⟩
theorem fwB_0_12 : zFw zshB 0 12 "I" := ⟨10, _, _, rfl, rfl, rfl, rfl⟩
theorem fwB_0_8 : zFw zshB 0 8 "I" := ⟨10, _, _, rfl, rfl, rfl, rfl⟩
theorem fwB_0_14 : zFw zshB 0 14 "I" := ⟨10, _, _, rfl, rfl, rfl, rfl⟩
theorem fwB_0_10 : zFw zshB 0 10 "J" := ⟨10, _, _, rfl, rfl, rfl, rfl⟩
theorem fwB_0_9 : zFw zshB 0 9 "I" := ⟨10, _, _, rfl, rfl, rfl, rfl⟩
theorem fwB_0_3 : zFw zshB 0 3 "I" := ⟨10, _, _, rfl, rfl, rfl, rfl⟩
set_option maxRecDepth 20000 in
theorem zy_X0_init : zY yX0_init cX0_init 1 none 0 := ⟨zT_in (i := 56) (by decide +kernel) rfl, zT_in (i := 186) (by decide +kernel) rfl, by decide +kernel, by decide⟩
set_option maxRecDepth 20000 in
theorem zy_X0_has : zY yX0_has cX0_has 2 (some .boolean) 1 := ⟨zT_in (i := 56) (by decide +kernel) rfl, zT_in (i := 592) (by decide +kernel) rfl, by decide +kernel, by decide⟩
theorem zv_X0_has : zYv yX0_has := ⟨zT_in (i := 590) (by decide +kernel) rfl, zT_in (i := 591) (by decide +kernel) rfl⟩
set_option maxRecDepth 20000 in
theorem zy_X0_add : zY yX0_add cX0_add 5 (some .int) 3 := ⟨zT_in (i := 56) (by decide +kernel) rfl, zT_in (i := 579) (by decide +kernel) rfl, by decide +kernel, by decide⟩
theorem zv_X0_add : zYv yX0_add := ⟨zT_in (i := 577) (by decide +kernel) rfl, zT_in (i := 578) (by decide +kernel) rfl⟩
set_option maxRecDepth 20000 in
theorem zy_X0_setMeasured : zY yX0_setMeasured cX0_setMeasured 5 none 3 := ⟨zT_in (i := 56) (by decide +kernel) rfl, zT_in (i := 583) (by decide +kernel) rfl, by decide +kernel, by decide⟩
theorem zv_X0_setMeasured : zYv yX0_setMeasured := ⟨zT_in (i := 581) (by decide +kernel) rfl, zT_in (i := 582) (by decide +kernel) rfl⟩
set_option maxRecDepth 20000 in
theorem zy_X0_isReused : zY yX0_isReused cX0_isReused 2 (some .boolean) 1 := ⟨zT_in (i := 56) (by decide +kernel) rfl, zT_in (i := 665) (by decide +kernel) rfl, by decide +kernel, by decide⟩
theorem zv_X0_isReused : zYv yX0_isReused := ⟨zT_in (i := 663) (by decide +kernel) rfl, zT_in (i := 664) (by decide +kernel) rfl⟩
set_option maxRecDepth 20000 in
theorem zy_X0_comesFrom : zY yX0_comesFrom cX0_comesFrom 5 (some .boolean) 2 := ⟨zT_in (i := 56) (by decide +kernel) rfl, zT_in (i := 653) (by decide +kernel) rfl, by decide +kernel, by decide⟩
theorem zv_X0_comesFrom : zYv yX0_comesFrom := ⟨zT_in (i := 651) (by decide +kernel) rfl, zT_in (i := 652) (by decide +kernel) rfl⟩
set_option maxRecDepth 20000 in
theorem zy_X0_strikes : zY yX0_strikes cX0_strikes 3 (some .int) 0 := ⟨zT_in (i := 56) (by decide +kernel) rfl, zT_in (i := 954) (by decide +kernel) rfl, by decide +kernel, by decide⟩
theorem zv_X0_strikes : zYv yX0_strikes := ⟨zT_in (i := 952) (by decide +kernel) rfl, zT_in (i := 953) (by decide +kernel) rfl⟩
set_option maxRecDepth 20000 in
theorem zy_X1_init : zY yX1_init cX1_init 2 none 1 := ⟨zT_in (i := 62) (by decide +kernel) rfl, zT_in (i := 364) (by decide +kernel) rfl, by decide +kernel, by decide⟩
set_option maxRecDepth 20000 in
theorem zy_X1_warmthLearnt : zY yX1_warmthLearnt cX1_warmthLearnt 7 (some .int) 2 := ⟨zT_in (i := 62) (by decide +kernel) rfl, zT_in (i := 933) (by decide +kernel) rfl, by decide +kernel, by decide⟩
theorem zv_X1_warmthLearnt : zYv yX1_warmthLearnt := ⟨zT_in (i := 931) (by decide +kernel) rfl, zT_in (i := 932) (by decide +kernel) rfl⟩
set_option maxRecDepth 20000 in
theorem zy_X1_leastFor : zY yX1_leastFor cX1_leastFor 2 (some .int) 2 := ⟨zT_in (i := 62) (by decide +kernel) rfl, zT_in (i := 936) (by decide +kernel) rfl, by decide +kernel, by decide⟩
theorem zs_X1_leastFor : Cond.static yX1_leastFor ∈ zT := zT_in (i := 935) (by decide +kernel) rfl
set_option maxRecDepth 20000 in
theorem zy_X1_greatestFor : zY yX1_greatestFor cX1_greatestFor 2 (some .int) 2 := ⟨zT_in (i := 62) (by decide +kernel) rfl, zT_in (i := 941) (by decide +kernel) rfl, by decide +kernel, by decide⟩
theorem zs_X1_greatestFor : Cond.static yX1_greatestFor ∈ zT := zT_in (i := 940) (by decide +kernel) rfl
set_option maxRecDepth 20000 in
theorem zy_X2_init : zY yX2_init cX2_init 3 none 2 := ⟨zT_in (i := 57) (by decide +kernel) rfl, zT_in (i := 250) (by decide +kernel) rfl, by decide +kernel, by decide⟩
set_option maxRecDepth 20000 in
theorem zy_X2_offBetween : zY yX2_offBetween cX2_offBetween 7 (some .int) 2 := ⟨zT_in (i := 57) (by decide +kernel) rfl, zT_in (i := 609) (by decide +kernel) rfl, by decide +kernel, by decide⟩
theorem zv_X2_offBetween : zYv yX2_offBetween := ⟨zT_in (i := 607) (by decide +kernel) rfl, zT_in (i := 608) (by decide +kernel) rfl⟩
set_option maxRecDepth 20000 in
theorem zy_X2_canBeOf : zY yX2_canBeOf cX2_canBeOf 4 (some .int) 1 := ⟨zT_in (i := 57) (by decide +kernel) rfl, zT_in (i := 626) (by decide +kernel) rfl, by decide +kernel, by decide⟩
theorem zv_X2_canBeOf : zYv yX2_canBeOf := ⟨zT_in (i := 624) (by decide +kernel) rfl, zT_in (i := 625) (by decide +kernel) rfl⟩
set_option maxRecDepth 20000 in
theorem zy_X2_nameOf : zY yX2_nameOf cX2_nameOf 5 (some .int) 1 := ⟨zT_in (i := 57) (by decide +kernel) rfl, zT_in (i := 635) (by decide +kernel) rfl, by decide +kernel, by decide⟩
theorem zv_X2_nameOf : zYv yX2_nameOf := ⟨zT_in (i := 633) (by decide +kernel) rfl, zT_in (i := 634) (by decide +kernel) rfl⟩
set_option maxRecDepth 20000 in
theorem zy_X2_firstOpen : zY yX2_firstOpen cX2_firstOpen 4 (some .int) 1 := ⟨zT_in (i := 57) (by decide +kernel) rfl, zT_in (i := 678) (by decide +kernel) rfl, by decide +kernel, by decide⟩
theorem zv_X2_firstOpen : zYv yX2_firstOpen := ⟨zT_in (i := 676) (by decide +kernel) rfl, zT_in (i := 677) (by decide +kernel) rfl⟩
set_option maxRecDepth 20000 in
theorem zy_X2_nextToMeasure : zY yX2_nextToMeasure cX2_nextToMeasure 7 (some .int) 0 := ⟨zT_in (i := 57) (by decide +kernel) rfl, zT_in (i := 884) (by decide +kernel) rfl, by decide +kernel, by decide⟩
theorem zv_X2_nextToMeasure : zYv yX2_nextToMeasure := ⟨zT_in (i := 882) (by decide +kernel) rfl, zT_in (i := 883) (by decide +kernel) rfl⟩
set_option maxRecDepth 20000 in
theorem zy_X3_init : zY yX3_init cX3_init 2 none 0 := ⟨zT_in (i := 55) (by decide +kernel) rfl, zT_in (i := 112) (by decide +kernel) rfl, by decide +kernel, by decide⟩
set_option maxRecDepth 20000 in
theorem zy_X3_isTold : zY yX3_isTold cX3_isTold 2 (some .boolean) 1 := ⟨zT_in (i := 55) (by decide +kernel) rfl, zT_in (i := 560) (by decide +kernel) rfl, by decide +kernel, by decide⟩
theorem zv_X3_isTold : zYv yX3_isTold := ⟨zT_in (i := 558) (by decide +kernel) rfl, zT_in (i := 559) (by decide +kernel) rfl⟩
set_option maxRecDepth 20000 in
theorem zy_X3_toldFlows : zY yX3_toldFlows cX3_toldFlows 3 (some .int) 0 := ⟨zT_in (i := 55) (by decide +kernel) rfl, zT_in (i := 950) (by decide +kernel) rfl, by decide +kernel, by decide⟩
theorem zv_X3_toldFlows : zYv yX3_toldFlows := ⟨zT_in (i := 948) (by decide +kernel) rfl, zT_in (i := 949) (by decide +kernel) rfl⟩
set_option maxRecDepth 20000 in
theorem zy_X3_liveIn : zY yX3_liveIn cX3_liveIn 4 (some .int) 1 := ⟨zT_in (i := 55) (by decide +kernel) rfl, zT_in (i := 804) (by decide +kernel) rfl, by decide +kernel, by decide⟩
theorem zv_X3_liveIn : zYv yX3_liveIn := ⟨zT_in (i := 802) (by decide +kernel) rfl, zT_in (i := 803) (by decide +kernel) rfl⟩
set_option maxRecDepth 20000 in
theorem zy_X3_tell : zY yX3_tell cX3_tell 4 none 2 := ⟨zT_in (i := 55) (by decide +kernel) rfl, zT_in (i := 540) (by decide +kernel) rfl, by decide +kernel, by decide⟩
theorem zv_X3_tell : zYv yX3_tell := ⟨zT_in (i := 538) (by decide +kernel) rfl, zT_in (i := 539) (by decide +kernel) rfl⟩
set_option maxRecDepth 20000 in
theorem zy_X3_tellFlow : zY yX3_tellFlow cX3_tellFlow 5 none 3 := ⟨zT_in (i := 55) (by decide +kernel) rfl, zT_in (i := 544) (by decide +kernel) rfl, by decide +kernel, by decide⟩
theorem zv_X3_tellFlow : zYv yX3_tellFlow := ⟨zT_in (i := 543) (by decide +kernel) rfl, zT_in (i := 5) (by decide +kernel) rfl⟩
set_option maxRecDepth 20000 in
theorem zy_X3_tellWay : zY yX3_tellWay cX3_tellWay 6 none 5 := ⟨zT_in (i := 55) (by decide +kernel) rfl, zT_in (i := 547) (by decide +kernel) rfl, by decide +kernel, by decide⟩
theorem zs_X3_tellWay : Cond.static yX3_tellWay ∈ zT := zT_in (i := 546) (by decide +kernel) rfl
set_option maxRecDepth 20000 in
theorem zy_X3_milesOf : zY yX3_milesOf cX3_milesOf 6 (some .int) 3 := ⟨zT_in (i := 55) (by decide +kernel) rfl, zT_in (i := 829) (by decide +kernel) rfl, by decide +kernel, by decide⟩
theorem zv_X3_milesOf : zYv yX3_milesOf := ⟨zT_in (i := 827) (by decide +kernel) rfl, zT_in (i := 828) (by decide +kernel) rfl⟩
set_option maxRecDepth 20000 in
theorem zy_X3_waysFrom : zY yX3_waysFrom cX3_waysFrom 3 (some .int) 2 := ⟨zT_in (i := 55) (by decide +kernel) rfl, zT_in (i := 813) (by decide +kernel) rfl, by decide +kernel, by decide⟩
theorem zv_X3_waysFrom : zYv yX3_waysFrom := ⟨zT_in (i := 811) (by decide +kernel) rfl, zT_in (i := 812) (by decide +kernel) rfl⟩
set_option maxRecDepth 20000 in
theorem zy_X4_init : zY yX4_init cX4_init 4 none 3 := ⟨zT_in (i := 60) (by decide +kernel) rfl, zT_in (i := 315) (by decide +kernel) rfl, by decide +kernel, by decide⟩
set_option maxRecDepth 20000 in
theorem zy_X4_fewestLegs : zY yX4_fewestLegs cX4_fewestLegs 10 (some .int) 4 := ⟨zT_in (i := 60) (by decide +kernel) rfl, zT_in (i := 808) (by decide +kernel) rfl, by decide +kernel, by decide⟩
theorem zv_X4_fewestLegs : zYv yX4_fewestLegs := ⟨zT_in (i := 806) (by decide +kernel) rfl, zT_in (i := 807) (by decide +kernel) rfl⟩
set_option maxRecDepth 20000 in
theorem zy_X4_measureMiles : zY yX4_measureMiles cX4_measureMiles 7 none 3 := ⟨zT_in (i := 60) (by decide +kernel) rfl, zT_in (i := 817) (by decide +kernel) rfl, by decide +kernel, by decide⟩
theorem zv_X4_measureMiles : zYv yX4_measureMiles := ⟨zT_in (i := 815) (by decide +kernel) rfl, zT_in (i := 816) (by decide +kernel) rfl⟩
set_option maxRecDepth 20000 in
theorem zy_X4_nearestOf : zY yX4_nearestOf cX4_nearestOf 4 (some .int) 1 := ⟨zT_in (i := 60) (by decide +kernel) rfl, zT_in (i := 821) (by decide +kernel) rfl, by decide +kernel, by decide⟩
theorem zv_X4_nearestOf : zYv yX4_nearestOf := ⟨zT_in (i := 820) (by decide +kernel) rfl, zT_in (i := 21) (by decide +kernel) rfl⟩
set_option maxRecDepth 20000 in
theorem zy_X4_goOnFrom : zY yX4_goOnFrom cX4_goOnFrom 6 none 3 := ⟨zT_in (i := 60) (by decide +kernel) rfl, zT_in (i := 825) (by decide +kernel) rfl, by decide +kernel, by decide⟩
theorem zv_X4_goOnFrom : zYv yX4_goOnFrom := ⟨zT_in (i := 824) (by decide +kernel) rfl, zT_in (i := 22) (by decide +kernel) rfl⟩
set_option maxRecDepth 20000 in
theorem zy_X4_firstYear : zY yX4_firstYear cX4_firstYear 7 (some .int) 3 := ⟨zT_in (i := 60) (by decide +kernel) rfl, zT_in (i := 839) (by decide +kernel) rfl, by decide +kernel, by decide⟩
theorem zv_X4_firstYear : zYv yX4_firstYear := ⟨zT_in (i := 837) (by decide +kernel) rfl, zT_in (i := 838) (by decide +kernel) rfl⟩
set_option maxRecDepth 20000 in
theorem zy_X4_legsInAnyYear : zY yX4_legsInAnyYear cX4_legsInAnyYear 7 (some .int) 3 := ⟨zT_in (i := 60) (by decide +kernel) rfl, zT_in (i := 856) (by decide +kernel) rfl, by decide +kernel, by decide⟩
theorem zv_X4_legsInAnyYear : zYv yX4_legsInAnyYear := ⟨zT_in (i := 854) (by decide +kernel) rfl, zT_in (i := 855) (by decide +kernel) rfl⟩
set_option maxRecDepth 20000 in
theorem zy_X4_yearOfChange : zY yX4_yearOfChange cX4_yearOfChange 7 (some .int) 3 := ⟨zT_in (i := 60) (by decide +kernel) rfl, zT_in (i := 843) (by decide +kernel) rfl, by decide +kernel, by decide⟩
theorem zv_X4_yearOfChange : zYv yX4_yearOfChange := ⟨zT_in (i := 842) (by decide +kernel) rfl, zT_in (i := 23) (by decide +kernel) rfl⟩
set_option maxRecDepth 20000 in
theorem zy_X4_legsIn : zY yX4_legsIn cX4_legsIn 5 (some .int) 4 := ⟨zT_in (i := 60) (by decide +kernel) rfl, zT_in (i := 850) (by decide +kernel) rfl, by decide +kernel, by decide⟩
theorem zv_X4_legsIn : zYv yX4_legsIn := ⟨zT_in (i := 849) (by decide +kernel) rfl, zT_in (i := 24) (by decide +kernel) rfl⟩
set_option maxRecDepth 20000 in
theorem zy_X4_comeByBoat : zY yX4_comeByBoat cX4_comeByBoat 3 (some .int) 0 := ⟨zT_in (i := 60) (by decide +kernel) rfl, zT_in (i := 864) (by decide +kernel) rfl, by decide +kernel, by decide⟩
theorem zv_X4_comeByBoat : zYv yX4_comeByBoat := ⟨zT_in (i := 862) (by decide +kernel) rfl, zT_in (i := 863) (by decide +kernel) rfl⟩
set_option maxRecDepth 20000 in
theorem zy_X4_mustHaveSailed : zY yX4_mustHaveSailed cX4_mustHaveSailed 5 (some .boolean) 1 := ⟨zT_in (i := 60) (by decide +kernel) rfl, zT_in (i := 869) (by decide +kernel) rfl, by decide +kernel, by decide⟩
theorem zv_X4_mustHaveSailed : zYv yX4_mustHaveSailed := ⟨zT_in (i := 868) (by decide +kernel) rfl, zT_in (i := 25) (by decide +kernel) rfl⟩
set_option maxRecDepth 20000 in
theorem zy_X5_init : zY yX5_init cX5_init 3 none 2 := ⟨zT_in (i := 59) (by decide +kernel) rfl, zT_in (i := 290) (by decide +kernel) rfl, by decide +kernel, by decide⟩
set_option maxRecDepth 20000 in
theorem zy_X5_mayBeFrom : zY yX5_mayBeFrom cX5_mayBeFrom 2 (some .int) 1 := ⟨zT_in (i := 59) (by decide +kernel) rfl, zT_in (i := 752) (by decide +kernel) rfl, by decide +kernel, by decide⟩
theorem zv_X5_mayBeFrom : zYv yX5_mayBeFrom := ⟨zT_in (i := 750) (by decide +kernel) rfl, zT_in (i := 751) (by decide +kernel) rfl⟩
set_option maxRecDepth 20000 in
theorem zy_X5_longestRow : zY yX5_longestRow cX5_longestRow 3 (some .int) 1 := ⟨zT_in (i := 59) (by decide +kernel) rfl, zT_in (i := 776) (by decide +kernel) rfl, by decide +kernel, by decide⟩
theorem zv_X5_longestRow : zYv yX5_longestRow := ⟨zT_in (i := 774) (by decide +kernel) rfl, zT_in (i := 775) (by decide +kernel) rfl⟩
set_option maxRecDepth 20000 in
theorem zy_X5_findMayFrom : zY yX5_findMayFrom cX5_findMayFrom 4 (some .int) 1 := ⟨zT_in (i := 59) (by decide +kernel) rfl, zT_in (i := 757) (by decide +kernel) rfl, by decide +kernel, by decide⟩
theorem zv_X5_findMayFrom : zYv yX5_findMayFrom := ⟨zT_in (i := 756) (by decide +kernel) rfl, zT_in (i := 14) (by decide +kernel) rfl⟩
set_option maxRecDepth 20000 in
theorem zy_X5_isLikely : zY yX5_isLikely cX5_isLikely 3 (some .boolean) 2 := ⟨zT_in (i := 59) (by decide +kernel) rfl, zT_in (i := 762) (by decide +kernel) rfl, by decide +kernel, by decide⟩
theorem zv_X5_isLikely : zYv yX5_isLikely := ⟨zT_in (i := 761) (by decide +kernel) rfl, zT_in (i := 15) (by decide +kernel) rfl⟩
set_option maxRecDepth 20000 in
theorem zy_X5_leavesWay : zY yX5_leavesWay cX5_leavesWay 3 (some .boolean) 2 := ⟨zT_in (i := 59) (by decide +kernel) rfl, zT_in (i := 767) (by decide +kernel) rfl, by decide +kernel, by decide⟩
theorem zv_X5_leavesWay : zYv yX5_leavesWay := ⟨zT_in (i := 766) (by decide +kernel) rfl, zT_in (i := 16) (by decide +kernel) rfl⟩
set_option maxRecDepth 20000 in
theorem zy_X5_measureRows : zY yX5_measureRows cX5_measureRows 5 none 0 := ⟨zT_in (i := 59) (by decide +kernel) rfl, zT_in (i := 780) (by decide +kernel) rfl, by decide +kernel, by decide⟩
theorem zv_X5_measureRows : zYv yX5_measureRows := ⟨zT_in (i := 779) (by decide +kernel) rfl, zT_in (i := 17) (by decide +kernel) rfl⟩
set_option maxRecDepth 20000 in
theorem zy_X5_lengthFrom : zY yX5_lengthFrom cX5_lengthFrom 4 (some .int) 1 := ⟨zT_in (i := 59) (by decide +kernel) rfl, zT_in (i := 784) (by decide +kernel) rfl, by decide +kernel, by decide⟩
theorem zv_X5_lengthFrom : zYv yX5_lengthFrom := ⟨zT_in (i := 783) (by decide +kernel) rfl, zT_in (i := 18) (by decide +kernel) rfl⟩
set_option maxRecDepth 20000 in
theorem zy_X5_layRow : zY yX5_layRow cX5_layRow 4 none 0 := ⟨zT_in (i := 59) (by decide +kernel) rfl, zT_in (i := 790) (by decide +kernel) rfl, by decide +kernel, by decide⟩
theorem zv_X5_layRow : zYv yX5_layRow := ⟨zT_in (i := 789) (by decide +kernel) rfl, zT_in (i := 19) (by decide +kernel) rfl⟩
set_option maxRecDepth 20000 in
theorem zy_X5_firstBehind : zY yX5_firstBehind cX5_firstBehind 5 (some .int) 2 := ⟨zT_in (i := 59) (by decide +kernel) rfl, zT_in (i := 795) (by decide +kernel) rfl, by decide +kernel, by decide⟩
theorem zv_X5_firstBehind : zYv yX5_firstBehind := ⟨zT_in (i := 794) (by decide +kernel) rfl, zT_in (i := 20) (by decide +kernel) rfl⟩
set_option maxRecDepth 20000 in
theorem zy_X6_init : zY yX6_init cX6_init 3 none 2 := ⟨zT_in (i := 61) (by decide +kernel) rfl, zT_in (i := 336) (by decide +kernel) rfl, by decide +kernel, by decide⟩
set_option maxRecDepth 20000 in
theorem zy_X6_setCounts : zY yX6_setCounts cX6_setCounts 5 none 4 := ⟨zT_in (i := 61) (by decide +kernel) rfl, zT_in (i := 892) (by decide +kernel) rfl, by decide +kernel, by decide⟩
theorem zv_X6_setCounts : zYv yX6_setCounts := ⟨zT_in (i := 890) (by decide +kernel) rfl, zT_in (i := 891) (by decide +kernel) rfl⟩
set_option maxRecDepth 20000 in
theorem zy_X6_gather : zY yX6_gather cX6_gather 4 none 1 := ⟨zT_in (i := 61) (by decide +kernel) rfl, zT_in (i := 900) (by decide +kernel) rfl, by decide +kernel, by decide⟩
theorem zv_X6_gather : zYv yX6_gather := ⟨zT_in (i := 898) (by decide +kernel) rfl, zT_in (i := 899) (by decide +kernel) rfl⟩
set_option maxRecDepth 20000 in
theorem zy_X6_missOf : zY yX6_missOf cX6_missOf 5 (some .int) 2 := ⟨zT_in (i := 61) (by decide +kernel) rfl, zT_in (i := 906) (by decide +kernel) rfl, by decide +kernel, by decide⟩
theorem zv_X6_missOf : zYv yX6_missOf := ⟨zT_in (i := 904) (by decide +kernel) rfl, zT_in (i := 905) (by decide +kernel) rfl⟩
set_option maxRecDepth 20000 in
theorem zy_X6_shareByLaw : zY yX6_shareByLaw cX6_shareByLaw 3 (some .int) 3 := ⟨zT_in (i := 61) (by decide +kernel) rfl, zT_in (i := 909) (by decide +kernel) rfl, by decide +kernel, by decide⟩
theorem zs_X6_shareByLaw : Cond.static yX6_shareByLaw ∈ zT := zT_in (i := 908) (by decide +kernel) rfl
set_option maxRecDepth 20000 in
theorem zy_X6_best : zY yX6_best cX6_best 7 (some .int) 1 := ⟨zT_in (i := 61) (by decide +kernel) rfl, zT_in (i := 920) (by decide +kernel) rfl, by decide +kernel, by decide⟩
theorem zv_X6_best : zYv yX6_best := ⟨zT_in (i := 918) (by decide +kernel) rfl, zT_in (i := 919) (by decide +kernel) rfl⟩
set_option maxRecDepth 20000 in
theorem zy_X7_init : zY yX7_init cX7_init 1 none 0 := ⟨zT_in (i := 54) (by decide +kernel) rfl, zT_in (i := 83) (by decide +kernel) rfl, by decide +kernel, by decide⟩
set_option maxRecDepth 20000 in
theorem zy_X7_hasRoomFor : zY yX7_hasRoomFor cX7_hasRoomFor 2 (some .boolean) 1 := ⟨zT_in (i := 54) (by decide +kernel) rfl, zT_in (i := 408) (by decide +kernel) rfl, by decide +kernel, by decide⟩
theorem zv_X7_hasRoomFor : zYv yX7_hasRoomFor := ⟨zT_in (i := 406) (by decide +kernel) rfl, zT_in (i := 407) (by decide +kernel) rfl⟩
set_option maxRecDepth 20000 in
theorem zy_X7_append : zY yX7_append cX7_append 5 (some .int) 2 := ⟨zT_in (i := 54) (by decide +kernel) rfl, zT_in (i := 412) (by decide +kernel) rfl, by decide +kernel, by decide⟩
theorem zv_X7_append : zYv yX7_append := ⟨zT_in (i := 410) (by decide +kernel) rfl, zT_in (i := 411) (by decide +kernel) rfl⟩
set_option maxRecDepth 20000 in
theorem zy_X7_empty : zY yX7_empty cX7_empty 2 (some .int) 0 := ⟨zT_in (i := 54) (by decide +kernel) rfl, zT_in (i := 420) (by decide +kernel) rfl, by decide +kernel, by decide⟩
theorem zv_X7_empty : zYv yX7_empty := ⟨zT_in (i := 418) (by decide +kernel) rfl, zT_in (i := 419) (by decide +kernel) rfl⟩
set_option maxRecDepth 20000 in
theorem zy_X7_read : zY yX7_read cX7_read 2 (some .int) 0 := ⟨zT_in (i := 54) (by decide +kernel) rfl, zT_in (i := 428) (by decide +kernel) rfl, by decide +kernel, by decide⟩
theorem zv_X7_read : zYv yX7_read := ⟨zT_in (i := 426) (by decide +kernel) rfl, zT_in (i := 427) (by decide +kernel) rfl⟩
set_option maxRecDepth 20000 in
theorem zy_X7_readLine : zY yX7_readLine cX7_readLine 7 (some .boolean) 1 := ⟨zT_in (i := 54) (by decide +kernel) rfl, zT_in (i := 432) (by decide +kernel) rfl, by decide +kernel, by decide⟩
theorem zv_X7_readLine : zYv yX7_readLine := ⟨zT_in (i := 431) (by decide +kernel) rfl, zT_in (i := 0) (by decide +kernel) rfl⟩
set_option maxRecDepth 20000 in
theorem zy_X7_takeToken : zY yX7_takeToken cX7_takeToken 1 none 0 := ⟨zT_in (i := 54) (by decide +kernel) rfl, zT_in (i := 436) (by decide +kernel) rfl, by decide +kernel, by decide⟩
theorem zv_X7_takeToken : zYv yX7_takeToken := ⟨zT_in (i := 435) (by decide +kernel) rfl, zT_in (i := 1) (by decide +kernel) rfl⟩
set_option maxRecDepth 20000 in
theorem zy_X7_areOfOneToken : zY yX7_areOfOneToken cX7_areOfOneToken 2 (some .boolean) 2 := ⟨zT_in (i := 54) (by decide +kernel) rfl, zT_in (i := 442) (by decide +kernel) rfl, by decide +kernel, by decide⟩
theorem zs_X7_areOfOneToken : Cond.static yX7_areOfOneToken ∈ zT := zT_in (i := 441) (by decide +kernel) rfl
set_option maxRecDepth 20000 in
theorem zy_X7_isLetter : zY yX7_isLetter cX7_isLetter 1 (some .boolean) 1 := ⟨zT_in (i := 54) (by decide +kernel) rfl, zT_in (i := 445) (by decide +kernel) rfl, by decide +kernel, by decide⟩
theorem zs_X7_isLetter : Cond.static yX7_isLetter ∈ zT := zT_in (i := 444) (by decide +kernel) rfl
set_option maxRecDepth 20000 in
theorem zy_X7_isDigit : zY yX7_isDigit cX7_isDigit 1 (some .boolean) 1 := ⟨zT_in (i := 54) (by decide +kernel) rfl, zT_in (i := 449) (by decide +kernel) rfl, by decide +kernel, by decide⟩
theorem zs_X7_isDigit : Cond.static yX7_isDigit ∈ zT := zT_in (i := 448) (by decide +kernel) rfl
set_option maxRecDepth 20000 in
theorem zy_X7_numberOfToken : zY yX7_numberOfToken cX7_numberOfToken 3 (some .int) 0 := ⟨zT_in (i := 54) (by decide +kernel) rfl, zT_in (i := 525) (by decide +kernel) rfl, by decide +kernel, by decide⟩
theorem zv_X7_numberOfToken : zYv yX7_numberOfToken := ⟨zT_in (i := 524) (by decide +kernel) rfl, zT_in (i := 4) (by decide +kernel) rfl⟩
set_option maxRecDepth 20000 in
theorem zy_X7_kindOfToken : zY yX7_kindOfToken cX7_kindOfToken 2 (some .int) 0 := ⟨zT_in (i := 54) (by decide +kernel) rfl, zT_in (i := 453) (by decide +kernel) rfl, by decide +kernel, by decide⟩
theorem zv_X7_kindOfToken : zYv yX7_kindOfToken := ⟨zT_in (i := 452) (by decide +kernel) rfl, zT_in (i := 2) (by decide +kernel) rfl⟩
set_option maxRecDepth 20000 in
theorem zy_X7_tokenIs : zY yX7_tokenIs cX7_tokenIs 4 (some .boolean) 1 := ⟨zT_in (i := 54) (by decide +kernel) rfl, zT_in (i := 466) (by decide +kernel) rfl, by decide +kernel, by decide⟩
theorem zv_X7_tokenIs : zYv yX7_tokenIs := ⟨zT_in (i := 465) (by decide +kernel) rfl, zT_in (i := 3) (by decide +kernel) rfl⟩
set_option maxRecDepth 20000 in
theorem zy_X7_wordOf : zY yX7_wordOf cX7_wordOf 1 (some (.object "java/lang/String")) 1 := ⟨zT_in (i := 54) (by decide +kernel) rfl, zT_in (i := 456) (by decide +kernel) rfl, by decide +kernel, by decide⟩
theorem zs_X7_wordOf : Cond.static yX7_wordOf ∈ zT := zT_in (i := 455) (by decide +kernel) rfl
set_option maxRecDepth 20000 in
theorem zy_X7_formOf : zY yX7_formOf cX7_formOf 1 (some (.object "java/lang/String")) 1 := ⟨zT_in (i := 54) (by decide +kernel) rfl, zT_in (i := 517) (by decide +kernel) rfl, by decide +kernel, by decide⟩
theorem zs_X7_formOf : Cond.static yX7_formOf ∈ zT := zT_in (i := 516) (by decide +kernel) rfl
set_option maxRecDepth 20000 in
theorem zy_X7_canStand : zY yX7_canStand cX7_canStand 3 (some .boolean) 3 := ⟨zT_in (i := 54) (by decide +kernel) rfl, zT_in (i := 528) (by decide +kernel) rfl, by decide +kernel, by decide⟩
theorem zs_X7_canStand : Cond.static yX7_canStand ∈ zT := zT_in (i := 527) (by decide +kernel) rfl
set_option maxRecDepth 20000 in
theorem zy_X8_init : zY yX8_init cX8_init 4 none 3 := ⟨zT_in (i := 58) (by decide +kernel) rfl, zT_in (i := 263) (by decide +kernel) rfl, by decide +kernel, by decide⟩
set_option maxRecDepth 20000 in
theorem zy_X8_bound : zY yX8_bound cX8_bound 3 (some .int) 2 := ⟨zT_in (i := 58) (by decide +kernel) rfl, zT_in (i := 713) (by decide +kernel) rfl, by decide +kernel, by decide⟩
theorem zv_X8_bound : zYv yX8_bound := ⟨zT_in (i := 711) (by decide +kernel) rfl, zT_in (i := 712) (by decide +kernel) rfl⟩
set_option maxRecDepth 20000 in
theorem zy_X8_settle : zY yX8_settle cX8_settle 1 (some .boolean) 0 := ⟨zT_in (i := 58) (by decide +kernel) rfl, zT_in (i := 669) (by decide +kernel) rfl, by decide +kernel, by decide⟩
theorem zv_X8_settle : zYv yX8_settle := ⟨zT_in (i := 667) (by decide +kernel) rfl, zT_in (i := 668) (by decide +kernel) rfl⟩
set_option maxRecDepth 20000 in
theorem zy_X8_boundByNumbers : zY yX8_boundByNumbers cX8_boundByNumbers 6 none 0 := ⟨zT_in (i := 58) (by decide +kernel) rfl, zT_in (i := 673) (by decide +kernel) rfl, by decide +kernel, by decide⟩
theorem zv_X8_boundByNumbers : zYv yX8_boundByNumbers := ⟨zT_in (i := 671) (by decide +kernel) rfl, zT_in (i := 672) (by decide +kernel) rfl⟩
set_option maxRecDepth 20000 in
theorem zy_X8_settleWithout : zY yX8_settleWithout cX8_settleWithout 2 (some .boolean) 1 := ⟨zT_in (i := 58) (by decide +kernel) rfl, zT_in (i := 698) (by decide +kernel) rfl, by decide +kernel, by decide⟩
theorem zv_X8_settleWithout : zYv yX8_settleWithout := ⟨zT_in (i := 696) (by decide +kernel) rfl, zT_in (i := 697) (by decide +kernel) rfl⟩
set_option maxRecDepth 20000 in
theorem zy_X8_heirloomOf : zY yX8_heirloomOf cX8_heirloomOf 5 (some .int) 1 := ⟨zT_in (i := 58) (by decide +kernel) rfl, zT_in (i := 743) (by decide +kernel) rfl, by decide +kernel, by decide⟩
theorem zv_X8_heirloomOf : zYv yX8_heirloomOf := ⟨zT_in (i := 741) (by decide +kernel) rfl, zT_in (i := 742) (by decide +kernel) rfl⟩
set_option maxRecDepth 20000 in
theorem zy_X8_setOwn : zY yX8_setOwn cX8_setOwn 4 none 3 := ⟨zT_in (i := 58) (by decide +kernel) rfl, zT_in (i := 691) (by decide +kernel) rfl, by decide +kernel, by decide⟩
theorem zv_X8_setOwn : zYv yX8_setOwn := ⟨zT_in (i := 690) (by decide +kernel) rfl, zT_in (i := 6) (by decide +kernel) rfl⟩
set_option maxRecDepth 20000 in
theorem zy_X8_raise : zY yX8_raise cX8_raise 5 none 3 := ⟨zT_in (i := 58) (by decide +kernel) rfl, zT_in (i := 717) (by decide +kernel) rfl, by decide +kernel, by decide⟩
theorem zv_X8_raise : zYv yX8_raise := ⟨zT_in (i := 716) (by decide +kernel) rfl, zT_in (i := 9) (by decide +kernel) rfl⟩
set_option maxRecDepth 20000 in
theorem zy_X8_lower : zY yX8_lower cX8_lower 5 none 3 := ⟨zT_in (i := 58) (by decide +kernel) rfl, zT_in (i := 729) (by decide +kernel) rfl, by decide +kernel, by decide⟩
theorem zv_X8_lower : zYv yX8_lower := ⟨zT_in (i := 728) (by decide +kernel) rfl, zT_in (i := 12) (by decide +kernel) rfl⟩
set_option maxRecDepth 20000 in
theorem zy_X8_rimFirst : zY yX8_rimFirst cX8_rimFirst 2 (some .int) 2 := ⟨zT_in (i := 58) (by decide +kernel) rfl, zT_in (i := 685) (by decide +kernel) rfl, by decide +kernel, by decide⟩
theorem zs_X8_rimFirst : Cond.static yX8_rimFirst ∈ zT := zT_in (i := 684) (by decide +kernel) rfl
set_option maxRecDepth 20000 in
theorem zy_X8_rimLast : zY yX8_rimLast cX8_rimLast 2 (some .int) 2 := ⟨zT_in (i := 58) (by decide +kernel) rfl, zT_in (i := 694) (by decide +kernel) rfl, by decide +kernel, by decide⟩
theorem zs_X8_rimLast : Cond.static yX8_rimLast ∈ zT := zT_in (i := 693) (by decide +kernel) rfl
set_option maxRecDepth 20000 in
theorem zy_X8_above : zY yX8_above cX8_above 3 (some .int) 2 := ⟨zT_in (i := 58) (by decide +kernel) rfl, zT_in (i := 709) (by decide +kernel) rfl, by decide +kernel, by decide⟩
theorem zv_X8_above : zYv yX8_above := ⟨zT_in (i := 708) (by decide +kernel) rfl, zT_in (i := 8) (by decide +kernel) rfl⟩
set_option maxRecDepth 20000 in
theorem zy_X8_raiseStruck : zY yX8_raiseStruck cX8_raiseStruck 5 none 1 := ⟨zT_in (i := 58) (by decide +kernel) rfl, zT_in (i := 705) (by decide +kernel) rfl, by decide +kernel, by decide⟩
theorem zv_X8_raiseStruck : zYv yX8_raiseStruck := ⟨zT_in (i := 704) (by decide +kernel) rfl, zT_in (i := 7) (by decide +kernel) rfl⟩
set_option maxRecDepth 20000 in
theorem zy_X8_raiseLaid : zY yX8_raiseLaid cX8_raiseLaid 4 none 0 := ⟨zT_in (i := 58) (by decide +kernel) rfl, zT_in (i := 721) (by decide +kernel) rfl, by decide +kernel, by decide⟩
theorem zv_X8_raiseLaid : zYv yX8_raiseLaid := ⟨zT_in (i := 720) (by decide +kernel) rfl, zT_in (i := 10) (by decide +kernel) rfl⟩
set_option maxRecDepth 20000 in
theorem zy_X8_lowerStruck : zY yX8_lowerStruck cX8_lowerStruck 5 none 1 := ⟨zT_in (i := 58) (by decide +kernel) rfl, zT_in (i := 725) (by decide +kernel) rfl, by decide +kernel, by decide⟩
theorem zv_X8_lowerStruck : zYv yX8_lowerStruck := ⟨zT_in (i := 724) (by decide +kernel) rfl, zT_in (i := 11) (by decide +kernel) rfl⟩
set_option maxRecDepth 20000 in
theorem zy_X8_hasWay : zY yX8_hasWay cX8_hasWay 3 (some .boolean) 0 := ⟨zT_in (i := 58) (by decide +kernel) rfl, zT_in (i := 734) (by decide +kernel) rfl, by decide +kernel, by decide⟩
theorem zv_X8_hasWay : zYv yX8_hasWay := ⟨zT_in (i := 733) (by decide +kernel) rfl, zT_in (i := 13) (by decide +kernel) rfl⟩
set_option maxRecDepth 20000 in
theorem zy_X9_init : zY yX9_init cX9_init 1 none 0 := ⟨zT_in (i := 53) (by decide +kernel) rfl, zT_in (i := 75) (by decide +kernel) rfl, by decide +kernel, by decide⟩
set_option maxRecDepth 20000 in
theorem zy_X9_write : zY yX9_write cX9_write 4 (some .int) 2 := ⟨zT_in (i := 53) (by decide +kernel) rfl, zT_in (i := 401) (by decide +kernel) rfl, by decide +kernel, by decide⟩
theorem zv_X9_write : zYv yX9_write := ⟨zT_in (i := 399) (by decide +kernel) rfl, zT_in (i := 400) (by decide +kernel) rfl⟩
set_option maxRecDepth 20000 in
theorem zy_X9_erase : zY yX9_erase cX9_erase 1 (some .int) 0 := ⟨zT_in (i := 53) (by decide +kernel) rfl, zT_in (i := 416) (by decide +kernel) rfl, by decide +kernel, by decide⟩
theorem zv_X9_erase : zYv yX9_erase := ⟨zT_in (i := 414) (by decide +kernel) rfl, zT_in (i := 415) (by decide +kernel) rfl⟩
set_option maxRecDepth 20000 in
theorem zy_X9_fault : zY yX9_fault cX9_fault 1 (some .int) 0 := ⟨zT_in (i := 53) (by decide +kernel) rfl, zT_in (i := 424) (by decide +kernel) rfl, by decide +kernel, by decide⟩
theorem zv_X9_fault : zYv yX9_fault := ⟨zT_in (i := 422) (by decide +kernel) rfl, zT_in (i := 423) (by decide +kernel) rfl⟩
set_option maxRecDepth 20000 in
theorem zy_X9_land : zY yX9_land cX9_land 3 (some .int) 0 := ⟨zT_in (i := 53) (by decide +kernel) rfl, zT_in (i := 536) (by decide +kernel) rfl, by decide +kernel, by decide⟩
theorem zv_X9_land : zYv yX9_land := ⟨zT_in (i := 534) (by decide +kernel) rfl, zT_in (i := 535) (by decide +kernel) rfl⟩
set_option maxRecDepth 20000 in
theorem zy_X9_place : zY yX9_place cX9_place 3 (some .int) 2 := ⟨zT_in (i := 53) (by decide +kernel) rfl, zT_in (i := 551) (by decide +kernel) rfl, by decide +kernel, by decide⟩
theorem zv_X9_place : zYv yX9_place := ⟨zT_in (i := 549) (by decide +kernel) rfl, zT_in (i := 550) (by decide +kernel) rfl⟩
set_option maxRecDepth 20000 in
theorem zy_X9_flow : zY yX9_flow cX9_flow 3 (some .int) 2 := ⟨zT_in (i := 53) (by decide +kernel) rfl, zT_in (i := 556) (by decide +kernel) rfl, by decide +kernel, by decide⟩
theorem zv_X9_flow : zYv yX9_flow := ⟨zT_in (i := 554) (by decide +kernel) rfl, zT_in (i := 555) (by decide +kernel) rfl⟩
set_option maxRecDepth 20000 in
theorem zy_X9_way : zY yX9_way cX9_way 4 (some .int) 3 := ⟨zT_in (i := 53) (by decide +kernel) rfl, zT_in (i := 565) (by decide +kernel) rfl, by decide +kernel, by decide⟩
theorem zv_X9_way : zYv yX9_way := ⟨zT_in (i := 563) (by decide +kernel) rfl, zT_in (i := 564) (by decide +kernel) rfl⟩
set_option maxRecDepth 20000 in
theorem zy_X9_blade : zY yX9_blade cX9_blade 7 (some .int) 5 := ⟨zT_in (i := 53) (by decide +kernel) rfl, zT_in (i := 569) (by decide +kernel) rfl, by decide +kernel, by decide⟩
theorem zv_X9_blade : zYv yX9_blade := ⟨zT_in (i := 567) (by decide +kernel) rfl, zT_in (i := 568) (by decide +kernel) rfl⟩
set_option maxRecDepth 20000 in
theorem zy_X9_rim : zY yX9_rim cX9_rim 5 (some .int) 3 := ⟨zT_in (i := 53) (by decide +kernel) rfl, zT_in (i := 588) (by decide +kernel) rfl, by decide +kernel, by decide⟩
theorem zv_X9_rim : zYv yX9_rim := ⟨zT_in (i := 586) (by decide +kernel) rfl, zT_in (i := 587) (by decide +kernel) rfl⟩
set_option maxRecDepth 20000 in
theorem zy_X9_measure : zY yX9_measure cX9_measure 5 (some .int) 3 := ⟨zT_in (i := 53) (by decide +kernel) rfl, zT_in (i := 597) (by decide +kernel) rfl, by decide +kernel, by decide⟩
theorem zv_X9_measure : zYv yX9_measure := ⟨zT_in (i := 595) (by decide +kernel) rfl, zT_in (i := 596) (by decide +kernel) rfl⟩
set_option maxRecDepth 20000 in
theorem zy_X9_of : zY yX9_of cX9_of 3 (some .int) 2 := ⟨zT_in (i := 53) (by decide +kernel) rfl, zT_in (i := 601) (by decide +kernel) rfl, by decide +kernel, by decide⟩
theorem zv_X9_of : zYv yX9_of := ⟨zT_in (i := 599) (by decide +kernel) rfl, zT_in (i := 600) (by decide +kernel) rfl⟩
set_option maxRecDepth 20000 in
theorem zy_X9_off : zY yX9_off cX9_off 3 (some .int) 2 := ⟨zT_in (i := 53) (by decide +kernel) rfl, zT_in (i := 605) (by decide +kernel) rfl, by decide +kernel, by decide⟩
theorem zv_X9_off : zYv yX9_off := ⟨zT_in (i := 603) (by decide +kernel) rfl, zT_in (i := 604) (by decide +kernel) rfl⟩
set_option maxRecDepth 20000 in
theorem zy_X9_can : zY yX9_can cX9_can 2 (some .int) 1 := ⟨zT_in (i := 53) (by decide +kernel) rfl, zT_in (i := 622) (by decide +kernel) rfl, by decide +kernel, by decide⟩
theorem zv_X9_can : zYv yX9_can := ⟨zT_in (i := 620) (by decide +kernel) rfl, zT_in (i := 621) (by decide +kernel) rfl⟩
set_option maxRecDepth 20000 in
theorem zy_X9_named : zY yX9_named cX9_named 2 (some .int) 1 := ⟨zT_in (i := 53) (by decide +kernel) rfl, zT_in (i := 631) (by decide +kernel) rfl, by decide +kernel, by decide⟩
theorem zv_X9_named : zYv yX9_named := ⟨zT_in (i := 629) (by decide +kernel) rfl, zT_in (i := 630) (by decide +kernel) rfl⟩
set_option maxRecDepth 20000 in
theorem zy_X9_strike : zY yX9_strike cX9_strike 3 (some .int) 2 := ⟨zT_in (i := 53) (by decide +kernel) rfl, zT_in (i := 649) (by decide +kernel) rfl, by decide +kernel, by decide⟩
theorem zv_X9_strike : zYv yX9_strike := ⟨zT_in (i := 647) (by decide +kernel) rfl, zT_in (i := 648) (by decide +kernel) rfl⟩
set_option maxRecDepth 20000 in
theorem zy_X9_undo : zY yX9_undo cX9_undo 3 (some .int) 1 := ⟨zT_in (i := 53) (by decide +kernel) rfl, zT_in (i := 657) (by decide +kernel) rfl, by decide +kernel, by decide⟩
theorem zv_X9_undo : zYv yX9_undo := ⟨zT_in (i := 655) (by decide +kernel) rfl, zT_in (i := 656) (by decide +kernel) rfl⟩
set_option maxRecDepth 20000 in
theorem zy_X9_span : zY yX9_span cX9_span 4 (some .int) 2 := ⟨zT_in (i := 53) (by decide +kernel) rfl, zT_in (i := 661) (by decide +kernel) rfl, by decide +kernel, by decide⟩
theorem zv_X9_span : zYv yX9_span := ⟨zT_in (i := 659) (by decide +kernel) rfl, zT_in (i := 660) (by decide +kernel) rfl⟩
set_option maxRecDepth 20000 in
theorem zy_X9_heirloom : zY yX9_heirloom cX9_heirloom 2 (some .int) 1 := ⟨zT_in (i := 53) (by decide +kernel) rfl, zT_in (i := 739) (by decide +kernel) rfl, by decide +kernel, by decide⟩
theorem zv_X9_heirloom : zYv yX9_heirloom := ⟨zT_in (i := 737) (by decide +kernel) rfl, zT_in (i := 738) (by decide +kernel) rfl⟩
set_option maxRecDepth 20000 in
theorem zy_X9_from : zY yX9_from cX9_from 2 (some .int) 1 := ⟨zT_in (i := 53) (by decide +kernel) rfl, zT_in (i := 748) (by decide +kernel) rfl, by decide +kernel, by decide⟩
theorem zv_X9_from : zYv yX9_from := ⟨zT_in (i := 746) (by decide +kernel) rfl, zT_in (i := 747) (by decide +kernel) rfl⟩
set_option maxRecDepth 20000 in
theorem zy_X9_chain : zY yX9_chain cX9_chain 2 (some .int) 1 := ⟨zT_in (i := 53) (by decide +kernel) rfl, zT_in (i := 772) (by decide +kernel) rfl, by decide +kernel, by decide⟩
theorem zv_X9_chain : zYv yX9_chain := ⟨zT_in (i := 770) (by decide +kernel) rfl, zT_in (i := 771) (by decide +kernel) rfl⟩
set_option maxRecDepth 20000 in
theorem zy_X9_legs : zY yX9_legs cX9_legs 9 (some .int) 5 := ⟨zT_in (i := 53) (by decide +kernel) rfl, zT_in (i := 800) (by decide +kernel) rfl, by decide +kernel, by decide⟩
theorem zv_X9_legs : zYv yX9_legs := ⟨zT_in (i := 798) (by decide +kernel) rfl, zT_in (i := 799) (by decide +kernel) rfl⟩
set_option maxRecDepth 20000 in
theorem zy_X9_reach : zY yX9_reach cX9_reach 5 (some .int) 4 := ⟨zT_in (i := 53) (by decide +kernel) rfl, zT_in (i := 835) (by decide +kernel) rfl, by decide +kernel, by decide⟩
theorem zv_X9_reach : zYv yX9_reach := ⟨zT_in (i := 833) (by decide +kernel) rfl, zT_in (i := 834) (by decide +kernel) rfl⟩
set_option maxRecDepth 20000 in
theorem zy_X9_boats : zY yX9_boats cX9_boats 1 (some .int) 0 := ⟨zT_in (i := 53) (by decide +kernel) rfl, zT_in (i := 860) (by decide +kernel) rfl, by decide +kernel, by decide⟩
theorem zv_X9_boats : zYv yX9_boats := ⟨zT_in (i := 858) (by decide +kernel) rfl, zT_in (i := 859) (by decide +kernel) rfl⟩
set_option maxRecDepth 20000 in
theorem zy_X9_sea : zY yX9_sea cX9_sea 4 (some .int) 0 := ⟨zT_in (i := 53) (by decide +kernel) rfl, zT_in (i := 874) (by decide +kernel) rfl, by decide +kernel, by decide⟩
theorem zv_X9_sea : zYv yX9_sea := ⟨zT_in (i := 872) (by decide +kernel) rfl, zT_in (i := 873) (by decide +kernel) rfl⟩
set_option maxRecDepth 20000 in
theorem zy_X9_next : zY yX9_next cX9_next 1 (some .int) 0 := ⟨zT_in (i := 53) (by decide +kernel) rfl, zT_in (i := 880) (by decide +kernel) rfl, by decide +kernel, by decide⟩
theorem zv_X9_next : zYv yX9_next := ⟨zT_in (i := 878) (by decide +kernel) rfl, zT_in (i := 879) (by decide +kernel) rfl⟩
set_option maxRecDepth 20000 in
theorem zy_X9_counts : zY yX9_counts cX9_counts 5 (some .int) 4 := ⟨zT_in (i := 53) (by decide +kernel) rfl, zT_in (i := 888) (by decide +kernel) rfl, by decide +kernel, by decide⟩
theorem zv_X9_counts : zYv yX9_counts := ⟨zT_in (i := 886) (by decide +kernel) rfl, zT_in (i := 887) (by decide +kernel) rfl⟩
set_option maxRecDepth 20000 in
theorem zy_X9_miss : zY yX9_miss cX9_miss 4 (some .int) 3 := ⟨zT_in (i := 53) (by decide +kernel) rfl, zT_in (i := 896) (by decide +kernel) rfl, by decide +kernel, by decide⟩
theorem zv_X9_miss : zYv yX9_miss := ⟨zT_in (i := 894) (by decide +kernel) rfl, zT_in (i := 895) (by decide +kernel) rfl⟩
set_option maxRecDepth 20000 in
theorem zy_X9_law : zY yX9_law cX9_law 3 (some .int) 2 := ⟨zT_in (i := 53) (by decide +kernel) rfl, zT_in (i := 916) (by decide +kernel) rfl, by decide +kernel, by decide⟩
theorem zv_X9_law : zYv yX9_law := ⟨zT_in (i := 914) (by decide +kernel) rfl, zT_in (i := 915) (by decide +kernel) rfl⟩
set_option maxRecDepth 20000 in
theorem zy_X9_dated : zY yX9_dated cX9_dated 3 (some .int) 2 := ⟨zT_in (i := 53) (by decide +kernel) rfl, zT_in (i := 925) (by decide +kernel) rfl, by decide +kernel, by decide⟩
theorem zv_X9_dated : zYv yX9_dated := ⟨zT_in (i := 923) (by decide +kernel) rfl, zT_in (i := 924) (by decide +kernel) rfl⟩
set_option maxRecDepth 20000 in
theorem zy_X9_learnt : zY yX9_learnt cX9_learnt 3 (some .int) 2 := ⟨zT_in (i := 53) (by decide +kernel) rfl, zT_in (i := 929) (by decide +kernel) rfl, by decide +kernel, by decide⟩
theorem zv_X9_learnt : zYv yX9_learnt := ⟨zT_in (i := 927) (by decide +kernel) rfl, zT_in (i := 928) (by decide +kernel) rfl⟩
set_option maxRecDepth 20000 in
theorem zy_X9_count : zY yX9_count cX9_count 2 (some .int) 1 := ⟨zT_in (i := 53) (by decide +kernel) rfl, zT_in (i := 946) (by decide +kernel) rfl, by decide +kernel, by decide⟩
theorem zv_X9_count : zYv yX9_count := ⟨zT_in (i := 944) (by decide +kernel) rfl, zT_in (i := 945) (by decide +kernel) rfl⟩
set_option maxRecDepth 20000 in
theorem zy_X9_isPlace : zY yX9_isPlace cX9_isPlace 1 (some .boolean) 1 := ⟨zT_in (i := 53) (by decide +kernel) rfl, zT_in (i := 531) (by decide +kernel) rfl, by decide +kernel, by decide⟩
theorem zs_X9_isPlace : Cond.static yX9_isPlace ∈ zT := zT_in (i := 530) (by decide +kernel) rfl
set_option maxRecDepth 20000 in
theorem zy_X9_areMeasured : zY yX9_areMeasured cX9_areMeasured 4 (some .boolean) 2 := ⟨zT_in (i := 53) (by decide +kernel) rfl, zT_in (i := 572) (by decide +kernel) rfl, by decide +kernel, by decide⟩
theorem zs_X9_areMeasured : Cond.static yX9_areMeasured ∈ zT := zT_in (i := 571) (by decide +kernel) rfl
set_option maxRecDepth 20000 in
theorem zy_X9_numberAt : zY yX9_numberAt cX9_numberAt 2 (some .int) 2 := ⟨zT_in (i := 53) (by decide +kernel) rfl, zT_in (i := 575) (by decide +kernel) rfl, by decide +kernel, by decide⟩
theorem zs_X9_numberAt : Cond.static yX9_numberAt ∈ zT := zT_in (i := 574) (by decide +kernel) rfl
set_option maxRecDepth 20000 in
theorem zy_X9_isWithin : zY yX9_isWithin cX9_isWithin 3 (some .boolean) 3 := ⟨zT_in (i := 53) (by decide +kernel) rfl, zT_in (i := 404) (by decide +kernel) rfl, by decide +kernel, by decide⟩
theorem zs_X9_isWithin : Cond.static yX9_isWithin ∈ zT := zT_in (i := 403) (by decide +kernel) rfl
set_option maxRecDepth 20000 in
theorem zy_X9_hasBit : zY yX9_hasBit cX9_hasBit 2 (some .boolean) 2 := ⟨zT_in (i := 53) (by decide +kernel) rfl, zT_in (i := 645) (by decide +kernel) rfl, by decide +kernel, by decide⟩
theorem zs_X9_hasBit : Cond.static yX9_hasBit ∈ zT := zT_in (i := 644) (by decide +kernel) rfl
set_option maxRecDepth 20000 in
theorem zy_X9_cut : zY yX9_cut cX9_cut 2 (some .int) 2 := ⟨zT_in (i := 53) (by decide +kernel) rfl, zT_in (i := 618) (by decide +kernel) rfl, by decide +kernel, by decide⟩
theorem zs_X9_cut : Cond.static yX9_cut ∈ zT := zT_in (i := 617) (by decide +kernel) rfl
set_option maxRecDepth 20000 in
theorem zy_X9_lesser : zY yX9_lesser cX9_lesser 2 (some .int) 2 := ⟨zT_in (i := 53) (by decide +kernel) rfl, zT_in (i := 681) (by decide +kernel) rfl, by decide +kernel, by decide⟩
theorem zs_X9_lesser : Cond.static yX9_lesser ∈ zT := zT_in (i := 680) (by decide +kernel) rfl
set_option maxRecDepth 20000 in
theorem zy_X10_init : zY yX10_init cX10_init 2 none 0 := ⟨zT_in (i := 63) (by decide +kernel) rfl, zT_in (i := 959) (by decide +kernel) rfl, by decide +kernel, by decide⟩
set_option maxRecDepth 20000 in
theorem zy_X10_in : zY yX10_in cX10_in 3 (some .boolean) 3 := ⟨zT_in (i := 63) (by decide +kernel) rfl, zT_in (i := 1058) (by decide +kernel) rfl, by decide +kernel, by decide⟩
theorem zs_X10_in : Cond.static yX10_in ∈ zT := zT_in (i := 1057) (by decide +kernel) rfl
set_option maxRecDepth 20000 in
theorem zy_X10_isPlace : zY yX10_isPlace cX10_isPlace 1 (some .boolean) 1 := ⟨zT_in (i := 63) (by decide +kernel) rfl, zT_in (i := 1118) (by decide +kernel) rfl, by decide +kernel, by decide⟩
theorem zs_X10_isPlace : Cond.static yX10_isPlace ∈ zT := zT_in (i := 1117) (by decide +kernel) rfl
set_option maxRecDepth 20000 in
theorem zy_X10_isFlow : zY yX10_isFlow cX10_isFlow 2 (some .boolean) 1 := ⟨zT_in (i := 63) (by decide +kernel) rfl, zT_in (i := 1126) (by decide +kernel) rfl, by decide +kernel, by decide⟩
theorem zv_X10_isFlow : zYv yX10_isFlow := ⟨zT_in (i := 1125) (by decide +kernel) rfl, zT_in (i := 33) (by decide +kernel) rfl⟩
set_option maxRecDepth 20000 in
theorem zy_X10_isBlade : zY yX10_isBlade cX10_isBlade 2 (some .boolean) 1 := ⟨zT_in (i := 63) (by decide +kernel) rfl, zT_in (i := 1149) (by decide +kernel) rfl, by decide +kernel, by decide⟩
theorem zv_X10_isBlade : zYv yX10_isBlade := ⟨zT_in (i := 1148) (by decide +kernel) rfl, zT_in (i := 35) (by decide +kernel) rfl⟩
set_option maxRecDepth 20000 in
theorem zy_X10_at : zY yX10_at cX10_at 3 (some .int) 2 := ⟨zT_in (i := 63) (by decide +kernel) rfl, zT_in (i := 1157) (by decide +kernel) rfl, by decide +kernel, by decide⟩
theorem zv_X10_at : zYv yX10_at := ⟨zT_in (i := 1156) (by decide +kernel) rfl, zT_in (i := 36) (by decide +kernel) rfl⟩
set_option maxRecDepth 20000 in
theorem zy_X10_write : zY yX10_write cX10_write 5 (some .int) 2 := ⟨zT_in (i := 63) (by decide +kernel) rfl, zT_in (i := 1055) (by decide +kernel) rfl, by decide +kernel, by decide⟩
theorem zv_X10_write : zYv yX10_write := ⟨zT_in (i := 1053) (by decide +kernel) rfl, zT_in (i := 1054) (by decide +kernel) rfl⟩
set_option maxRecDepth 20000 in
theorem zy_X10_erase : zY yX10_erase cX10_erase 2 (some .int) 0 := ⟨zT_in (i := 63) (by decide +kernel) rfl, zT_in (i := 1063) (by decide +kernel) rfl, by decide +kernel, by decide⟩
theorem zv_X10_erase : zYv yX10_erase := ⟨zT_in (i := 1061) (by decide +kernel) rfl, zT_in (i := 1062) (by decide +kernel) rfl⟩
set_option maxRecDepth 20000 in
theorem zy_X10_nextToken : zY yX10_nextToken cX10_nextToken 1 none 0 := ⟨zT_in (i := 63) (by decide +kernel) rfl, zT_in (i := 1079) (by decide +kernel) rfl, by decide +kernel, by decide⟩
theorem zv_X10_nextToken : zYv yX10_nextToken := ⟨zT_in (i := 1078) (by decide +kernel) rfl, zT_in (i := 28) (by decide +kernel) rfl⟩
set_option maxRecDepth 20000 in
theorem zy_X10_fails : zY yX10_fails cX10_fails 1 (some .boolean) 0 := ⟨zT_in (i := 63) (by decide +kernel) rfl, zT_in (i := 1099) (by decide +kernel) rfl, by decide +kernel, by decide⟩
theorem zv_X10_fails : zYv yX10_fails := ⟨zT_in (i := 1098) (by decide +kernel) rfl, zT_in (i := 30) (by decide +kernel) rfl⟩
set_option maxRecDepth 20000 in
theorem zy_X10_isNumber : zY yX10_isNumber cX10_isNumber 4 (some .boolean) 3 := ⟨zT_in (i := 63) (by decide +kernel) rfl, zT_in (i := 1095) (by decide +kernel) rfl, by decide +kernel, by decide⟩
theorem zv_X10_isNumber : zYv yX10_isNumber := ⟨zT_in (i := 1094) (by decide +kernel) rfl, zT_in (i := 29) (by decide +kernel) rfl⟩
set_option maxRecDepth 20000 in
theorem zy_X10_isWay : zY yX10_isWay cX10_isWay 2 (some .boolean) 1 := ⟨zT_in (i := 63) (by decide +kernel) rfl, zT_in (i := 1103) (by decide +kernel) rfl, by decide +kernel, by decide⟩
theorem zv_X10_isWay : zYv yX10_isWay := ⟨zT_in (i := 1102) (by decide +kernel) rfl, zT_in (i := 31) (by decide +kernel) rfl⟩
set_option maxRecDepth 20000 in
theorem zy_X10_isLine : zY yX10_isLine cX10_isLine 2 (some .boolean) 1 := ⟨zT_in (i := 63) (by decide +kernel) rfl, zT_in (i := 1075) (by decide +kernel) rfl, by decide +kernel, by decide⟩
theorem zv_X10_isLine : zYv yX10_isLine := ⟨zT_in (i := 1074) (by decide +kernel) rfl, zT_in (i := 27) (by decide +kernel) rfl⟩
set_option maxRecDepth 20000 in
theorem zy_X10_isRead : zY yX10_isRead cX10_isRead 2 (some .boolean) 0 := ⟨zT_in (i := 63) (by decide +kernel) rfl, zT_in (i := 1071) (by decide +kernel) rfl, by decide +kernel, by decide⟩
theorem zv_X10_isRead : zYv yX10_isRead := ⟨zT_in (i := 1070) (by decide +kernel) rfl, zT_in (i := 26) (by decide +kernel) rfl⟩
set_option maxRecDepth 20000 in
theorem zy_X10_fault : zY yX10_fault cX10_fault 1 (some .int) 0 := ⟨zT_in (i := 63) (by decide +kernel) rfl, zT_in (i := 1067) (by decide +kernel) rfl, by decide +kernel, by decide⟩
theorem zv_X10_fault : zYv yX10_fault := ⟨zT_in (i := 1065) (by decide +kernel) rfl, zT_in (i := 1066) (by decide +kernel) rfl⟩
set_option maxRecDepth 20000 in
theorem zy_X10_doLine : zY yX10_doLine cX10_doLine 5 none 1 := ⟨zT_in (i := 63) (by decide +kernel) rfl, zT_in (i := 1111) (by decide +kernel) rfl, by decide +kernel, by decide⟩
theorem zv_X10_doLine : zYv yX10_doLine := ⟨zT_in (i := 1110) (by decide +kernel) rfl, zT_in (i := 32) (by decide +kernel) rfl⟩
set_option maxRecDepth 20000 in
theorem zy_X10_land : zY yX10_land cX10_land 2 (some .int) 0 := ⟨zT_in (i := 63) (by decide +kernel) rfl, zT_in (i := 1107) (by decide +kernel) rfl, by decide +kernel, by decide⟩
theorem zv_X10_land : zYv yX10_land := ⟨zT_in (i := 1105) (by decide +kernel) rfl, zT_in (i := 1106) (by decide +kernel) rfl⟩
set_option maxRecDepth 20000 in
theorem zy_X10_place : zY yX10_place cX10_place 3 (some .int) 2 := ⟨zT_in (i := 63) (by decide +kernel) rfl, zT_in (i := 1115) (by decide +kernel) rfl, by decide +kernel, by decide⟩
theorem zv_X10_place : zYv yX10_place := ⟨zT_in (i := 1113) (by decide +kernel) rfl, zT_in (i := 1114) (by decide +kernel) rfl⟩
set_option maxRecDepth 20000 in
theorem zy_X10_flow : zY yX10_flow cX10_flow 3 (some .int) 2 := ⟨zT_in (i := 63) (by decide +kernel) rfl, zT_in (i := 1122) (by decide +kernel) rfl, by decide +kernel, by decide⟩
theorem zv_X10_flow : zYv yX10_flow := ⟨zT_in (i := 1120) (by decide +kernel) rfl, zT_in (i := 1121) (by decide +kernel) rfl⟩
set_option maxRecDepth 20000 in
theorem zy_X10_way : zY yX10_way cX10_way 4 (some .int) 3 := ⟨zT_in (i := 63) (by decide +kernel) rfl, zT_in (i := 1130) (by decide +kernel) rfl, by decide +kernel, by decide⟩
theorem zv_X10_way : zYv yX10_way := ⟨zT_in (i := 1128) (by decide +kernel) rfl, zT_in (i := 1129) (by decide +kernel) rfl⟩
set_option maxRecDepth 20000 in
theorem zy_X10_areNumbers : zY yX10_areNumbers cX10_areNumbers 1 (some .boolean) 1 := ⟨zT_in (i := 63) (by decide +kernel) rfl, zT_in (i := 1137) (by decide +kernel) rfl, by decide +kernel, by decide⟩
theorem zs_X10_areNumbers : Cond.static yX10_areNumbers ∈ zT := zT_in (i := 1136) (by decide +kernel) rfl
set_option maxRecDepth 20000 in
theorem zy_X10_layNumbers : zY yX10_layNumbers cX10_layNumbers 5 none 3 := ⟨zT_in (i := 63) (by decide +kernel) rfl, zT_in (i := 1141) (by decide +kernel) rfl, by decide +kernel, by decide⟩
theorem zv_X10_layNumbers : zYv yX10_layNumbers := ⟨zT_in (i := 1140) (by decide +kernel) rfl, zT_in (i := 34) (by decide +kernel) rfl⟩
set_option maxRecDepth 20000 in
theorem zy_X10_blade : zY yX10_blade cX10_blade 7 (some .int) 5 := ⟨zT_in (i := 63) (by decide +kernel) rfl, zT_in (i := 1134) (by decide +kernel) rfl, by decide +kernel, by decide⟩
theorem zv_X10_blade : zYv yX10_blade := ⟨zT_in (i := 1132) (by decide +kernel) rfl, zT_in (i := 1133) (by decide +kernel) rfl⟩
set_option maxRecDepth 20000 in
theorem zy_X10_rim : zY yX10_rim cX10_rim 4 (some .int) 3 := ⟨zT_in (i := 63) (by decide +kernel) rfl, zT_in (i := 1145) (by decide +kernel) rfl, by decide +kernel, by decide⟩
theorem zv_X10_rim : zYv yX10_rim := ⟨zT_in (i := 1143) (by decide +kernel) rfl, zT_in (i := 1144) (by decide +kernel) rfl⟩
set_option maxRecDepth 20000 in
theorem zy_X10_measure : zY yX10_measure cX10_measure 5 (some .int) 3 := ⟨zT_in (i := 63) (by decide +kernel) rfl, zT_in (i := 1153) (by decide +kernel) rfl, by decide +kernel, by decide⟩
theorem zv_X10_measure : zYv yX10_measure := ⟨zT_in (i := 1151) (by decide +kernel) rfl, zT_in (i := 1152) (by decide +kernel) rfl⟩
set_option maxRecDepth 20000 in
theorem zy_X10_of : zY yX10_of cX10_of 3 (some .int) 2 := ⟨zT_in (i := 63) (by decide +kernel) rfl, zT_in (i := 1161) (by decide +kernel) rfl, by decide +kernel, by decide⟩
theorem zv_X10_of : zYv yX10_of := ⟨zT_in (i := 1159) (by decide +kernel) rfl, zT_in (i := 1160) (by decide +kernel) rfl⟩
set_option maxRecDepth 20000 in
theorem zy_X10_offOf : zY yX10_offOf cX10_offOf 7 (some .int) 2 := ⟨zT_in (i := 63) (by decide +kernel) rfl, zT_in (i := 1169) (by decide +kernel) rfl, by decide +kernel, by decide⟩
theorem zv_X10_offOf : zYv yX10_offOf := ⟨zT_in (i := 1168) (by decide +kernel) rfl, zT_in (i := 37) (by decide +kernel) rfl⟩
set_option maxRecDepth 20000 in
theorem zy_X10_off : zY yX10_off cX10_off 3 (some .int) 2 := ⟨zT_in (i := 63) (by decide +kernel) rfl, zT_in (i := 1165) (by decide +kernel) rfl, by decide +kernel, by decide⟩
theorem zv_X10_off : zYv yX10_off := ⟨zT_in (i := 1163) (by decide +kernel) rfl, zT_in (i := 1164) (by decide +kernel) rfl⟩
set_option maxRecDepth 20000 in
theorem zy_X10_canBe : zY yX10_canBe cX10_canBe 4 (some .int) 1 := ⟨zT_in (i := 63) (by decide +kernel) rfl, zT_in (i := 1177) (by decide +kernel) rfl, by decide +kernel, by decide⟩
theorem zv_X10_canBe : zYv yX10_canBe := ⟨zT_in (i := 1176) (by decide +kernel) rfl, zT_in (i := 38) (by decide +kernel) rfl⟩
set_option maxRecDepth 20000 in
theorem zy_X10_can : zY yX10_can cX10_can 2 (some .int) 1 := ⟨zT_in (i := 63) (by decide +kernel) rfl, zT_in (i := 1173) (by decide +kernel) rfl, by decide +kernel, by decide⟩
theorem zv_X10_can : zYv yX10_can := ⟨zT_in (i := 1171) (by decide +kernel) rfl, zT_in (i := 1172) (by decide +kernel) rfl⟩
set_option maxRecDepth 20000 in
theorem zy_X10_bits : zY yX10_bits cX10_bits 3 (some .int) 1 := ⟨zT_in (i := 63) (by decide +kernel) rfl, zT_in (i := 1184) (by decide +kernel) rfl, by decide +kernel, by decide⟩
theorem zs_X10_bits : Cond.static yX10_bits ∈ zT := zT_in (i := 1183) (by decide +kernel) rfl
set_option maxRecDepth 20000 in
theorem zy_X10_named : zY yX10_named cX10_named 5 (some .int) 1 := ⟨zT_in (i := 63) (by decide +kernel) rfl, zT_in (i := 1181) (by decide +kernel) rfl, by decide +kernel, by decide⟩
theorem zv_X10_named : zYv yX10_named := ⟨zT_in (i := 1179) (by decide +kernel) rfl, zT_in (i := 1180) (by decide +kernel) rfl⟩
set_option maxRecDepth 20000 in
theorem zy_X10_isFrom : zY yX10_isFrom cX10_isFrom 4 (some .boolean) 2 := ⟨zT_in (i := 63) (by decide +kernel) rfl, zT_in (i := 1192) (by decide +kernel) rfl, by decide +kernel, by decide⟩
theorem zv_X10_isFrom : zYv yX10_isFrom := ⟨zT_in (i := 1191) (by decide +kernel) rfl, zT_in (i := 39) (by decide +kernel) rfl⟩
set_option maxRecDepth 20000 in
theorem zy_X10_strike : zY yX10_strike cX10_strike 3 (some .int) 2 := ⟨zT_in (i := 63) (by decide +kernel) rfl, zT_in (i := 1188) (by decide +kernel) rfl, by decide +kernel, by decide⟩
theorem zv_X10_strike : zYv yX10_strike := ⟨zT_in (i := 1186) (by decide +kernel) rfl, zT_in (i := 1187) (by decide +kernel) rfl⟩
set_option maxRecDepth 20000 in
theorem zy_X10_undo : zY yX10_undo cX10_undo 3 (some .int) 1 := ⟨zT_in (i := 63) (by decide +kernel) rfl, zT_in (i := 1196) (by decide +kernel) rfl, by decide +kernel, by decide⟩
theorem zv_X10_undo : zYv yX10_undo := ⟨zT_in (i := 1194) (by decide +kernel) rfl, zT_in (i := 1195) (by decide +kernel) rfl⟩
set_option maxRecDepth 20000 in
theorem zy_X10_ago : zY yX10_ago cX10_ago 3 (some .int) 2 := ⟨zT_in (i := 63) (by decide +kernel) rfl, zT_in (i := 1215) (by decide +kernel) rfl, by decide +kernel, by decide⟩
theorem zs_X10_ago : Cond.static yX10_ago ∈ zT := zT_in (i := 1214) (by decide +kernel) rfl
set_option maxRecDepth 20000 in
theorem zy_X10_warmthOf : zY yX10_warmthOf cX10_warmthOf 2 (some .int) 1 := ⟨zT_in (i := 63) (by decide +kernel) rfl, zT_in (i := 1212) (by decide +kernel) rfl, by decide +kernel, by decide⟩
theorem zv_X10_warmthOf : zYv yX10_warmthOf := ⟨zT_in (i := 1211) (by decide +kernel) rfl, zT_in (i := 42) (by decide +kernel) rfl⟩
set_option maxRecDepth 20000 in
theorem zy_X10_isReused : zY yX10_isReused cX10_isReused 2 (some .boolean) 1 := ⟨zT_in (i := 63) (by decide +kernel) rfl, zT_in (i := 1219) (by decide +kernel) rfl, by decide +kernel, by decide⟩
theorem zv_X10_isReused : zYv yX10_isReused := ⟨zT_in (i := 1218) (by decide +kernel) rfl, zT_in (i := 43) (by decide +kernel) rfl⟩
set_option maxRecDepth 20000 in
theorem zy_X10_begin : zY yX10_begin cX10_begin 5 none 1 := ⟨zT_in (i := 63) (by decide +kernel) rfl, zT_in (i := 1208) (by decide +kernel) rfl, by decide +kernel, by decide⟩
theorem zv_X10_begin : zYv yX10_begin := ⟨zT_in (i := 1207) (by decide +kernel) rfl, zT_in (i := 41) (by decide +kernel) rfl⟩
set_option maxRecDepth 20000 in
theorem zy_X10_greater : zY yX10_greater cX10_greater 2 (some .int) 2 := ⟨zT_in (i := 63) (by decide +kernel) rfl, zT_in (i := 1226) (by decide +kernel) rfl, by decide +kernel, by decide⟩
theorem zs_X10_greater : Cond.static yX10_greater ∈ zT := zT_in (i := 1225) (by decide +kernel) rfl
set_option maxRecDepth 20000 in
theorem zy_X10_lesser : zY yX10_lesser cX10_lesser 2 (some .int) 2 := ⟨zT_in (i := 63) (by decide +kernel) rfl, zT_in (i := 1229) (by decide +kernel) rfl, by decide +kernel, by decide⟩
theorem zs_X10_lesser : Cond.static yX10_lesser ∈ zT := zT_in (i := 1228) (by decide +kernel) rfl
set_option maxRecDepth 20000 in
theorem zy_X10_isBelow : zY yX10_isBelow cX10_isBelow 3 (some .boolean) 2 := ⟨zT_in (i := 63) (by decide +kernel) rfl, zT_in (i := 1233) (by decide +kernel) rfl, by decide +kernel, by decide⟩
theorem zv_X10_isBelow : zYv yX10_isBelow := ⟨zT_in (i := 1232) (by decide +kernel) rfl, zT_in (i := 45) (by decide +kernel) rfl⟩
set_option maxRecDepth 20000 in
theorem zy_X10_goRound : zY yX10_goRound cX10_goRound 3 none 0 := ⟨zT_in (i := 63) (by decide +kernel) rfl, zT_in (i := 1223) (by decide +kernel) rfl, by decide +kernel, by decide⟩
theorem zv_X10_goRound : zYv yX10_goRound := ⟨zT_in (i := 1222) (by decide +kernel) rfl, zT_in (i := 44) (by decide +kernel) rfl⟩
set_option maxRecDepth 20000 in
theorem zy_X10_areYears : zY yX10_areYears cX10_areYears 3 (some .boolean) 0 := ⟨zT_in (i := 63) (by decide +kernel) rfl, zT_in (i := 1204) (by decide +kernel) rfl, by decide +kernel, by decide⟩
theorem zv_X10_areYears : zYv yX10_areYears := ⟨zT_in (i := 1203) (by decide +kernel) rfl, zT_in (i := 40) (by decide +kernel) rfl⟩
set_option maxRecDepth 20000 in
theorem zy_X10_span : zY yX10_span cX10_span 3 (some .int) 2 := ⟨zT_in (i := 63) (by decide +kernel) rfl, zT_in (i := 1200) (by decide +kernel) rfl, by decide +kernel, by decide⟩
theorem zv_X10_span : zYv yX10_span := ⟨zT_in (i := 1198) (by decide +kernel) rfl, zT_in (i := 1199) (by decide +kernel) rfl⟩
set_option maxRecDepth 20000 in
theorem zy_X10_heirloom : zY yX10_heirloom cX10_heirloom 4 (some .int) 1 := ⟨zT_in (i := 63) (by decide +kernel) rfl, zT_in (i := 1237) (by decide +kernel) rfl, by decide +kernel, by decide⟩
theorem zv_X10_heirloom : zYv yX10_heirloom := ⟨zT_in (i := 1235) (by decide +kernel) rfl, zT_in (i := 1236) (by decide +kernel) rfl⟩
set_option maxRecDepth 20000 in
theorem zy_X10_mayBeFrom : zY yX10_mayBeFrom cX10_mayBeFrom 5 (some .int) 1 := ⟨zT_in (i := 63) (by decide +kernel) rfl, zT_in (i := 1245) (by decide +kernel) rfl, by decide +kernel, by decide⟩
theorem zv_X10_mayBeFrom : zYv yX10_mayBeFrom := ⟨zT_in (i := 1244) (by decide +kernel) rfl, zT_in (i := 46) (by decide +kernel) rfl⟩
set_option maxRecDepth 20000 in
theorem zy_X10_from : zY yX10_from cX10_from 2 (some .int) 1 := ⟨zT_in (i := 63) (by decide +kernel) rfl, zT_in (i := 1241) (by decide +kernel) rfl, by decide +kernel, by decide⟩
theorem zv_X10_from : zYv yX10_from := ⟨zT_in (i := 1239) (by decide +kernel) rfl, zT_in (i := 1240) (by decide +kernel) rfl⟩
set_option maxRecDepth 20000 in
theorem zy_X10_chain : zY yX10_chain cX10_chain 8 (some .int) 1 := ⟨zT_in (i := 63) (by decide +kernel) rfl, zT_in (i := 1249) (by decide +kernel) rfl, by decide +kernel, by decide⟩
theorem zv_X10_chain : zYv yX10_chain := ⟨zT_in (i := 1247) (by decide +kernel) rfl, zT_in (i := 1248) (by decide +kernel) rfl⟩
set_option maxRecDepth 20000 in
theorem zy_X10_isLive : zY yX10_isLive cX10_isLive 3 (some .boolean) 2 := ⟨zT_in (i := 63) (by decide +kernel) rfl, zT_in (i := 1261) (by decide +kernel) rfl, by decide +kernel, by decide⟩
theorem zv_X10_isLive : zYv yX10_isLive := ⟨zT_in (i := 1260) (by decide +kernel) rfl, zT_in (i := 48) (by decide +kernel) rfl⟩
set_option maxRecDepth 20000 in
theorem zy_X10_layOut : zY yX10_layOut cX10_layOut 10 none 3 := ⟨zT_in (i := 63) (by decide +kernel) rfl, zT_in (i := 1257) (by decide +kernel) rfl, by decide +kernel, by decide⟩
theorem zv_X10_layOut : zYv yX10_layOut := ⟨zT_in (i := 1256) (by decide +kernel) rfl, zT_in (i := 47) (by decide +kernel) rfl⟩
set_option maxRecDepth 20000 in
theorem zy_X10_legs : zY yX10_legs cX10_legs 6 (some .int) 5 := ⟨zT_in (i := 63) (by decide +kernel) rfl, zT_in (i := 1253) (by decide +kernel) rfl, by decide +kernel, by decide⟩
theorem zv_X10_legs : zYv yX10_legs := ⟨zT_in (i := 1251) (by decide +kernel) rfl, zT_in (i := 1252) (by decide +kernel) rfl⟩
set_option maxRecDepth 20000 in
theorem zy_X10_comesBy : zY yX10_comesBy cX10_comesBy 11 (some .int) 4 := ⟨zT_in (i := 63) (by decide +kernel) rfl, zT_in (i := 1269) (by decide +kernel) rfl, by decide +kernel, by decide⟩
theorem zv_X10_comesBy : zYv yX10_comesBy := ⟨zT_in (i := 1268) (by decide +kernel) rfl, zT_in (i := 49) (by decide +kernel) rfl⟩
set_option maxRecDepth 20000 in
theorem zy_X10_reach : zY yX10_reach cX10_reach 5 (some .int) 4 := ⟨zT_in (i := 63) (by decide +kernel) rfl, zT_in (i := 1265) (by decide +kernel) rfl, by decide +kernel, by decide⟩
theorem zv_X10_reach : zYv yX10_reach := ⟨zT_in (i := 1263) (by decide +kernel) rfl, zT_in (i := 1264) (by decide +kernel) rfl⟩
set_option maxRecDepth 20000 in
theorem zy_X10_byBoat : zY yX10_byBoat cX10_byBoat 7 (some .int) 0 := ⟨zT_in (i := 63) (by decide +kernel) rfl, zT_in (i := 1277) (by decide +kernel) rfl, by decide +kernel, by decide⟩
theorem zv_X10_byBoat : zYv yX10_byBoat := ⟨zT_in (i := 1276) (by decide +kernel) rfl, zT_in (i := 50) (by decide +kernel) rfl⟩
set_option maxRecDepth 20000 in
theorem zy_X10_boats : zY yX10_boats cX10_boats 1 (some .int) 0 := ⟨zT_in (i := 63) (by decide +kernel) rfl, zT_in (i := 1273) (by decide +kernel) rfl, by decide +kernel, by decide⟩
theorem zv_X10_boats : zYv yX10_boats := ⟨zT_in (i := 1271) (by decide +kernel) rfl, zT_in (i := 1272) (by decide +kernel) rfl⟩
set_option maxRecDepth 20000 in
theorem zy_X10_sea : zY yX10_sea cX10_sea 4 (some .int) 0 := ⟨zT_in (i := 63) (by decide +kernel) rfl, zT_in (i := 1281) (by decide +kernel) rfl, by decide +kernel, by decide⟩
theorem zv_X10_sea : zYv yX10_sea := ⟨zT_in (i := 1279) (by decide +kernel) rfl, zT_in (i := 1280) (by decide +kernel) rfl⟩
set_option maxRecDepth 20000 in
theorem zy_X10_next : zY yX10_next cX10_next 5 (some .int) 0 := ⟨zT_in (i := 63) (by decide +kernel) rfl, zT_in (i := 1285) (by decide +kernel) rfl, by decide +kernel, by decide⟩
theorem zv_X10_next : zYv yX10_next := ⟨zT_in (i := 1283) (by decide +kernel) rfl, zT_in (i := 1284) (by decide +kernel) rfl⟩
set_option maxRecDepth 20000 in
theorem zy_X10_counts : zY yX10_counts cX10_counts 5 (some .int) 4 := ⟨zT_in (i := 63) (by decide +kernel) rfl, zT_in (i := 1289) (by decide +kernel) rfl, by decide +kernel, by decide⟩
theorem zv_X10_counts : zYv yX10_counts := ⟨zT_in (i := 1287) (by decide +kernel) rfl, zT_in (i := 1288) (by decide +kernel) rfl⟩
set_option maxRecDepth 20000 in
theorem zy_X10_shareBy : zY yX10_shareBy cX10_shareBy 5 (some .int) 3 := ⟨zT_in (i := 63) (by decide +kernel) rfl, zT_in (i := 1300) (by decide +kernel) rfl, by decide +kernel, by decide⟩
theorem zs_X10_shareBy : Cond.static yX10_shareBy ∈ zT := zT_in (i := 1299) (by decide +kernel) rfl
set_option maxRecDepth 20000 in
theorem zy_X10_missBy : zY yX10_missBy cX10_missBy 7 (some .int) 3 := ⟨zT_in (i := 63) (by decide +kernel) rfl, zT_in (i := 1297) (by decide +kernel) rfl, by decide +kernel, by decide⟩
theorem zv_X10_missBy : zYv yX10_missBy := ⟨zT_in (i := 1296) (by decide +kernel) rfl, zT_in (i := 51) (by decide +kernel) rfl⟩
set_option maxRecDepth 20000 in
theorem zy_X10_miss : zY yX10_miss cX10_miss 4 (some .int) 3 := ⟨zT_in (i := 63) (by decide +kernel) rfl, zT_in (i := 1293) (by decide +kernel) rfl, by decide +kernel, by decide⟩
theorem zv_X10_miss : zYv yX10_miss := ⟨zT_in (i := 1291) (by decide +kernel) rfl, zT_in (i := 1292) (by decide +kernel) rfl⟩
set_option maxRecDepth 20000 in
theorem zy_X10_law : zY yX10_law cX10_law 8 (some .int) 2 := ⟨zT_in (i := 63) (by decide +kernel) rfl, zT_in (i := 1304) (by decide +kernel) rfl, by decide +kernel, by decide⟩
theorem zv_X10_law : zYv yX10_law := ⟨zT_in (i := 1302) (by decide +kernel) rfl, zT_in (i := 1303) (by decide +kernel) rfl⟩
set_option maxRecDepth 20000 in
theorem zy_X10_dated : zY yX10_dated cX10_dated 3 (some .int) 2 := ⟨zT_in (i := 63) (by decide +kernel) rfl, zT_in (i := 1308) (by decide +kernel) rfl, by decide +kernel, by decide⟩
theorem zv_X10_dated : zYv yX10_dated := ⟨zT_in (i := 1306) (by decide +kernel) rfl, zT_in (i := 1307) (by decide +kernel) rfl⟩
set_option maxRecDepth 20000 in
theorem zy_X10_learnt : zY yX10_learnt cX10_learnt 9 (some .int) 2 := ⟨zT_in (i := 63) (by decide +kernel) rfl, zT_in (i := 1312) (by decide +kernel) rfl, by decide +kernel, by decide⟩
theorem zv_X10_learnt : zYv yX10_learnt := ⟨zT_in (i := 1310) (by decide +kernel) rfl, zT_in (i := 1311) (by decide +kernel) rfl⟩
set_option maxRecDepth 20000 in
theorem zy_X10_count : zY yX10_count cX10_count 4 (some .int) 1 := ⟨zT_in (i := 63) (by decide +kernel) rfl, zT_in (i := 1316) (by decide +kernel) rfl, by decide +kernel, by decide⟩
theorem zv_X10_count : zYv yX10_count := ⟨zT_in (i := 1314) (by decide +kernel) rfl, zT_in (i := 1315) (by decide +kernel) rfl⟩
set_option maxRecDepth 20000 in
theorem zy_J6_bitCount_0f7a4 : zY yJ6_bitCount_0f7a4 cJ6_bitCount_0f7a4 1 (some .int) 1 := ⟨zT_in (i := 69) (by decide +kernel) rfl, zT_in (i := 639) (by decide +kernel) rfl, by decide +kernel, by decide⟩
theorem zs_J6_bitCount_0f7a4 : Cond.static yJ6_bitCount_0f7a4 ∈ zT := zT_in (i := 638) (by decide +kernel) rfl
set_option maxRecDepth 20000 in
theorem zy_J9_abs_0f7a4 : zY yJ9_abs_0f7a4 cJ9_abs_0f7a4 1 (some .int) 1 := ⟨zT_in (i := 64) (by decide +kernel) rfl, zT_in (i := 612) (by decide +kernel) rfl, by decide +kernel, by decide⟩
theorem zs_J9_abs_0f7a4 : Cond.static yJ9_abs_0f7a4 ∈ zT := zT_in (i := 611) (by decide +kernel) rfl
set_option maxRecDepth 20000 in
theorem zy_J9_max_7cf53 : zY yJ9_max_7cf53 cJ9_max_7cf53 2 (some .int) 2 := ⟨zT_in (i := 64) (by decide +kernel) rfl, zT_in (i := 615) (by decide +kernel) rfl, by decide +kernel, by decide⟩
theorem zs_J9_max_7cf53 : Cond.static yJ9_max_7cf53 ∈ zT := zT_in (i := 614) (by decide +kernel) rfl
set_option maxRecDepth 20000 in
theorem zy_J9_min_7cf53 : zY yJ9_min_7cf53 cJ9_min_7cf53 2 (some .int) 2 := ⟨zT_in (i := 64) (by decide +kernel) rfl, zT_in (i := 439) (by decide +kernel) rfl, by decide +kernel, by decide⟩
theorem zs_J9_min_7cf53 : Cond.static yJ9_min_7cf53 ∈ zT := zT_in (i := 438) (by decide +kernel) rfl
set_option maxRecDepth 20000 in
theorem zy_J0_length_8abf5 : zY yJ0_length_8abf5 cJ0_length_8abf5 1 (some .int) 0 := ⟨zT_in (i := 65) (by decide +kernel) rfl, zT_in (i := 470) (by decide +kernel) rfl, by decide +kernel, by decide⟩
theorem zv_J0_length_8abf5 : zYv yJ0_length_8abf5 := ⟨zT_in (i := 468) (by decide +kernel) rfl, zT_in (i := 469) (by decide +kernel) rfl⟩
set_option maxRecDepth 20000 in
theorem zy_J0_charAt_5068e : zY yJ0_charAt_5068e cJ0_charAt_5068e 2 (some .char) 1 := ⟨zT_in (i := 65) (by decide +kernel) rfl, zT_in (i := 480) (by decide +kernel) rfl, by decide +kernel, by decide⟩
theorem zv_J0_charAt_5068e : zYv yJ0_charAt_5068e := ⟨zT_in (i := 478) (by decide +kernel) rfl, zT_in (i := 479) (by decide +kernel) rfl⟩
set_option maxRecDepth 20000 in
theorem zy_J0_coder_7d493 : zY yJ0_coder_7d493 cJ0_coder_7d493 1 (some .byte) 0 := ⟨zT_in (i := 65) (by decide +kernel) rfl, zT_in (i := 474) (by decide +kernel) rfl, by decide +kernel, by decide⟩
theorem zv_J0_coder_7d493 : zYv yJ0_coder_7d493 := ⟨zT_in (i := 472) (by decide +kernel) rfl, zT_in (i := 473) (by decide +kernel) rfl⟩
set_option maxRecDepth 20000 in
theorem zy_J0_isLatin1_aae02 : zY yJ0_isLatin1_aae02 cJ0_isLatin1_aae02 1 (some .boolean) 0 := ⟨zT_in (i := 65) (by decide +kernel) rfl, zT_in (i := 484) (by decide +kernel) rfl, by decide +kernel, by decide⟩
theorem zv_J0_isLatin1_aae02 : zYv yJ0_isLatin1_aae02 := ⟨zT_in (i := 482) (by decide +kernel) rfl, zT_in (i := 483) (by decide +kernel) rfl⟩
set_option maxRecDepth 20000 in
theorem zy_J0_checkIndex_df160 : zY yJ0_checkIndex_df160 cJ0_checkIndex_df160 2 none 2 := ⟨zT_in (i := 65) (by decide +kernel) rfl, zT_in (i := 490) (by decide +kernel) rfl, by decide +kernel, by decide⟩
theorem zs_J0_checkIndex_df160 : Cond.static yJ0_checkIndex_df160 ∈ zT := zT_in (i := 489) (by decide +kernel) rfl
set_option maxRecDepth 20000 in
theorem zy_J1_charAt_3b067 : zY yJ1_charAt_3b067 cJ1_charAt_3b067 2 (some .char) 2 := ⟨zT_in (i := 66) (by decide +kernel) rfl, zT_in (i := 487) (by decide +kernel) rfl, by decide +kernel, by decide⟩
theorem zs_J1_charAt_3b067 : Cond.static yJ1_charAt_3b067 ∈ zT := zT_in (i := 486) (by decide +kernel) rfl
set_option maxRecDepth 20000 in
theorem zy_J3_checkIndex_8e157 : zY yJ3_checkIndex_8e157 cJ3_checkIndex_8e157 3 (some .int) 3 := ⟨zT_in (i := 67) (by decide +kernel) rfl, zT_in (i := 495) (by decide +kernel) rfl, by decide +kernel, by decide⟩
theorem zs_J3_checkIndex_8e157 : Cond.static yJ3_checkIndex_8e157 ∈ zT := zT_in (i := 494) (by decide +kernel) rfl
theorem ml_L_9 : Cond.methodLink RL 9 yX9_init ∈ zT := zT_in (i := 73) (by decide +kernel) rfl
theorem ml_X9_3 : Cond.methodLink RX9 3 objectInit ∈ zT := zT_in (i := 76) (by decide +kernel) rfl
theorem ml_X9_11 : Cond.methodLink RX9 11 yX7_init ∈ zT := zT_in (i := 81) (by decide +kernel) rfl
theorem ml_X7_3 : Cond.methodLink RX7 3 objectInit ∈ zT := zT_in (i := 84) (by decide +kernel) rfl
theorem ml_X9_18 : Cond.methodLink RX9 18 yX3_init ∈ zT := zT_in (i := 110) (by decide +kernel) rfl
theorem ml_X3_3 : Cond.methodLink RX3 3 objectInit ∈ zT := zT_in (i := 113) (by decide +kernel) rfl
theorem ml_X9_25 : Cond.methodLink RX9 25 yX0_init ∈ zT := zT_in (i := 184) (by decide +kernel) rfl
theorem ml_X0_3 : Cond.methodLink RX0 3 objectInit ∈ zT := zT_in (i := 187) (by decide +kernel) rfl
theorem ml_X9_32 : Cond.methodLink RX9 32 yX2_init ∈ zT := zT_in (i := 248) (by decide +kernel) rfl
theorem ml_X2_3 : Cond.methodLink RX2 3 objectInit ∈ zT := zT_in (i := 251) (by decide +kernel) rfl
theorem ml_X9_41 : Cond.methodLink RX9 41 yX8_init ∈ zT := zT_in (i := 261) (by decide +kernel) rfl
theorem ml_X8_3 : Cond.methodLink RX8 3 objectInit ∈ zT := zT_in (i := 264) (by decide +kernel) rfl
theorem ml_X9_50 : Cond.methodLink RX9 50 yX5_init ∈ zT := zT_in (i := 288) (by decide +kernel) rfl
theorem ml_X5_3 : Cond.methodLink RX5 3 objectInit ∈ zT := zT_in (i := 291) (by decide +kernel) rfl
theorem ml_X9_59 : Cond.methodLink RX9 59 yX4_init ∈ zT := zT_in (i := 313) (by decide +kernel) rfl
theorem ml_X4_3 : Cond.methodLink RX4 3 objectInit ∈ zT := zT_in (i := 316) (by decide +kernel) rfl
theorem ml_X9_68 : Cond.methodLink RX9 68 yX6_init ∈ zT := zT_in (i := 334) (by decide +kernel) rfl
theorem ml_X6_3 : Cond.methodLink RX6 3 objectInit ∈ zT := zT_in (i := 337) (by decide +kernel) rfl
theorem ml_X9_77 : Cond.methodLink RX9 77 yX1_init ∈ zT := zT_in (i := 362) (by decide +kernel) rfl
theorem ml_X1_3 : Cond.methodLink RX1 3 objectInit ∈ zT := zT_in (i := 365) (by decide +kernel) rfl
theorem ml_L_15 : Cond.methodLink RL 15 yX9_write ∈ zT := zT_in (i := 398) (by decide +kernel) rfl
theorem ml_X9_84 : Cond.methodLink RX9 84 yX9_isWithin ∈ zT := zT_in (i := 402) (by decide +kernel) rfl
theorem ml_X9_88 : Cond.methodLink RX9 88 yX7_hasRoomFor ∈ zT := zT_in (i := 405) (by decide +kernel) rfl
theorem ml_X9_92 : Cond.methodLink RX9 92 yX7_append ∈ zT := zT_in (i := 409) (by decide +kernel) rfl
theorem ml_L_20 : Cond.methodLink RL 20 yX9_erase ∈ zT := zT_in (i := 413) (by decide +kernel) rfl
theorem ml_X9_96 : Cond.methodLink RX9 96 yX7_empty ∈ zT := zT_in (i := 417) (by decide +kernel) rfl
theorem ml_L_25 : Cond.methodLink RL 25 yX9_fault ∈ zT := zT_in (i := 421) (by decide +kernel) rfl
theorem ml_X9_100 : Cond.methodLink RX9 100 yX7_read ∈ zT := zT_in (i := 425) (by decide +kernel) rfl
theorem ml_X7_28 : Cond.methodLink RX7 28 yX7_readLine ∈ zT := zT_in (i := 429) (by decide +kernel) rfl
theorem ml_X7_35 : Cond.methodLink RX7 35 yX7_takeToken ∈ zT := zT_in (i := 433) (by decide +kernel) rfl
theorem ml_X7_61 : Cond.methodLink RX7 61 Lib.Math.min.name ∈ zT := zT_in (i := 437) (by decide +kernel) rfl
theorem ml_X7_67 : Cond.methodLink RX7 67 yX7_areOfOneToken ∈ zT := zT_in (i := 440) (by decide +kernel) rfl
theorem ml_X7_71 : Cond.methodLink RX7 71 yX7_isLetter ∈ zT := zT_in (i := 443) (by decide +kernel) rfl
theorem mn_X7_77 : (RX7, 77, yX9_isWithin, "BlackGlass") ∈ zNests := List.mem_of_getElem? (i := 0) rfl
theorem ml_X7_74 : Cond.methodLink RX7 74 yX7_isDigit ∈ zT := zT_in (i := 447) (by decide +kernel) rfl
theorem ml_X7_38 : Cond.methodLink RX7 38 yX7_kindOfToken ∈ zT := zT_in (i := 450) (by decide +kernel) rfl
theorem ml_X7_80 : Cond.methodLink RX7 80 yX7_wordOf ∈ zT := zT_in (i := 454) (by decide +kernel) rfl
theorem ml_X7_83 : Cond.methodLink RX7 83 yX7_tokenIs ∈ zT := zT_in (i := 463) (by decide +kernel) rfl
theorem ml_X7_46 : Cond.methodLink RX7 46 yJ0_length_8abf5 ∈ zT := zT_in (i := 467) (by decide +kernel) rfl
theorem ml_J0_335 : Cond.methodLink RJ0 335 yJ0_coder_7d493 ∈ zT := zT_in (i := 471) (by decide +kernel) rfl
theorem ml_X7_53 : Cond.methodLink RX7 53 yJ0_charAt_5068e ∈ zT := zT_in (i := 477) (by decide +kernel) rfl
theorem ml_J0_492 : Cond.methodLink RJ0 492 yJ0_isLatin1_aae02 ∈ zT := zT_in (i := 481) (by decide +kernel) rfl
theorem ml_J0_495 : Cond.methodLink RJ0 495 yJ1_charAt_3b067 ∈ zT := zT_in (i := 485) (by decide +kernel) rfl
theorem ml_J1_9 : Cond.methodLink RJ1 9 yJ0_checkIndex_df160 ∈ zT := zT_in (i := 488) (by decide +kernel) rfl
theorem ml_J0_1059 : Cond.methodLink RJ0 1059 yJ3_checkIndex_8e157 ∈ zT := zT_in (i := 493) (by decide +kernel) rfl
theorem ml_J0_498 : Cond.methodLink RJ0 498 yJ2_charAt_3b067 ∈ zT := zT_in (i := 496) (by decide +kernel) rfl
theorem ml_J2_67 : Cond.methodLink RJ2 67 yJ2_checkIndex_2214a ∈ zT := zT_in (i := 499) (by decide +kernel) rfl
theorem ml_J2_48 : Cond.methodLink RJ2 48 yJ2_length_9d52b ∈ zT := zT_in (i := 502) (by decide +kernel) rfl
theorem ml_J2_414 : Cond.methodLink RJ2 414 yJ0_checkIndex_df160 ∈ zT := zT_in (i := 505) (by decide +kernel) rfl
theorem ml_J2_71 : Cond.methodLink RJ2 71 yJ2_getChar_3b067 ∈ zT := zT_in (i := 506) (by decide +kernel) rfl
theorem ml_X7_42 : Cond.methodLink RX7 42 yX7_formOf ∈ zT := zT_in (i := 515) (by decide +kernel) rfl
theorem ml_X7_50 : Cond.methodLink RX7 50 yX7_numberOfToken ∈ zT := zT_in (i := 522) (by decide +kernel) rfl
theorem ml_X7_57 : Cond.methodLink RX7 57 yX7_canStand ∈ zT := zT_in (i := 526) (by decide +kernel) rfl
theorem mn_X7_107 : (RX7, 107, yX9_isPlace, "BlackGlass") ∈ zNests := List.mem_of_getElem? (i := 1) rfl
theorem ml_L_29 : Cond.methodLink RL 29 yX9_land ∈ zT := zT_in (i := 533) (by decide +kernel) rfl
theorem ml_X9_111 : Cond.methodLink RX9 111 yX3_tell ∈ zT := zT_in (i := 537) (by decide +kernel) rfl
theorem ml_X3_60 : Cond.methodLink RX3 60 yX3_tellFlow ∈ zT := zT_in (i := 541) (by decide +kernel) rfl
theorem ml_X3_64 : Cond.methodLink RX3 64 yX3_tellWay ∈ zT := zT_in (i := 545) (by decide +kernel) rfl
theorem ml_L_33 : Cond.methodLink RL 33 yX9_place ∈ zT := zT_in (i := 548) (by decide +kernel) rfl
theorem ml_X9_115 : Cond.methodLink RX9 115 yX9_isPlace ∈ zT := zT_in (i := 552) (by decide +kernel) rfl
theorem ml_L_38 : Cond.methodLink RL 38 yX9_flow ∈ zT := zT_in (i := 553) (by decide +kernel) rfl
theorem ml_X9_127 : Cond.methodLink RX9 127 yX3_isTold ∈ zT := zT_in (i := 557) (by decide +kernel) rfl
theorem mn_X3_56 : (RX3, 56, yX9_isWithin, "BlackGlass") ∈ zNests := List.mem_of_getElem? (i := 2) rfl
theorem ml_L_42 : Cond.methodLink RL 42 yX9_way ∈ zT := zT_in (i := 562) (by decide +kernel) rfl
theorem ml_L_47 : Cond.methodLink RL 47 yX9_blade ∈ zT := zT_in (i := 566) (by decide +kernel) rfl
theorem ml_X9_148 : Cond.methodLink RX9 148 yX9_areMeasured ∈ zT := zT_in (i := 570) (by decide +kernel) rfl
theorem ml_X9_291 : Cond.methodLink RX9 291 yX9_numberAt ∈ zT := zT_in (i := 573) (by decide +kernel) rfl
theorem ml_X9_155 : Cond.methodLink RX9 155 yX0_add ∈ zT := zT_in (i := 576) (by decide +kernel) rfl
theorem ml_X9_159 : Cond.methodLink RX9 159 yX0_setMeasured ∈ zT := zT_in (i := 580) (by decide +kernel) rfl
theorem mn_X0_47 : (RX0, 47, yX9_numberAt, "BlackGlass") ∈ zNests := List.mem_of_getElem? (i := 3) rfl
theorem ml_L_52 : Cond.methodLink RL 52 yX9_rim ∈ zT := zT_in (i := 585) (by decide +kernel) rfl
theorem ml_X9_163 : Cond.methodLink RX9 163 yX0_has ∈ zT := zT_in (i := 589) (by decide +kernel) rfl
theorem mn_X0_43 : (RX0, 43, yX9_isWithin, "BlackGlass") ∈ zNests := List.mem_of_getElem? (i := 4) rfl
theorem ml_L_56 : Cond.methodLink RL 56 yX9_measure ∈ zT := zT_in (i := 594) (by decide +kernel) rfl
theorem ml_L_60 : Cond.methodLink RL 60 yX9_of ∈ zT := zT_in (i := 598) (by decide +kernel) rfl
theorem ml_L_64 : Cond.methodLink RL 64 yX9_off ∈ zT := zT_in (i := 602) (by decide +kernel) rfl
theorem ml_X9_190 : Cond.methodLink RX9 190 yX2_offBetween ∈ zT := zT_in (i := 606) (by decide +kernel) rfl
theorem ml_X2_30 : Cond.methodLink RX2 30 Lib.Math.abs.name ∈ zT := zT_in (i := 610) (by decide +kernel) rfl
theorem ml_X2_36 : Cond.methodLink RX2 36 Lib.Math.max.name ∈ zT := zT_in (i := 613) (by decide +kernel) rfl
theorem mn_X2_46 : (RX2, 46, yX9_cut, "BlackGlass") ∈ zNests := List.mem_of_getElem? (i := 5) rfl
theorem ml_L_68 : Cond.methodLink RL 68 yX9_can ∈ zT := zT_in (i := 619) (by decide +kernel) rfl
theorem ml_X9_194 : Cond.methodLink RX9 194 yX2_canBeOf ∈ zT := zT_in (i := 623) (by decide +kernel) rfl
theorem ml_X2_53 : Cond.methodLink RX2 53 yX2_offBetween ∈ zT := zT_in (i := 627) (by decide +kernel) rfl
theorem ml_L_73 : Cond.methodLink RL 73 yX9_named ∈ zT := zT_in (i := 628) (by decide +kernel) rfl
theorem ml_X9_198 : Cond.methodLink RX9 198 yX2_nameOf ∈ zT := zT_in (i := 632) (by decide +kernel) rfl
theorem ml_X2_60 : Cond.methodLink RX2 60 yX2_canBeOf ∈ zT := zT_in (i := 636) (by decide +kernel) rfl
theorem ml_X2_63 : Cond.methodLink RX2 63 yJ6_bitCount_0f7a4 ∈ zT := zT_in (i := 637) (by decide +kernel) rfl
theorem mn_X2_68 : (RX2, 68, yX9_hasBit, "BlackGlass") ∈ zNests := List.mem_of_getElem? (i := 6) rfl
theorem ml_L_77 : Cond.methodLink RL 77 yX9_strike ∈ zT := zT_in (i := 646) (by decide +kernel) rfl
theorem ml_X9_201 : Cond.methodLink RX9 201 yX0_comesFrom ∈ zT := zT_in (i := 650) (by decide +kernel) rfl
theorem ml_L_81 : Cond.methodLink RL 81 yX9_undo ∈ zT := zT_in (i := 654) (by decide +kernel) rfl
theorem ml_L_85 : Cond.methodLink RL 85 yX9_span ∈ zT := zT_in (i := 658) (by decide +kernel) rfl
theorem ml_X9_204 : Cond.methodLink RX9 204 yX0_isReused ∈ zT := zT_in (i := 662) (by decide +kernel) rfl
theorem ml_X9_207 : Cond.methodLink RX9 207 yX8_settle ∈ zT := zT_in (i := 666) (by decide +kernel) rfl
theorem ml_X8_33 : Cond.methodLink RX8 33 yX8_boundByNumbers ∈ zT := zT_in (i := 670) (by decide +kernel) rfl
theorem ml_X8_60 : Cond.methodLink RX8 60 yX2_canBeOf ∈ zT := zT_in (i := 674) (by decide +kernel) rfl
theorem ml_X8_66 : Cond.methodLink RX8 66 yX2_firstOpen ∈ zT := zT_in (i := 675) (by decide +kernel) rfl
theorem mn_X2_78 : (RX2, 78, yX9_lesser, "BlackGlass") ∈ zNests := List.mem_of_getElem? (i := 7) rfl
theorem ml_X9_294 : Cond.methodLink RX9 294 Lib.Math.min.name ∈ zT := zT_in (i := 682) (by decide +kernel) rfl
theorem ml_X8_69 : Cond.methodLink RX8 69 yX8_rimFirst ∈ zT := zT_in (i := 683) (by decide +kernel) rfl
theorem mn_X8_120 : (RX8, 120, yX9_cut, "BlackGlass") ∈ zNests := List.mem_of_getElem? (i := 8) rfl
theorem ml_X8_73 : Cond.methodLink RX8 73 Lib.Math.max.name ∈ zT := zT_in (i := 687) (by decide +kernel) rfl
theorem ml_X8_78 : Cond.methodLink RX8 78 yX8_setOwn ∈ zT := zT_in (i := 688) (by decide +kernel) rfl
theorem ml_X8_82 : Cond.methodLink RX8 82 yX8_rimLast ∈ zT := zT_in (i := 692) (by decide +kernel) rfl
theorem ml_X8_36 : Cond.methodLink RX8 36 yX8_settleWithout ∈ zT := zT_in (i := 695) (by decide +kernel) rfl
theorem ml_X8_91 : Cond.methodLink RX8 91 arraycopyName ∈ zT := zT_in (i := 699) (by decide +kernel) rfl
theorem ml_X8_97 : Cond.methodLink RX8 97 yX8_raiseStruck ∈ zT := zT_in (i := 702) (by decide +kernel) rfl
theorem ml_X8_126 : Cond.methodLink RX8 126 yX8_above ∈ zT := zT_in (i := 706) (by decide +kernel) rfl
theorem ml_X8_114 : Cond.methodLink RX8 114 yX8_bound ∈ zT := zT_in (i := 710) (by decide +kernel) rfl
theorem ml_X8_129 : Cond.methodLink RX8 129 yX8_raise ∈ zT := zT_in (i := 714) (by decide +kernel) rfl
theorem ml_X8_101 : Cond.methodLink RX8 101 yX8_raiseLaid ∈ zT := zT_in (i := 718) (by decide +kernel) rfl
theorem ml_X8_104 : Cond.methodLink RX8 104 yX8_lowerStruck ∈ zT := zT_in (i := 722) (by decide +kernel) rfl
theorem ml_X8_135 : Cond.methodLink RX8 135 yX8_lower ∈ zT := zT_in (i := 726) (by decide +kernel) rfl
theorem ml_X8_117 : Cond.methodLink RX8 117 Lib.Math.min.name ∈ zT := zT_in (i := 730) (by decide +kernel) rfl
theorem ml_X8_107 : Cond.methodLink RX8 107 yX8_hasWay ∈ zT := zT_in (i := 731) (by decide +kernel) rfl
theorem ml_X9_211 : Cond.methodLink RX9 211 yX8_bound ∈ zT := zT_in (i := 735) (by decide +kernel) rfl
theorem ml_L_89 : Cond.methodLink RL 89 yX9_heirloom ∈ zT := zT_in (i := 736) (by decide +kernel) rfl
theorem ml_X9_214 : Cond.methodLink RX9 214 yX8_heirloomOf ∈ zT := zT_in (i := 740) (by decide +kernel) rfl
theorem ml_X8_111 : Cond.methodLink RX8 111 yX0_isReused ∈ zT := zT_in (i := 744) (by decide +kernel) rfl
theorem ml_L_93 : Cond.methodLink RL 93 yX9_from ∈ zT := zT_in (i := 745) (by decide +kernel) rfl
theorem ml_X9_217 : Cond.methodLink RX9 217 yX5_mayBeFrom ∈ zT := zT_in (i := 749) (by decide +kernel) rfl
theorem ml_X5_29 : Cond.methodLink RX5 29 yX8_boundByNumbers ∈ zT := zT_in (i := 753) (by decide +kernel) rfl
theorem ml_X5_34 : Cond.methodLink RX5 34 yX5_findMayFrom ∈ zT := zT_in (i := 754) (by decide +kernel) rfl
theorem ml_X5_60 : Cond.methodLink RX5 60 yX8_settleWithout ∈ zT := zT_in (i := 758) (by decide +kernel) rfl
theorem ml_X5_64 : Cond.methodLink RX5 64 yX5_isLikely ∈ zT := zT_in (i := 759) (by decide +kernel) rfl
theorem ml_X5_74 : Cond.methodLink RX5 74 yX0_comesFrom ∈ zT := zT_in (i := 763) (by decide +kernel) rfl
theorem ml_X5_68 : Cond.methodLink RX5 68 yX5_leavesWay ∈ zT := zT_in (i := 764) (by decide +kernel) rfl
theorem ml_X5_77 : Cond.methodLink RX5 77 yX8_bound ∈ zT := zT_in (i := 768) (by decide +kernel) rfl
theorem ml_L_97 : Cond.methodLink RL 97 yX9_chain ∈ zT := zT_in (i := 769) (by decide +kernel) rfl
theorem ml_X9_220 : Cond.methodLink RX9 220 yX5_longestRow ∈ zT := zT_in (i := 773) (by decide +kernel) rfl
theorem ml_X5_44 : Cond.methodLink RX5 44 yX5_measureRows ∈ zT := zT_in (i := 777) (by decide +kernel) rfl
theorem ml_X5_81 : Cond.methodLink RX5 81 yX5_lengthFrom ∈ zT := zT_in (i := 781) (by decide +kernel) rfl
theorem mn_X5_84 : (RX5, 84, yX9_hasBit, "BlackGlass") ∈ zNests := List.mem_of_getElem? (i := 9) rfl
theorem ml_X5_87 : Cond.methodLink RX5 87 Lib.Math.max.name ∈ zT := zT_in (i := 786) (by decide +kernel) rfl
theorem ml_X5_47 : Cond.methodLink RX5 47 yX5_layRow ∈ zT := zT_in (i := 787) (by decide +kernel) rfl
theorem ml_X5_92 : Cond.methodLink RX5 92 Lib.Math.min.name ∈ zT := zT_in (i := 791) (by decide +kernel) rfl
theorem ml_X5_95 : Cond.methodLink RX5 95 yX5_firstBehind ∈ zT := zT_in (i := 792) (by decide +kernel) rfl
theorem mn_X5_56 : (RX5, 56, yX9_isWithin, "BlackGlass") ∈ zNests := List.mem_of_getElem? (i := 10) rfl
theorem ml_L_101 : Cond.methodLink RL 101 yX9_legs ∈ zT := zT_in (i := 797) (by decide +kernel) rfl
theorem ml_X9_223 : Cond.methodLink RX9 223 yX3_liveIn ∈ zT := zT_in (i := 801) (by decide +kernel) rfl
theorem ml_X9_226 : Cond.methodLink RX9 226 yX4_fewestLegs ∈ zT := zT_in (i := 805) (by decide +kernel) rfl
theorem mn_X4_27 : (RX4, 27, yX9_hasBit, "BlackGlass") ∈ zNests := List.mem_of_getElem? (i := 11) rfl
theorem ml_X4_31 : Cond.methodLink RX4 31 yX3_waysFrom ∈ zT := zT_in (i := 810) (by decide +kernel) rfl
theorem ml_X9_230 : Cond.methodLink RX9 230 yX4_measureMiles ∈ zT := zT_in (i := 814) (by decide +kernel) rfl
theorem ml_X4_37 : Cond.methodLink RX4 37 yX4_nearestOf ∈ zT := zT_in (i := 818) (by decide +kernel) rfl
theorem ml_X4_41 : Cond.methodLink RX4 41 yX4_goOnFrom ∈ zT := zT_in (i := 822) (by decide +kernel) rfl
theorem ml_X4_45 : Cond.methodLink RX4 45 yX3_milesOf ∈ zT := zT_in (i := 826) (by decide +kernel) rfl
theorem ml_X3_68 : Cond.methodLink RX3 68 Lib.Math.min.name ∈ zT := zT_in (i := 830) (by decide +kernel) rfl
theorem mn_X4_49 : (RX4, 49, yX9_lesser, "BlackGlass") ∈ zNests := List.mem_of_getElem? (i := 12) rfl
theorem ml_L_106 : Cond.methodLink RL 106 yX9_reach ∈ zT := zT_in (i := 832) (by decide +kernel) rfl
theorem ml_X9_237 : Cond.methodLink RX9 237 yX4_firstYear ∈ zT := zT_in (i := 836) (by decide +kernel) rfl
theorem ml_X4_53 : Cond.methodLink RX4 53 yX4_yearOfChange ∈ zT := zT_in (i := 840) (by decide +kernel) rfl
theorem ml_X4_61 : Cond.methodLink RX4 61 yX8_bound ∈ zT := zT_in (i := 844) (by decide +kernel) rfl
theorem ml_X4_69 : Cond.methodLink RX4 69 Lib.Math.max.name ∈ zT := zT_in (i := 845) (by decide +kernel) rfl
theorem mn_X4_77 : (RX4, 77, yX9_isWithin, "BlackGlass") ∈ zNests := List.mem_of_getElem? (i := 13) rfl
theorem ml_X4_57 : Cond.methodLink RX4 57 yX4_legsIn ∈ zT := zT_in (i := 847) (by decide +kernel) rfl
theorem ml_X4_89 : Cond.methodLink RX4 89 yX3_liveIn ∈ zT := zT_in (i := 851) (by decide +kernel) rfl
theorem ml_X4_92 : Cond.methodLink RX4 92 yX4_fewestLegs ∈ zT := zT_in (i := 852) (by decide +kernel) rfl
theorem ml_X9_241 : Cond.methodLink RX9 241 yX4_legsInAnyYear ∈ zT := zT_in (i := 853) (by decide +kernel) rfl
theorem ml_L_111 : Cond.methodLink RL 111 yX9_boats ∈ zT := zT_in (i := 857) (by decide +kernel) rfl
theorem ml_X9_244 : Cond.methodLink RX9 244 yX4_comeByBoat ∈ zT := zT_in (i := 861) (by decide +kernel) rfl
theorem ml_X4_95 : Cond.methodLink RX4 95 yX8_settle ∈ zT := zT_in (i := 865) (by decide +kernel) rfl
theorem ml_X4_103 : Cond.methodLink RX4 103 yX4_mustHaveSailed ∈ zT := zT_in (i := 866) (by decide +kernel) rfl
theorem ml_X4_110 : Cond.methodLink RX4 110 yX4_firstYear ∈ zT := zT_in (i := 870) (by decide +kernel) rfl
theorem ml_L_115 : Cond.methodLink RL 115 yX9_sea ∈ zT := zT_in (i := 871) (by decide +kernel) rfl
theorem ml_X9_247 : Cond.methodLink RX9 247 yX9_hasBit ∈ zT := zT_in (i := 875) (by decide +kernel) rfl
theorem ml_X9_250 : Cond.methodLink RX9 250 yX9_lesser ∈ zT := zT_in (i := 876) (by decide +kernel) rfl
theorem ml_L_119 : Cond.methodLink RL 119 yX9_next ∈ zT := zT_in (i := 877) (by decide +kernel) rfl
theorem ml_X9_253 : Cond.methodLink RX9 253 yX2_nextToMeasure ∈ zT := zT_in (i := 881) (by decide +kernel) rfl
theorem ml_L_123 : Cond.methodLink RL 123 yX9_counts ∈ zT := zT_in (i := 885) (by decide +kernel) rfl
theorem ml_X9_256 : Cond.methodLink RX9 256 yX6_setCounts ∈ zT := zT_in (i := 889) (by decide +kernel) rfl
theorem ml_L_128 : Cond.methodLink RL 128 yX9_miss ∈ zT := zT_in (i := 893) (by decide +kernel) rfl
theorem ml_X9_260 : Cond.methodLink RX9 260 yX6_gather ∈ zT := zT_in (i := 897) (by decide +kernel) rfl
theorem ml_X6_37 : Cond.methodLink RX6 37 yX4_measureMiles ∈ zT := zT_in (i := 901) (by decide +kernel) rfl
theorem mn_X6_50 : (RX6, 50, yX9_cut, "BlackGlass") ∈ zNests := List.mem_of_getElem? (i := 14) rfl
theorem ml_X9_264 : Cond.methodLink RX9 264 yX6_missOf ∈ zT := zT_in (i := 903) (by decide +kernel) rfl
theorem ml_X6_54 : Cond.methodLink RX6 54 yX6_shareByLaw ∈ zT := zT_in (i := 907) (by decide +kernel) rfl
theorem ml_X6_64 : Cond.methodLink RX6 64 Lib.Math.min.name ∈ zT := zT_in (i := 910) (by decide +kernel) rfl
theorem ml_X6_67 : Cond.methodLink RX6 67 Lib.Math.max.name ∈ zT := zT_in (i := 911) (by decide +kernel) rfl
theorem ml_X6_58 : Cond.methodLink RX6 58 Lib.Math.abs.name ∈ zT := zT_in (i := 912) (by decide +kernel) rfl
theorem ml_L_132 : Cond.methodLink RL 132 yX9_law ∈ zT := zT_in (i := 913) (by decide +kernel) rfl
theorem ml_X9_267 : Cond.methodLink RX9 267 yX6_best ∈ zT := zT_in (i := 917) (by decide +kernel) rfl
theorem ml_X6_70 : Cond.methodLink RX6 70 yX6_missOf ∈ zT := zT_in (i := 921) (by decide +kernel) rfl
theorem ml_L_136 : Cond.methodLink RL 136 yX9_dated ∈ zT := zT_in (i := 922) (by decide +kernel) rfl
theorem ml_L_140 : Cond.methodLink RL 140 yX9_learnt ∈ zT := zT_in (i := 926) (by decide +kernel) rfl
theorem ml_X9_273 : Cond.methodLink RX9 273 yX1_warmthLearnt ∈ zT := zT_in (i := 930) (by decide +kernel) rfl
theorem ml_X1_31 : Cond.methodLink RX1 31 yX1_leastFor ∈ zT := zT_in (i := 934) (by decide +kernel) rfl
theorem mn_X1_46 : (RX1, 46, yX9_cut, "BlackGlass") ∈ zNests := List.mem_of_getElem? (i := 15) rfl
theorem ml_X1_35 : Cond.methodLink RX1 35 Lib.Math.max.name ∈ zT := zT_in (i := 938) (by decide +kernel) rfl
theorem ml_X1_40 : Cond.methodLink RX1 40 yX1_greatestFor ∈ zT := zT_in (i := 939) (by decide +kernel) rfl
theorem ml_X1_43 : Cond.methodLink RX1 43 Lib.Math.min.name ∈ zT := zT_in (i := 942) (by decide +kernel) rfl
theorem ml_L_144 : Cond.methodLink RL 144 yX9_count ∈ zT := zT_in (i := 943) (by decide +kernel) rfl
theorem ml_X9_276 : Cond.methodLink RX9 276 yX3_toldFlows ∈ zT := zT_in (i := 947) (by decide +kernel) rfl
theorem ml_X9_288 : Cond.methodLink RX9 288 yX0_strikes ∈ zT := zT_in (i := 951) (by decide +kernel) rfl
theorem ml_L_12 : Cond.methodLink RL 12 yX10_init ∈ zT := zT_in (i := 957) (by decide +kernel) rfl
theorem ml_X10_1 : Cond.methodLink RX10 1 objectInit ∈ zT := zT_in (i := 960) (by decide +kernel) rfl
theorem ml_L_19 : Cond.methodLink RL 19 yX10_write ∈ zT := zT_in (i := 1052) (by decide +kernel) rfl
theorem ml_X10_71 : Cond.methodLink RX10 71 yX10_in ∈ zT := zT_in (i := 1056) (by decide +kernel) rfl
theorem ml_L_24 : Cond.methodLink RL 24 yX10_erase ∈ zT := zT_in (i := 1060) (by decide +kernel) rfl
theorem ml_L_28 : Cond.methodLink RL 28 yX10_fault ∈ zT := zT_in (i := 1064) (by decide +kernel) rfl
theorem ml_X10_149 : Cond.methodLink RX10 149 yX10_isRead ∈ zT := zT_in (i := 1068) (by decide +kernel) rfl
theorem ml_X10_146 : Cond.methodLink RX10 146 yX10_isLine ∈ zT := zT_in (i := 1072) (by decide +kernel) rfl
theorem ml_X10_117 : Cond.methodLink RX10 117 yX10_nextToken ∈ zT := zT_in (i := 1076) (by decide +kernel) rfl
theorem ml_X10_124 : Cond.methodLink RX10 124 yX10_isNumber ∈ zT := zT_in (i := 1092) (by decide +kernel) rfl
theorem ml_X10_120 : Cond.methodLink RX10 120 yX10_fails ∈ zT := zT_in (i := 1096) (by decide +kernel) rfl
theorem ml_X10_139 : Cond.methodLink RX10 139 yX10_isWay ∈ zT := zT_in (i := 1100) (by decide +kernel) rfl
theorem ml_L_32 : Cond.methodLink RL 32 yX10_land ∈ zT := zT_in (i := 1104) (by decide +kernel) rfl
theorem ml_X10_152 : Cond.methodLink RX10 152 yX10_doLine ∈ zT := zT_in (i := 1108) (by decide +kernel) rfl
theorem ml_L_37 : Cond.methodLink RL 37 yX10_place ∈ zT := zT_in (i := 1112) (by decide +kernel) rfl
theorem ml_X10_156 : Cond.methodLink RX10 156 yX10_isPlace ∈ zT := zT_in (i := 1116) (by decide +kernel) rfl
theorem ml_L_41 : Cond.methodLink RL 41 yX10_flow ∈ zT := zT_in (i := 1119) (by decide +kernel) rfl
theorem ml_X10_159 : Cond.methodLink RX10 159 yX10_isFlow ∈ zT := zT_in (i := 1123) (by decide +kernel) rfl
theorem ml_L_46 : Cond.methodLink RL 46 yX10_way ∈ zT := zT_in (i := 1127) (by decide +kernel) rfl
theorem ml_L_51 : Cond.methodLink RL 51 yX10_blade ∈ zT := zT_in (i := 1131) (by decide +kernel) rfl
theorem ml_X10_162 : Cond.methodLink RX10 162 yX10_areNumbers ∈ zT := zT_in (i := 1135) (by decide +kernel) rfl
theorem ml_X10_165 : Cond.methodLink RX10 165 yX10_layNumbers ∈ zT := zT_in (i := 1138) (by decide +kernel) rfl
theorem ml_L_55 : Cond.methodLink RL 55 yX10_rim ∈ zT := zT_in (i := 1142) (by decide +kernel) rfl
theorem ml_X10_169 : Cond.methodLink RX10 169 yX10_isBlade ∈ zT := zT_in (i := 1146) (by decide +kernel) rfl
theorem ml_L_59 : Cond.methodLink RL 59 yX10_measure ∈ zT := zT_in (i := 1150) (by decide +kernel) rfl
theorem ml_X10_172 : Cond.methodLink RX10 172 yX10_at ∈ zT := zT_in (i := 1154) (by decide +kernel) rfl
theorem ml_L_63 : Cond.methodLink RL 63 yX10_of ∈ zT := zT_in (i := 1158) (by decide +kernel) rfl
theorem ml_L_67 : Cond.methodLink RL 67 yX10_off ∈ zT := zT_in (i := 1162) (by decide +kernel) rfl
theorem ml_X10_176 : Cond.methodLink RX10 176 yX10_offOf ∈ zT := zT_in (i := 1166) (by decide +kernel) rfl
theorem ml_L_72 : Cond.methodLink RL 72 yX10_can ∈ zT := zT_in (i := 1170) (by decide +kernel) rfl
theorem ml_X10_179 : Cond.methodLink RX10 179 yX10_canBe ∈ zT := zT_in (i := 1174) (by decide +kernel) rfl
theorem ml_L_76 : Cond.methodLink RL 76 yX10_named ∈ zT := zT_in (i := 1178) (by decide +kernel) rfl
theorem ml_X10_183 : Cond.methodLink RX10 183 yX10_bits ∈ zT := zT_in (i := 1182) (by decide +kernel) rfl
theorem ml_L_80 : Cond.methodLink RL 80 yX10_strike ∈ zT := zT_in (i := 1185) (by decide +kernel) rfl
theorem ml_X10_186 : Cond.methodLink RX10 186 yX10_isFrom ∈ zT := zT_in (i := 1189) (by decide +kernel) rfl
theorem ml_L_84 : Cond.methodLink RL 84 yX10_undo ∈ zT := zT_in (i := 1193) (by decide +kernel) rfl
theorem ml_L_88 : Cond.methodLink RL 88 yX10_span ∈ zT := zT_in (i := 1197) (by decide +kernel) rfl
theorem ml_X10_214 : Cond.methodLink RX10 214 yX10_areYears ∈ zT := zT_in (i := 1201) (by decide +kernel) rfl
theorem ml_X10_208 : Cond.methodLink RX10 208 yX10_begin ∈ zT := zT_in (i := 1205) (by decide +kernel) rfl
theorem ml_X10_190 : Cond.methodLink RX10 190 yX10_warmthOf ∈ zT := zT_in (i := 1209) (by decide +kernel) rfl
theorem ml_X10_193 : Cond.methodLink RX10 193 yX10_ago ∈ zT := zT_in (i := 1213) (by decide +kernel) rfl
theorem ml_X10_196 : Cond.methodLink RX10 196 yX10_isReused ∈ zT := zT_in (i := 1216) (by decide +kernel) rfl
theorem ml_X10_211 : Cond.methodLink RX10 211 yX10_goRound ∈ zT := zT_in (i := 1220) (by decide +kernel) rfl
theorem ml_X10_199 : Cond.methodLink RX10 199 yX10_greater ∈ zT := zT_in (i := 1224) (by decide +kernel) rfl
theorem ml_X10_202 : Cond.methodLink RX10 202 yX10_lesser ∈ zT := zT_in (i := 1227) (by decide +kernel) rfl
theorem ml_X10_205 : Cond.methodLink RX10 205 yX10_isBelow ∈ zT := zT_in (i := 1230) (by decide +kernel) rfl
theorem ml_L_92 : Cond.methodLink RL 92 yX10_heirloom ∈ zT := zT_in (i := 1234) (by decide +kernel) rfl
theorem ml_L_96 : Cond.methodLink RL 96 yX10_from ∈ zT := zT_in (i := 1238) (by decide +kernel) rfl
theorem ml_X10_217 : Cond.methodLink RX10 217 yX10_mayBeFrom ∈ zT := zT_in (i := 1242) (by decide +kernel) rfl
theorem ml_L_100 : Cond.methodLink RL 100 yX10_chain ∈ zT := zT_in (i := 1246) (by decide +kernel) rfl
theorem ml_L_105 : Cond.methodLink RL 105 yX10_legs ∈ zT := zT_in (i := 1250) (by decide +kernel) rfl
theorem ml_X10_223 : Cond.methodLink RX10 223 yX10_layOut ∈ zT := zT_in (i := 1254) (by decide +kernel) rfl
theorem ml_X10_220 : Cond.methodLink RX10 220 yX10_isLive ∈ zT := zT_in (i := 1258) (by decide +kernel) rfl
theorem ml_L_110 : Cond.methodLink RL 110 yX10_reach ∈ zT := zT_in (i := 1262) (by decide +kernel) rfl
theorem ml_X10_227 : Cond.methodLink RX10 227 yX10_comesBy ∈ zT := zT_in (i := 1266) (by decide +kernel) rfl
theorem ml_L_114 : Cond.methodLink RL 114 yX10_boats ∈ zT := zT_in (i := 1270) (by decide +kernel) rfl
theorem ml_X10_231 : Cond.methodLink RX10 231 yX10_byBoat ∈ zT := zT_in (i := 1274) (by decide +kernel) rfl
theorem ml_L_118 : Cond.methodLink RL 118 yX10_sea ∈ zT := zT_in (i := 1278) (by decide +kernel) rfl
theorem ml_L_122 : Cond.methodLink RL 122 yX10_next ∈ zT := zT_in (i := 1282) (by decide +kernel) rfl
theorem ml_L_127 : Cond.methodLink RL 127 yX10_counts ∈ zT := zT_in (i := 1286) (by decide +kernel) rfl
theorem ml_L_131 : Cond.methodLink RL 131 yX10_miss ∈ zT := zT_in (i := 1290) (by decide +kernel) rfl
theorem ml_X10_239 : Cond.methodLink RX10 239 yX10_missBy ∈ zT := zT_in (i := 1294) (by decide +kernel) rfl
theorem ml_X10_235 : Cond.methodLink RX10 235 yX10_shareBy ∈ zT := zT_in (i := 1298) (by decide +kernel) rfl
theorem ml_L_135 : Cond.methodLink RL 135 yX10_law ∈ zT := zT_in (i := 1301) (by decide +kernel) rfl
theorem ml_L_139 : Cond.methodLink RL 139 yX10_dated ∈ zT := zT_in (i := 1305) (by decide +kernel) rfl
theorem ml_L_143 : Cond.methodLink RL 143 yX10_learnt ∈ zT := zT_in (i := 1309) (by decide +kernel) rfl
theorem ml_L_147 : Cond.methodLink RL 147 yX10_count ∈ zT := zT_in (i := 1313) (by decide +kernel) rfl
theorem zma_max_s : Cond.static Lib.Math.max.name ∈ zT := zT_in (i := 614) (by decide +kernel) rfl
theorem zma_max_c : Cond.code Lib.Math.max.name Lib.Math.max.code 2 (some .int) ∈ zT := zT_in (i := 615) (by decide +kernel) rfl
theorem zma_min_s : Cond.static Lib.Math.min.name ∈ zT := zT_in (i := 438) (by decide +kernel) rfl
theorem zma_min_c : Cond.code Lib.Math.min.name Lib.Math.min.code 2 (some .int) ∈ zT := zT_in (i := 439) (by decide +kernel) rfl
theorem zma_abs_s : Cond.static Lib.Math.abs.name ∈ zT := zT_in (i := 611) (by decide +kernel) rfl
theorem zma_abs_c : Cond.code Lib.Math.abs.name Lib.Math.abs.code 1 (some .int) ∈ zT := zT_in (i := 612) (by decide +kernel) rfl
theorem zma_i : Cond.initialized "java/lang/Math" ∈ zT := zT_in (i := 64) (by decide +kernel) rfl
theorem zac_n : Cond.native arraycopyName ∈ zT := zT_in (i := 701) (by decide +kernel) rfl
theorem zac_s : Cond.static arraycopyName ∈ zT := zT_in (i := 700) (by decide +kernel) rfl
theorem zac_i : Cond.initialized "java/lang/System" ∈ zT := zT_in (i := 70) (by decide +kernel) rfl
theorem ko_J6_265 : Cond.constant RJ6 265 (1431655765) ∈ zT := zT_in (i := 640) (by decide +kernel) rfl
theorem ko_J6_266 : Cond.constant RJ6 266 (858993459) ∈ zT := zT_in (i := 641) (by decide +kernel) rfl
theorem ko_J6_267 : Cond.constant RJ6 267 (252645135) ∈ zT := zT_in (i := 642) (by decide +kernel) rfl
theorem ko_X10_84 : Cond.constantLong RX10 84 (255) ∈ zT := zT_in (i := 1059) (by decide +kernel) rfl
theorem ko_X10_98 : Cond.constantLong RX10 98 (-2) ∈ zT := zT_in (i := 1080) (by decide +kernel) rfl
theorem ko_X10_104 : Cond.constantLong RX10 104 (27) ∈ zT := zT_in (i := 1081) (by decide +kernel) rfl
theorem ko_X10_106 : Cond.constantLong RX10 106 (96) ∈ zT := zT_in (i := 1082) (by decide +kernel) rfl
theorem ko_X10_108 : Cond.constantLong RX10 108 (-4) ∈ zT := zT_in (i := 1083) (by decide +kernel) rfl
theorem ko_X10_110 : Cond.constantLong RX10 110 (-1) ∈ zT := zT_in (i := 1084) (by decide +kernel) rfl
theorem ko_X10_112 : Cond.constantLong RX10 112 (-3) ∈ zT := zT_in (i := 1085) (by decide +kernel) rfl
theorem ko_X10_127 : Cond.constantLong RX10 127 (8740067) ∈ zT := zT_in (i := 1086) (by decide +kernel) rfl
theorem ko_X10_129 : Cond.constantLong RX10 129 (127274) ∈ zT := zT_in (i := 1087) (by decide +kernel) rfl
theorem ko_X10_131 : Cond.constantLong RX10 131 (237307) ∈ zT := zT_in (i := 1088) (by decide +kernel) rfl
theorem ko_X10_133 : Cond.constantLong RX10 133 (50348) ∈ zT := zT_in (i := 1089) (by decide +kernel) rfl
theorem ko_X10_135 : Cond.constantLong RX10 135 (279252) ∈ zT := zT_in (i := 1090) (by decide +kernel) rfl
theorem ko_X10_137 : Cond.constantLong RX10 137 (4419) ∈ zT := zT_in (i := 1091) (by decide +kernel) rfl
theorem ko_L_13 : Cond.constantLong RL 13 (4294967295) ∈ zT := zT_in (i := 1317) (by decide +kernel) rfl
