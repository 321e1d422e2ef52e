/-! String constants' own methods: length(), charAt(int) -/
section ZSTR
variable {sh : List zC} {K : zK} {own : String} {cc : ByteArray} {ret : Option FieldType} {mL n : Nat} {X Y : Option (Int32 × zS)} {pc : Nat} {lv : List (Nat × Value)} {st : List Value} {σ : zS}
theorem z_gets {i : Nat} {v : Value} {Cn nn dd : String} (C : zOk sh K own cc ret mL n) (hZ : va_Z Cn nn dd v (zA (kG K) sh (ks K).heap.size) (ks K) (ks K).heap) (hw : Cond.fieldLink own i Cn nn dd ∈ zT) (d : decode cc pc = .ok (.getstatic i, 3)) (k : Zf sh K X (pc + 3) lv (v :: st) σ) : Zf sh K X pc lv st σ :=
  fun hX H locs ls hP hS hl => va_gets C.hx C.hb hZ hS C.hown (C.hts _ hw) (fun _ h => h) d (k hX H locs ls hP hS hl)
theorem z_getT {i q : Nat} {v : Value} {nn dd : String} (C : zOk sh K own cc ret mL n) (hE : va_OF "java/lang/String" nn dd v q (zA (kG K) sh (ks K).heap.size) (ks K) (ks K).heap) (hw : Cond.fieldLink own i "java/lang/String" nn dd ∈ zT) (d : decode cc pc = .ok (.getfield i, 3)) (k : Zf sh K X (pc + 3) lv (v :: st) σ) : Zf sh K X pc lv (.ref q :: st) σ :=
  fun hX H locs ls hP hS hl => vk_getf C.hx C.hb hE hS C.hown (C.hts _ hw) (fun _ h => h) d (k hX H locs ls hP hS hl)
theorem z_tlen {t N : Nat} {f : Nat → Value} {v : Int32} (C : zOk sh K own cc ret mL n) (hT : va_T .byte t N f (zA (kG K) sh (ks K).heap.size) (ks K) (ks K).heap) (hv : Int32.ofNat N = v) (d : decode cc pc = .ok (.arraylength, 1)) (k : Zf sh K X (pc + 1) lv (.int v :: st) σ) : Zf sh K X pc lv (.ref t :: st) σ :=
  fun hX H locs ls hP hS hl => va_tlen C.hx C.hb hT hS hv d (k hX H locs ls hP hS hl)
theorem z_tb {t N : Nat} {f : Nat → Value} {v : Value} {i : Int32} (C : zOk sh K own cc ret mL n) (hT : va_T .byte t N f (zA (kG K) sh (ks K).heap.size) (ks K) (ks K).heap) (hin : vp_in i N) (hv : f i.toNatClampNeg = v) (d : decode cc pc = .ok (.baload, 1)) (k : Zf sh K X (pc + 1) lv (v :: st) σ) : Zf sh K X pc lv (.int i :: .ref t :: st) σ :=
  fun hX H locs ls hP hS hl => va_tb C.hx C.hb hT hS hin hv d (k hX H locs ls hP hS hl)
theorem z_i2c {x v : Int32} (C : zOk sh K own cc ret mL n) (hv : (x.toUInt32 % 65536).toInt32 = v) (d : decode cc pc = .ok (.i2c, 1)) (k : Zf sh K X (pc + 1) lv (.int v :: st) σ) : Zf sh K X pc lv (.int x :: st) σ :=
  fun hX H locs ls hP hS hl => lv_i2c C.hx C.hb d hv (k hX H locs ls hP hS hl)
theorem z_br_f {c : Prop} [Decidable c] (h : ¬ c) (k : Zf sh K (if c then none else X) pc lv st σ) : Zf sh K X pc lv st σ := by rw [if_neg h] at k; exact k
theorem z_br_t {c : Prop} [Decidable c] (h : c) (k : Zf sh K (if c then X else none) pc lv st σ) : Zf sh K X pc lv st σ := by rw [if_pos h] at k; exact k
theorem z_nret {v : Int32} {ty : FieldType} (C : zOk sh K own cc (some ty) mL n) (hn : narrow ty (.int v) = .int v) (hz : zov (some ty) (kG K) v = some (.int v)) (d : decode cc pc = .ok (.ireturn, 1)) : Zf sh K (some (v, σ)) pc lv [.int v] σ := by
  intro hX H locs ls hP hS hl
  have h1 : v = kr K := congrArg Prod.fst (Option.some.inj hX)
  have h2 : σ = kx K := congrArg Prod.snd (Option.some.inj hX)
  exact W.zret C.hx C.hb C.hr hn (fun t ht hW => ⟨⟨by rw [C.ho, ← h1, hz], by rw [ht, ← h2]; exact hP⟩, hS.F ht⟩) hS.2.2 d C.hlocks
end ZSTR
theorem fj_9 : Cond.fieldLink RJ0 9 "java/lang/String" "value" "[B" ∈ zT := zT_in (i := 1318) (by decide +kernel) rfl
theorem fj_15 : Cond.fieldLink RJ0 15 "java/lang/String" "coder" "B" ∈ zT := zT_in (i := 1319) (by decide +kernel) rfl
theorem fj_38 : Cond.fieldLink RJ0 38 "java/lang/String" "COMPACT_STRINGS" "Z" ∈ zT := zT_in (i := 475) (by decide +kernel) rfl
theorem fj_1053 : Cond.fieldLink RJ0 1053 "jdk/internal/util/Preconditions" "SIOOBE_FORMATTER" "Ljava/util/function/BiFunction;" ∈ zT := zT_in (i := 491) (by decide +kernel) rfl
theorem m_J0_coder {l : Launch} {G : zG} {q : Nat} {σ : zS} (hq : q < 10) : zM l G zshA yJ0_coder_7d493 cJ0_coder_7d493 1 (some .byte) 0 [.ref (gk G q)] (zov (some .byte) G 0) σ σ :=
  z_met (X := some (0, σ)) (by decide) (Nat.le_of_ble_eq_true rfl) rfl (fun K _ hG C => by
    subst hG
    show Zf zshA K _ 0 [(0, .ref (gk (kG K) q))] [] σ
    refine z_gets C C.hX.2.2.2.1 fj_38 dJ0_coder_7d493_0 ?_
    refine z_br_f (c := (1 : Int32) = 0) (by decide) ?_
    refine z_if_eq (tgt := 13) C dJ0_coder_7d493_3 (by decide) z_none ?_
    refine z_aload_n C dJ0_coder_7d493_6 0 rfl ?_
    refine z_getT C (C.hX.2.2.1.1 q hq).2.1 fj_15 dJ0_coder_7d493_7 ?_
    refine z_goto (tgt := 14) C dJ0_coder_7d493_10 (by decide) ?_
    exact z_nret C (by decide) rfl dJ0_coder_7d493_14)
theorem m_J0_isLatin1 {l : Launch} {G : zG} {q : Nat} {σ : zS} (hq : q < 10) : zM l G zshA yJ0_isLatin1_aae02 cJ0_isLatin1_aae02 1 (some .boolean) 0 [.ref (gk G q)] (zov (some .boolean) G 1) σ σ :=
  z_met (X := some (1, σ)) (by decide) (Nat.le_of_ble_eq_true rfl) rfl (fun K _ hG C => by
    subst hG
    show Zf zshA K _ 0 [(0, .ref (gk (kG K) q))] [] σ
    refine z_gets C C.hX.2.2.2.1 fj_38 dJ0_isLatin1_aae02_0 ?_
    refine z_br_f (c := (1 : Int32) = 0) (by decide) ?_
    refine z_if_eq (tgt := 17) C dJ0_isLatin1_aae02_3 (by decide) z_none ?_
    refine z_aload_n C dJ0_isLatin1_aae02_6 0 rfl ?_
    refine z_getT C (C.hX.2.2.1.1 q hq).2.1 fj_15 dJ0_isLatin1_aae02_7 ?_
    refine z_br_t (c := (0 : Int32) = 0) rfl ?_
    refine z_if_ne (tgt := 17) C dJ0_isLatin1_aae02_10 (by decide) ?_ z_none
    refine z_iconst (v := 1) C dJ0_isLatin1_aae02_13 (by decide) ?_
    refine z_goto (tgt := 18) C dJ0_isLatin1_aae02_14 (by decide) ?_
    exact z_zret C (by decide) dJ0_isLatin1_aae02_18)
theorem m_J3_checkIndex {l : Launch} {G : zG} {i j : Int32} {v : Value} {σ : zS} (hv : v = .null ∨ ∃ t, v = .ref t) (h0 : ¬ i < 0) (h1 : i < j) : zM l G zshA yJ3_checkIndex_8e157 cJ3_checkIndex_8e157 3 (some .int) 0 [.int i, .int j, v] (zov (some .int) G i) σ σ :=
  z_met (X := some (i, σ)) (by decide) (by rcases hv with rfl | ⟨t, rfl⟩ <;> exact Nat.le_of_ble_eq_true rfl) rfl (fun K _ hG C => by
    subst hG
    show Zf zshA K _ 0 [(0, .int i), (1, .int j), (2, v)] [] σ
    refine z_iload_n C dJ3_checkIndex_8e157_0 0 rfl ?_
    refine z_br_f (c := i < 0) h0 ?_
    refine z_if_lt (tgt := 9) C dJ3_checkIndex_8e157_1 (by decide) z_none ?_
    refine z_iload_n C dJ3_checkIndex_8e157_4 0 rfl ?_
    refine z_iload_n C dJ3_checkIndex_8e157_5 1 rfl ?_
    refine z_br_t (c := i < j) h1 ?_
    refine z_icmp_lt (tgt := 16) C dJ3_checkIndex_8e157_6 (by decide) ?_ z_none
    refine z_iload_n C dJ3_checkIndex_8e157_16 0 rfl ?_
    exact z_iret C dJ3_checkIndex_8e157_17)
theorem m_J0_checkIndex {l : Launch} {G : zG} {i j : Int32} {σ : zS} (h0 : ¬ i < 0) (h1 : i < j) : zM l G zshA yJ0_checkIndex_df160 cJ0_checkIndex_df160 2 none 2 [.int i, .int j] (zov none G 0) σ σ :=
  z_met (X := zbd (some (i, σ)) (fun _ σ1 => some (0, σ1))) (by decide) (Nat.le_of_ble_eq_true rfl) rfl (fun K _ hG C => by
    subst hG
    show Zf zshA K _ 0 [(0, .int i), (1, .int j)] [] σ
    refine z_iload_n C dJ0_checkIndex_df160_0 0 rfl ?_
    refine z_iload_n C dJ0_checkIndex_df160_1 1 rfl ?_
    rcases C.hX.2.2.2.2 with hZ | ⟨t, hZ⟩
    · refine z_gets C hZ fj_1053 dJ0_checkIndex_df160_2 ?_
      refine z_callSi (n1 := 0) (As := [.int i, .int j, .null]) (st := []) C zy_J3_checkIndex_8e157 zs_J3_checkIndex_8e157 ml_J0_1059 (by decide) (fun r σ1 h => by cases h; exact m_J3_checkIndex (Or.inl rfl) h0 h1) rfl rfl (Nat.le_of_ble_eq_true rfl) dJ0_checkIndex_df160_5 (fun v1 σ1 => ?_)
      refine z_pop C dJ0_checkIndex_df160_8 rfl ?_
      exact z_vret C dJ0_checkIndex_df160_9
    · refine z_gets C hZ fj_1053 dJ0_checkIndex_df160_2 ?_
      refine z_callSi (n1 := 0) (As := [.int i, .int j, .ref t]) (st := []) C zy_J3_checkIndex_8e157 zs_J3_checkIndex_8e157 ml_J0_1059 (by decide) (fun r σ1 h => by cases h; exact m_J3_checkIndex (Or.inr ⟨t, rfl⟩) h0 h1) rfl rfl (Nat.le_of_ble_eq_true rfl) dJ0_checkIndex_df160_5 (fun v1 σ1 => ?_)
      refine z_pop C dJ0_checkIndex_df160_8 rfl ?_
      exact z_vret C dJ0_checkIndex_df160_9)
theorem zbyt_ok : ∀ q, q < 10 → ∀ j, j < zlen.getD q 0 → (((zbyt.getD q []).getD j 0 &&& 255).toUInt32 % 65536).toInt32 = (zbyt.getD q []).getD j 0 ∧ narrow .char (.int ((zbyt.getD q []).getD j 0)) = .int ((zbyt.getD q []).getD j 0) := by decide +kernel
theorem zlen_31 : ∀ q, q < 10 → zlen.getD q 0 < 2 ^ 31 := by decide +kernel
theorem m_J1_charAt {l : Launch} {G : zG} {q : Nat} {i : Int32} {σ : zS} (hq : q < 10) (h0 : 0 ≤ i.toInt) (h1 : i.toInt < zlen.getD q 0) : zM l G zshA yJ1_charAt_3b067 cJ1_charAt_3b067 2 (some .char) 3 [.ref (gv G q), .int i] (zov (some .char) G ((zbyt.getD q []).getD i.toNatClampNeg 0)) σ σ :=
  z_met (X := zbd (some (0, σ)) (fun _ σ1 => some ((zbyt.getD q []).getD i.toNatClampNeg 0, σ1))) (by decide) (Nat.le_of_ble_eq_true rfl) rfl (fun K _ hG C => by
    subst hG
    have hT := (C.hX.2.2.1.1 q hq).2.2.2
    have hj : i.toNatClampNeg < zlen.getD q 0 := by
      have : i.toNatClampNeg = i.toInt.toNat := rfl
      omega
    obtain ⟨b1, b2⟩ := zbyt_ok q hq _ hj
    have hl : (nI (zlen.getD q 0)).toInt = (zlen.getD q 0 : Int) := nI_toInt (zlen_31 q hq)
    show Zf zshA K _ 0 [(0, .ref (gv (kG K) q)), (1, .int i)] [] σ
    refine z_iload_n C dJ1_charAt_3b067_0 1 rfl ?_
    refine z_aload_n C dJ1_charAt_3b067_1 0 rfl ?_
    refine z_tlen (v := nI (zlen.getD q 0)) C hT rfl dJ1_charAt_3b067_2 ?_
    refine z_callSv (n1 := 2) (As := [.int i, .int (nI (zlen.getD q 0))]) (st := []) C zy_J0_checkIndex_df160 zs_J0_checkIndex_df160 ml_J1_9 (by decide) (fun r σ1 h => by cases h; exact m_J0_checkIndex (fun z => by have := Int32.lt_iff_toInt_lt.mp z; simp at this; omega) (by rw [Int32.lt_iff_toInt_lt, hl]; exact h1)) rfl rfl (Nat.le_of_ble_eq_true rfl) dJ1_charAt_3b067_3 (fun v1 σ1 => ?_)
    refine z_aload_n C dJ1_charAt_3b067_6 0 rfl ?_
    refine z_iload_n C dJ1_charAt_3b067_7 1 rfl ?_
    refine z_tb C hT (vp_in_iff.mpr ⟨h0, h1⟩) rfl dJ1_charAt_3b067_8 ?_
    refine z_sipush (v := 255) C dJ1_charAt_3b067_9 (by decide) ?_
    refine z_iand C dJ1_charAt_3b067_12 ?_
    refine z_i2c C b1 dJ1_charAt_3b067_13 ?_
    exact z_nret C b2 rfl dJ1_charAt_3b067_14)
theorem m_J0_length_8abf5 {l : Launch} {G : zG} {x0 : Int32} {σ σ1 : zS} {r : Int32} (h : f_J0_length_8abf5 x0 σ = some (r, σ1)) : zM l G zshA yJ0_length_8abf5 cJ0_length_8abf5 1 (some .int) 2 [.ref (gk G x0.toNatClampNeg)] (zov (some .int) G r) σ σ1 := by
  unfold f_J0_length_8abf5 at h
  by_cases hq : x0.toNatClampNeg < 10
  · rw [if_pos hq] at h
    generalize x0.toNatClampNeg = q at hq h ⊢
    cases h
    refine z_met (X := zbd (some (0, σ)) (fun z σ1 => some (nI (zlen.getD q 0) >>> (z &&& 31), σ1))) (by decide) (Nat.le_of_ble_eq_true rfl) (by show some (nI (zlen.getD q 0) >>> ((0 : Int32) &&& 31), σ) = _; rw [sb_shr0]) (fun K _ hG C => by
      subst hG
      have hT := (C.hX.2.2.1.1 q hq).2.2.2
      show Zf zshA K _ 0 [(0, .ref (gk (kG K) q))] [] σ
      refine z_aload_n C dJ0_length_8abf5_0 0 rfl ?_
      refine z_getT C (C.hX.2.2.1.1 q hq).2.2.1 fj_9 dJ0_length_8abf5_1 ?_
      refine z_tlen (v := nI (zlen.getD q 0)) C hT rfl dJ0_length_8abf5_4 ?_
      refine z_aload_n C dJ0_length_8abf5_5 0 rfl ?_
      refine z_callT (n1 := 0) (q := q) (As := []) (st := [.int (nI (zlen.getD q 0))]) C zy_J0_coder_7d493 zv_J0_coder_7d493 ml_J0_335 rfl (fun z => absurd hq z) (by decide) (fun r σ1 h => by cases h; exact m_J0_coder hq) rfl rfl (Nat.le_of_ble_eq_true rfl) dJ0_length_8abf5_6 (fun v1 σ1 => ?_)
      show Zf zshA K _ 9 [(0, .ref (gk (kG K) q))] [.int v1, .int (nI (zlen.getD q 0))] σ1
      refine z_ishr C dJ0_length_8abf5_9 ?_
      exact z_iret C dJ0_length_8abf5_10)
  · rw [if_neg hq] at h; cases h
theorem m_J0_charAt_5068e {l : Launch} {G : zG} {x0 x1 : Int32} {σ σ1 : zS} {r : Int32} (h : f_J0_charAt_5068e x0 x1 σ = some (r, σ1)) : zM l G zshA yJ0_charAt_5068e cJ0_charAt_5068e 2 (some .char) 4 [.ref (gk G x0.toNatClampNeg), .int x1] (zov (some .char) G r) σ σ1 := by
  unfold f_J0_charAt_5068e at h
  by_cases hc : x0.toNatClampNeg < 10 ∧ 0 ≤ x1.toInt ∧ x1.toInt < zlen.getD x0.toNatClampNeg 0
  · rw [if_pos hc] at h
    generalize x0.toNatClampNeg = q at hc h ⊢
    obtain ⟨hq, h0, h1⟩ := hc
    cases h
    refine z_met (X := zbd (some (1, σ)) (fun z σ1 => if z = 0 then none else zbd (some ((zbyt.getD q []).getD x1.toNatClampNeg 0, σ1)) (fun r σ2 => if narrow .char (.int r) = .int r then some (r, σ2) else none))) (by decide) (Nat.le_of_ble_eq_true rfl) ?_ (fun K _ hG C => by
      subst hG
      show Zf zshA K _ 0 [(0, .ref (gk (kG K) q)), (1, .int x1)] [] σ
      refine z_aload_n C dJ0_charAt_5068e_0 0 rfl ?_
      refine z_callTz (n1 := 0) (q := q) (As := []) (st := []) C zy_J0_isLatin1_aae02 zv_J0_isLatin1_aae02 ml_J0_492 rfl (fun z => absurd hq z) (by decide) (fun r σ1 h => by cases h; exact m_J0_isLatin1 hq) rfl rfl (Nat.le_of_ble_eq_true rfl) dJ0_charAt_5068e_1 (fun v1 σ1 => ?_)
      refine z_if_eq (tgt := 16) C dJ0_charAt_5068e_4 (by decide) z_none ?_
      refine z_aload_n C dJ0_charAt_5068e_7 0 rfl ?_
      refine z_getT C (C.hX.2.2.1.1 q hq).2.2.1 fj_9 dJ0_charAt_5068e_8 ?_
      refine z_iload_n C dJ0_charAt_5068e_11 1 rfl ?_
      refine z_callSc (n1 := 3) (As := [.ref (gv (kG K) q), .int x1]) (st := []) C zy_J1_charAt_3b067 zs_J1_charAt_3b067 ml_J0_495 (by decide) (fun r σ1 h => by cases h; exact m_J1_charAt hq h0 h1) rfl rfl (Nat.le_of_ble_eq_true rfl) dJ0_charAt_5068e_12 (fun v2 σ2 => ?_)
      intro hX
      by_cases hn : narrow .char (.int v2) = .int v2
      · rw [if_pos hn] at hX
        exact z_nret C hn rfl dJ0_charAt_5068e_15 hX
      · rw [if_neg hn] at hX; cases hX)
    have hj : x1.toNatClampNeg < zlen.getD q 0 := by
      have : x1.toNatClampNeg = x1.toInt.toNat := rfl
      omega
    have b2 := (zbyt_ok q hq _ hj).2
    show (if narrow .char (.int ((zbyt.getD q []).getD x1.toNatClampNeg 0)) = .int ((zbyt.getD q []).getD x1.toNatClampNeg 0) then some ((zbyt.getD q []).getD x1.toNatClampNeg 0, σ) else none) = _
    rw [if_pos b2]
  · rw [if_neg hc] at h; cases h
