/-! the pure side: words of the printed functions -/
def zin (j : Int32) (n : Nat) : Prop := vp_in j n
theorem zin_iff {j : Int32} {n : Nat} : zin j n ↔ vp_in j n := Iff.rfl
def zbd (x : Option (Int32 × zS)) (f : Int32 → zS → Option (Int32 × zS)) : Option (Int32 × zS) := match x with
  | none => none
  | some q => f q.1 q.2
def zrd (σ : zS) (k n : Nat) (j : Int32) (X : Int32 → Option (Int32 × zS)) : Option (Int32 × zS) := if 0 ≤ j.toInt ∧ j.toInt < n then X (σ k j.toNatClampNeg) else none
def zwr (σ : zS) (k n : Nat) (j v : Int32) (X : zS → Option (Int32 × zS)) : Option (Int32 × zS) := if 0 ≤ j.toInt ∧ j.toInt < n then X (zup σ k j.toNatClampNeg v) else none
def zst (σ : zS) (k j : Nat) (v : Int32) (X : zS → Option (Int32 × zS)) : Option (Int32 × zS) := X (zup σ k j v)
def zsl (σ : zS) (k j : Nat) (v : Int64) (X : zS → Option (Int32 × zS)) : Option (Int32 × zS) := X (zup (zup σ k j (zlo v)) k (j + 1000) (zhi v))
def zdv (a b : Int32) (X : Int32 → Option (Int32 × zS)) : Option (Int32 × zS) := if b = 0 then none else X (a / b)
def zrm2 (a b : Int32) (X : Int32 → Option (Int32 × zS)) : Option (Int32 × zS) := if b = 0 then none else X (a - a / b * b)
def zlt (a : Int32) (X : Int32 → Option (Int32 × zS)) : Option (Int32 × zS) := X a
def zcp (σ : zS) (k0 k1 n : Nat) (X : zS → Option (Int32 × zS)) : Option (Int32 × zS) := X (zsa σ k1 (va_cpy (σ k0) (σ k1) 0 0 n))
/-- a boolean answer -/
def zrb (v : Int32) (σ : zS) : Option (Int32 × zS) := if v &&& 1 = v then some (v, σ) else none
def zmax (x y : Int32) : Int32 := if x < y then y else x
def zmin (x y : Int32) : Int32 := if y < x then y else x
def zabs (x : Int32) : Int32 := if 0 ≤ x then x else 0 - x
section ZRULES
variable {sh : List zC} {K : zK} {own : String} {cc : ByteArray} {ret : Option FieldType} {mL n : Nat} {X Y : Option (Int32 × zS)} {pc : Nat} {lv : List (Nat × Value)} {st : List Value} {σ : zS}
theorem z_sub (ks : List Nat) {lv' : List (Nat × Value)} (h : lv_pick lv ks = lv') (k : Zf sh K X pc lv' st σ) : Zf sh K X pc lv st σ := fun hX H locs ls hP hS hl => k hX H locs ls hP hS (lv_sub hl ks h)
theorem z_none : Zf sh K none pc lv st σ := fun h => by cases h
theorem z_iconst {z : Int} {v : Int32} (C : zOk sh K own cc ret mL n) (d : decode cc pc = .ok (.iconst z, 1)) (hv : Int32.ofInt z = v) (k : Zf sh K X (pc + 1) lv (.int v :: st) σ) : Zf sh K X pc lv (st) σ :=
  fun hX H locs ls hP hS hl => lv_iconst C.hx C.hb d hv (k hX H locs ls hP hS hl)
theorem z_bipush {z : Int} {v : Int32} (C : zOk sh K own cc ret mL n) (d : decode cc pc = .ok (.bipush z, 2)) (hv : (Int8.ofInt z).toInt32 = v) (k : Zf sh K X (pc + 2) lv (.int v :: st) σ) : Zf sh K X pc lv (st) σ :=
  fun hX H locs ls hP hS hl => lv_bipush C.hx C.hb d hv (k hX H locs ls hP hS hl)
theorem z_sipush {z : Int} {v : Int32} (C : zOk sh K own cc ret mL n) (d : decode cc pc = .ok (.sipush z, 3)) (hv : (Int16.ofInt z).toInt32 = v) (k : Zf sh K X (pc + 3) lv (.int v :: st) σ) : Zf sh K X pc lv (st) σ :=
  fun hX H locs ls hP hS hl => lv_sipush C.hx C.hb d hv (k hX H locs ls hP hS hl)
theorem z_lconst {z : Fin 2} {v : Int64} (C : zOk sh K own cc ret mL n) (d : decode cc pc = .ok (.lconst z, 1)) (hv : Int64.ofNat (z : Nat) = v) (k : Zf sh K X (pc + 1) lv (.long v :: st) σ) : Zf sh K X pc lv (st) σ :=
  fun hX H locs ls hP hS hl => lv_lconst C.hx C.hb d hv (k hX H locs ls hP hS hl)
theorem z_ldcw {i : Nat} {v : Int32} (C : zOk sh K own cc ret mL n) (d : decode cc pc = .ok (.ldc_w i, 3)) (hw : Cond.constant own i v ∈ zT) (k : Zf sh K X (pc + 3) lv (.int v :: st) σ) : Zf sh K X pc lv (st) σ :=
  fun hX H locs ls hP hS hl => lv_ldcw C.hx C.hb C.hown (C.hts _ hw) d (k hX H locs ls hP hS hl)
theorem z_ldc2 {i : Nat} {v : Int64} (C : zOk sh K own cc ret mL n) (d : decode cc pc = .ok (.ldc2_w i, 3)) (hw : Cond.constantLong own i v ∈ zT) (k : Zf sh K X (pc + 3) lv (.long v :: st) σ) : Zf sh K X pc lv (st) σ :=
  fun hX H locs ls hP hS hl => lv_ldc2 C.hx C.hb C.hown (C.hts _ hw) d (k hX H locs ls hP hS hl)
theorem z_iload_n {i : Fin 4} {x : Int32} (C : zOk sh K own cc ret mL n) (d : decode cc pc = .ok (.iload_n i, 1)) (j : Nat) (h : lv[j]? = some ((i : Nat), .int x)) (k : Zf sh K X (pc + 1) lv (.int x :: st) σ) : Zf sh K X pc lv (st) σ :=
  fun hX H locs ls hP hS hl => lv_iload_n C.hx C.hb d rfl (lv_at hl j h) (k hX H locs ls hP hS hl)
theorem z_lload_n {i : Fin 4} {x : Int64} (C : zOk sh K own cc ret mL n) (d : decode cc pc = .ok (.lload_n i, 1)) (j : Nat) (h : lv[j]? = some ((i : Nat), .long x)) (k : Zf sh K X (pc + 1) lv (.long x :: st) σ) : Zf sh K X pc lv (st) σ :=
  fun hX H locs ls hP hS hl => lv_lload_n C.hx C.hb d rfl (lv_at hl j h) (k hX H locs ls hP hS hl)
theorem z_aload_n {i : Fin 4} {x : Nat} (C : zOk sh K own cc ret mL n) (d : decode cc pc = .ok (.aload_n i, 1)) (j : Nat) (h : lv[j]? = some ((i : Nat), .ref x)) (k : Zf sh K X (pc + 1) lv (.ref x :: st) σ) : Zf sh K X pc lv (st) σ :=
  fun hX H locs ls hP hS hl => lv_aload_n C.hx C.hb d rfl (lv_at hl j h) (k hX H locs ls hP hS hl)
theorem z_iload {i : Nat} {x : Int32} (C : zOk sh K own cc ret mL n) (d : decode cc pc = .ok (.iload i, 2)) (j : Nat) (h : lv[j]? = some (i, .int x)) (k : Zf sh K X (pc + 2) lv (.int x :: st) σ) : Zf sh K X pc lv (st) σ :=
  fun hX H locs ls hP hS hl => lv_iload C.hx C.hb d (lv_at hl j h) (k hX H locs ls hP hS hl)
theorem z_aload {i : Nat} {x : Nat} (C : zOk sh K own cc ret mL n) (d : decode cc pc = .ok (.aload i, 2)) (j : Nat) (h : lv[j]? = some (i, .ref x)) (k : Zf sh K X (pc + 2) lv (.ref x :: st) σ) : Zf sh K X pc lv (st) σ :=
  fun hX H locs ls hP hS hl => lv_aload C.hx C.hb d (lv_at hl j h) (k hX H locs ls hP hS hl)
theorem z_istore_n {i : Fin 4} {x : Int32} {lv1 : List (Nat × Value)} (C : zOk sh K own cc ret mL n) (d : decode cc pc = .ok (.istore_n i, 1)) (hn : (i : Nat) < mL) (hl1 : ((i : Nat), Value.int x) :: lv.filter (fun q => !(q.1 == (i : Nat)) && !(q.1 + 1 == (i : Nat) && q.2.category == 2)) = lv1) (k : Zf sh K X (pc + 1) lv1 st σ) : Zf sh K X pc lv (.int x :: st) σ :=
  fun hX H locs ls hP hS hl => lv_istore_n C.hx C.hb d rfl hl (by rw [C.hL]; exact hn) hl1 (fun ls1 hl1 => k hX H locs ls1 hP hS hl1)
theorem z_astore_n {i : Fin 4} {x : Nat} {lv1 : List (Nat × Value)} (C : zOk sh K own cc ret mL n) (d : decode cc pc = .ok (.astore_n i, 1)) (hn : (i : Nat) < mL) (hl1 : ((i : Nat), Value.ref x) :: lv.filter (fun q => !(q.1 == (i : Nat)) && !(q.1 + 1 == (i : Nat) && q.2.category == 2)) = lv1) (k : Zf sh K X (pc + 1) lv1 st σ) : Zf sh K X pc lv (.ref x :: st) σ :=
  fun hX H locs ls hP hS hl => lv_astore_n C.hx C.hb d rfl hl (by rw [C.hL]; exact hn) hl1 (fun ls1 hl1 => k hX H locs ls1 hP hS hl1)
theorem z_istore {i : Nat} {x : Int32} {lv1 : List (Nat × Value)} (C : zOk sh K own cc ret mL n) (d : decode cc pc = .ok (.istore i, 2)) (hn : i < mL) (hl1 : (i, Value.int x) :: lv.filter (fun q => !(q.1 == i) && !(q.1 + 1 == i && q.2.category == 2)) = lv1) (k : Zf sh K X (pc + 2) lv1 st σ) : Zf sh K X pc lv (.int x :: st) σ :=
  fun hX H locs ls hP hS hl => lv_istore C.hx C.hb d hl (by rw [C.hL]; exact hn) hl1 (fun ls1 hl1 => k hX H locs ls1 hP hS hl1)
theorem z_iinc {i : Nat} {z : Int} {x v : Int32} {lv1 : List (Nat × Value)} (C : zOk sh K own cc ret mL n) (d : decode cc pc = .ok (.iinc i z, 3)) (j : Nat) (h : lv[j]? = some (i, .int x)) (hv : Int32.ofInt z = v) (hn : i < mL) (hl1 : (i, Value.int (x + v)) :: lv.filter (fun q => !(q.1 == i) && !(q.1 + 1 == i && q.2.category == 2)) = lv1) (k : Zf sh K X (pc + 3) lv1 st σ) : Zf sh K X pc lv st σ :=
  fun hX H locs ls hP hS hl => lv_iinc C.hx C.hb d hl h (by rw [hv]) (by rw [C.hL]; exact hn) hl1 (fun ls1 hl1 => k hX H locs ls1 hP hS hl1)
theorem z_iadd {x y : Int32} (C : zOk sh K own cc ret mL n) (d : decode cc pc = .ok (.iadd, 1)) (k : Zf sh K X (pc + 1) lv (.int (x + y) :: st) σ) : Zf sh K X pc lv (.int y :: .int x :: st) σ :=
  fun hX H locs ls hP hS hl => lv_iadd C.hx C.hb d (k hX H locs ls hP hS hl)
theorem z_isub {x y : Int32} (C : zOk sh K own cc ret mL n) (d : decode cc pc = .ok (.isub, 1)) (k : Zf sh K X (pc + 1) lv (.int (x - y) :: st) σ) : Zf sh K X pc lv (.int y :: .int x :: st) σ :=
  fun hX H locs ls hP hS hl => lv_isub C.hx C.hb d (k hX H locs ls hP hS hl)
theorem z_imul {x y : Int32} (C : zOk sh K own cc ret mL n) (d : decode cc pc = .ok (.imul, 1)) (k : Zf sh K X (pc + 1) lv (.int (x * y) :: st) σ) : Zf sh K X pc lv (.int y :: .int x :: st) σ :=
  fun hX H locs ls hP hS hl => lv_imul C.hx C.hb d (k hX H locs ls hP hS hl)
theorem z_iand {x y : Int32} (C : zOk sh K own cc ret mL n) (d : decode cc pc = .ok (.iand, 1)) (k : Zf sh K X (pc + 1) lv (.int (x &&& y) :: st) σ) : Zf sh K X pc lv (.int y :: .int x :: st) σ :=
  fun hX H locs ls hP hS hl => lv_iand C.hx C.hb d (k hX H locs ls hP hS hl)
theorem z_ior {x y : Int32} (C : zOk sh K own cc ret mL n) (d : decode cc pc = .ok (.ior, 1)) (k : Zf sh K X (pc + 1) lv (.int (x ||| y) :: st) σ) : Zf sh K X pc lv (.int y :: .int x :: st) σ :=
  fun hX H locs ls hP hS hl => lv_ior C.hx C.hb d (k hX H locs ls hP hS hl)
theorem z_ixor {x y : Int32} (C : zOk sh K own cc ret mL n) (d : decode cc pc = .ok (.ixor, 1)) (k : Zf sh K X (pc + 1) lv (.int (x ^^^ y) :: st) σ) : Zf sh K X pc lv (.int y :: .int x :: st) σ :=
  fun hX H locs ls hP hS hl => lv_ixor C.hx C.hb d (k hX H locs ls hP hS hl)
theorem z_ishl {x y : Int32} (C : zOk sh K own cc ret mL n) (d : decode cc pc = .ok (.ishl, 1)) (k : Zf sh K X (pc + 1) lv (.int (x <<< (y &&& 31)) :: st) σ) : Zf sh K X pc lv (.int y :: .int x :: st) σ :=
  fun hX H locs ls hP hS hl => lv_ishl C.hx C.hb d (k hX H locs ls hP hS hl)
theorem z_ishr {x y : Int32} (C : zOk sh K own cc ret mL n) (d : decode cc pc = .ok (.ishr, 1)) (k : Zf sh K X (pc + 1) lv (.int (x >>> (y &&& 31)) :: st) σ) : Zf sh K X pc lv (.int y :: .int x :: st) σ :=
  fun hX H locs ls hP hS hl => lv_ishr C.hx C.hb d (k hX H locs ls hP hS hl)
theorem z_ineg {x : Int32} (C : zOk sh K own cc ret mL n) (d : decode cc pc = .ok (.ineg, 1)) (k : Zf sh K X (pc + 1) lv (.int (-x) :: st) σ) : Zf sh K X pc lv (.int x :: st) σ :=
  fun hX H locs ls hP hS hl => lv_ineg C.hx C.hb d (k hX H locs ls hP hS hl)
theorem z_iushr {x y : Int32} (C : zOk sh K own cc ret mL n) (d : decode cc pc = .ok (.iushr, 1)) (k : Zf sh K X (pc + 1) lv (.int ((x.toUInt32 >>> (y.toUInt32 &&& Int32.toUInt32 31)).toInt32) :: st) σ) : Zf sh K X pc lv (.int y :: .int x :: st) σ :=
  fun hX H locs ls hP hS hl => lv_iushr C.hx C.hb d rfl (k hX H locs ls hP hS hl)
theorem z_ladd {x y : Int64} (C : zOk sh K own cc ret mL n) (d : decode cc pc = .ok (.ladd, 1)) (k : Zf sh K X (pc + 1) lv (.long (x + y) :: st) σ) : Zf sh K X pc lv (.long y :: .long x :: st) σ :=
  fun hX H locs ls hP hS hl => lv_ladd C.hx C.hb d (k hX H locs ls hP hS hl)
theorem z_lsub {x y : Int64} (C : zOk sh K own cc ret mL n) (d : decode cc pc = .ok (.lsub, 1)) (k : Zf sh K X (pc + 1) lv (.long (x - y) :: st) σ) : Zf sh K X pc lv (.long y :: .long x :: st) σ :=
  fun hX H locs ls hP hS hl => lv_lsub C.hx C.hb d (k hX H locs ls hP hS hl)
theorem z_lmul {x y : Int64} (C : zOk sh K own cc ret mL n) (d : decode cc pc = .ok (.lmul, 1)) (k : Zf sh K X (pc + 1) lv (.long (x * y) :: st) σ) : Zf sh K X pc lv (.long y :: .long x :: st) σ :=
  fun hX H locs ls hP hS hl => lv_lmul C.hx C.hb d (k hX H locs ls hP hS hl)
theorem z_land {x y : Int64} (C : zOk sh K own cc ret mL n) (d : decode cc pc = .ok (.land, 1)) (k : Zf sh K X (pc + 1) lv (.long (x &&& y) :: st) σ) : Zf sh K X pc lv (.long y :: .long x :: st) σ :=
  fun hX H locs ls hP hS hl => lv_land C.hx C.hb d (k hX H locs ls hP hS hl)
theorem z_lor {x y : Int64} (C : zOk sh K own cc ret mL n) (d : decode cc pc = .ok (.lor, 1)) (k : Zf sh K X (pc + 1) lv (.long (x ||| y) :: st) σ) : Zf sh K X pc lv (.long y :: .long x :: st) σ :=
  fun hX H locs ls hP hS hl => lv_lor C.hx C.hb d (k hX H locs ls hP hS hl)
theorem z_lshl {x : Int64} {y : Int32} (C : zOk sh K own cc ret mL n) (d : decode cc pc = .ok (.lshl, 1)) (k : Zf sh K X (pc + 1) lv (.long (x <<< (y.toInt64 &&& 63)) :: st) σ) : Zf sh K X pc lv (.int y :: .long x :: st) σ :=
  fun hX H locs ls hP hS hl => lv_lshl C.hx C.hb d rfl (k hX H locs ls hP hS hl)
theorem z_lshr {x : Int64} {y : Int32} (C : zOk sh K own cc ret mL n) (d : decode cc pc = .ok (.lshr, 1)) (k : Zf sh K X (pc + 1) lv (.long (x >>> (y.toInt64 &&& 63)) :: st) σ) : Zf sh K X pc lv (.int y :: .long x :: st) σ :=
  fun hX H locs ls hP hS hl => lv_lshr C.hx C.hb d rfl (k hX H locs ls hP hS hl)
theorem z_i2l {x : Int32} (C : zOk sh K own cc ret mL n) (d : decode cc pc = .ok (.i2l, 1)) (k : Zf sh K X (pc + 1) lv (.long x.toInt64 :: st) σ) : Zf sh K X pc lv (.int x :: st) σ :=
  fun hX H locs ls hP hS hl => lv_i2l C.hx C.hb d rfl (k hX H locs ls hP hS hl)
theorem z_l2i {x : Int64} (C : zOk sh K own cc ret mL n) (d : decode cc pc = .ok (.l2i, 1)) (k : Zf sh K X (pc + 1) lv (.int x.toInt32 :: st) σ) : Zf sh K X pc lv (.long x :: st) σ :=
  fun hX H locs ls hP hS hl => lv_l2i C.hx C.hb d rfl (k hX H locs ls hP hS hl)
theorem z_dup {va : Value} (C : zOk sh K own cc ret mL n) (d : decode cc pc = .ok (.dup, 1)) (hc : va.category = 1) (k : Zf sh K X (pc + 1) lv (va :: va :: st) σ) : Zf sh K X pc lv (va :: st) σ :=
  fun hX H locs ls hP hS hl => lv_dup C.hx C.hb d hc (k hX H locs ls hP hS hl)
theorem z_pop {va : Value} (C : zOk sh K own cc ret mL n) (d : decode cc pc = .ok (.pop, 1)) (hc : va.category = 1) (k : Zf sh K X (pc + 1) lv (st) σ) : Zf sh K X pc lv (va :: st) σ :=
  fun hX H locs ls hP hS hl => lv_pop C.hx C.hb d hc (k hX H locs ls hP hS hl)
theorem z_lcmp {x y : Int64} (C : zOk sh K own cc ret mL n) (d : decode cc pc = .ok (.lcmp, 1)) (k : Zf sh K X (pc + 1) lv (.int (lg_cmp x y) :: st) σ) : Zf sh K X pc lv (.long y :: .long x :: st) σ :=
  fun hX H locs ls hP hS hl => W.lcmp C.hx C.hb d (k hX H locs ls hP hS hl)
theorem z_goto {off : Int} {tgt : Nat} (C : zOk sh K own cc ret mL n) (d : decode cc pc = .ok (.goto off, 3)) (ht : (pc : Int) + off = (tgt : Int)) (k : Zf sh K X tgt lv st σ) : Zf sh K X pc lv st σ :=
  fun hX H locs ls hP hS hl => lv_goto C.hx C.hb d ht (k hX H locs ls hP hS hl)
theorem z_lt {x : Int32} {F : Int32 → Option (Int32 × zS)} (k : ∀ v : Int32, Zf sh K (F v) pc lv (.int v :: st) σ) : Zf sh K (zlt x F) pc lv (.int x :: st) σ := k x
theorem z_idiv {x y : Int32} {F : Int32 → Option (Int32 × zS)} (C : zOk sh K own cc ret mL n) (d : decode cc pc = .ok (.idiv, 1)) (k : ∀ v : Int32, Zf sh K (F v) (pc + 1) lv (.int v :: st) σ) : Zf sh K (zdv x y F) pc lv (.int y :: .int x :: st) σ := by
  intro hX
  unfold zdv at hX
  by_cases h : y = 0
  · rw [if_pos h] at hX; cases hX
  · rw [if_neg h] at hX
    exact fun H locs ls hP hS hl => lv_idiv C.hx C.hb d h (k _ hX H locs ls hP hS hl)
theorem z_irem {x y : Int32} {F : Int32 → Option (Int32 × zS)} (C : zOk sh K own cc ret mL n) (d : decode cc pc = .ok (.irem, 1)) (k : ∀ v : Int32, Zf sh K (F v) (pc + 1) lv (.int v :: st) σ) : Zf sh K (zrm2 x y F) pc lv (.int y :: .int x :: st) σ := by
  intro hX
  unfold zrm2 at hX
  by_cases h : y = 0
  · rw [if_pos h] at hX; cases hX
  · rw [if_neg h] at hX
    exact fun H locs ls hP hS hl => lv_irem C.hx C.hb d h (k _ hX H locs ls hP hS hl)
theorem z_if_eq {x : Int32} {off : Int} {tgt : Nat} (C : zOk sh K own cc ret mL n) (d : decode cc pc = .ok (.ifCond .eq off, 3)) (ht : (pc : Int) + off = (tgt : Int)) (kt : Zf sh K X tgt lv st σ) (kf : Zf sh K Y (pc + 3) lv st σ) : Zf sh K (if x = 0 then X else Y) pc lv (.int x :: st) σ := by
  intro hX H locs ls hP hS hl
  refine lv_if_eq C.hx C.hb d ht (fun h => ?_) (fun h => ?_)
  · rw [if_pos h] at hX; exact kt hX H locs ls hP hS hl
  · rw [if_neg h] at hX; exact kf hX H locs ls hP hS hl
theorem z_if_ne {x : Int32} {off : Int} {tgt : Nat} (C : zOk sh K own cc ret mL n) (d : decode cc pc = .ok (.ifCond .ne off, 3)) (ht : (pc : Int) + off = (tgt : Int)) (kt : Zf sh K X (pc + 3) lv st σ) (kf : Zf sh K Y tgt lv st σ) : Zf sh K (if x = 0 then X else Y) pc lv (.int x :: st) σ := by
  intro hX H locs ls hP hS hl
  refine lv_if_ne C.hx C.hb d ht (fun h => ?_) (fun h => ?_)
  · rw [if_neg h] at hX; exact kf hX H locs ls hP hS hl
  · rw [if_pos h] at hX; exact kt hX H locs ls hP hS hl
theorem z_if_lt {x : Int32} {off : Int} {tgt : Nat} (C : zOk sh K own cc ret mL n) (d : decode cc pc = .ok (.ifCond .lt off, 3)) (ht : (pc : Int) + off = (tgt : Int)) (kt : Zf sh K X tgt lv st σ) (kf : Zf sh K Y (pc + 3) lv st σ) : Zf sh K (if x < 0 then X else Y) pc lv (.int x :: st) σ := by
  intro hX H locs ls hP hS hl
  refine lv_if_lt C.hx C.hb d ht (fun h => ?_) (fun h => ?_)
  · rw [if_pos h] at hX; exact kt hX H locs ls hP hS hl
  · rw [if_neg h] at hX; exact kf hX H locs ls hP hS hl
theorem z_if_ge {x : Int32} {off : Int} {tgt : Nat} (C : zOk sh K own cc ret mL n) (d : decode cc pc = .ok (.ifCond .ge off, 3)) (ht : (pc : Int) + off = (tgt : Int)) (kt : Zf sh K X tgt lv st σ) (kf : Zf sh K Y (pc + 3) lv st σ) : Zf sh K (if 0 ≤ x then X else Y) pc lv (.int x :: st) σ := by
  intro hX H locs ls hP hS hl
  refine lv_if_ge C.hx C.hb d ht (fun h => ?_) (fun h => ?_)
  · rw [if_pos h] at hX; exact kt hX H locs ls hP hS hl
  · rw [if_neg h] at hX; exact kf hX H locs ls hP hS hl
theorem z_if_gt {x : Int32} {off : Int} {tgt : Nat} (C : zOk sh K own cc ret mL n) (d : decode cc pc = .ok (.ifCond .gt off, 3)) (ht : (pc : Int) + off = (tgt : Int)) (kt : Zf sh K X tgt lv st σ) (kf : Zf sh K Y (pc + 3) lv st σ) : Zf sh K (if 0 < x then X else Y) pc lv (.int x :: st) σ := by
  intro hX H locs ls hP hS hl
  refine lv_if_gt C.hx C.hb d ht (fun h => ?_) (fun h => ?_)
  · rw [if_pos h] at hX; exact kt hX H locs ls hP hS hl
  · rw [if_neg h] at hX; exact kf hX H locs ls hP hS hl
theorem z_if_le {x : Int32} {off : Int} {tgt : Nat} (C : zOk sh K own cc ret mL n) (d : decode cc pc = .ok (.ifCond .le off, 3)) (ht : (pc : Int) + off = (tgt : Int)) (kt : Zf sh K X tgt lv st σ) (kf : Zf sh K Y (pc + 3) lv st σ) : Zf sh K (if x ≤ 0 then X else Y) pc lv (.int x :: st) σ := by
  intro hX H locs ls hP hS hl
  refine lv_if_le C.hx C.hb d ht (fun h => ?_) (fun h => ?_)
  · rw [if_pos h] at hX; exact kt hX H locs ls hP hS hl
  · rw [if_neg h] at hX; exact kf hX H locs ls hP hS hl
theorem z_icmp_eq {x y : Int32} {off : Int} {tgt : Nat} (C : zOk sh K own cc ret mL n) (d : decode cc pc = .ok (.if_icmp .eq off, 3)) (ht : (pc : Int) + off = (tgt : Int)) (kt : Zf sh K X tgt lv st σ) (kf : Zf sh K Y (pc + 3) lv st σ) : Zf sh K (if x = y then X else Y) pc lv (.int y :: .int x :: st) σ := by
  intro hX H locs ls hP hS hl
  refine lv_icmp_eq C.hx C.hb d ht (fun h => ?_) (fun h => ?_)
  · rw [if_pos h] at hX; exact kt hX H locs ls hP hS hl
  · rw [if_neg h] at hX; exact kf hX H locs ls hP hS hl
theorem z_icmp_ne {x y : Int32} {off : Int} {tgt : Nat} (C : zOk sh K own cc ret mL n) (d : decode cc pc = .ok (.if_icmp .ne off, 3)) (ht : (pc : Int) + off = (tgt : Int)) (kt : Zf sh K X (pc + 3) lv st σ) (kf : Zf sh K Y tgt lv st σ) : Zf sh K (if x = y then X else Y) pc lv (.int y :: .int x :: st) σ := by
  intro hX H locs ls hP hS hl
  refine lv_icmp_ne C.hx C.hb d ht (fun h => ?_) (fun h => ?_)
  · rw [if_neg h] at hX; exact kf hX H locs ls hP hS hl
  · rw [if_pos h] at hX; exact kt hX H locs ls hP hS hl
theorem z_icmp_lt {x y : Int32} {off : Int} {tgt : Nat} (C : zOk sh K own cc ret mL n) (d : decode cc pc = .ok (.if_icmp .lt off, 3)) (ht : (pc : Int) + off = (tgt : Int)) (kt : Zf sh K X tgt lv st σ) (kf : Zf sh K Y (pc + 3) lv st σ) : Zf sh K (if x < y then X else Y) pc lv (.int y :: .int x :: st) σ := by
  intro hX H locs ls hP hS hl
  refine lv_icmp_lt C.hx C.hb d ht (fun h => ?_) (fun h => ?_)
  · rw [if_pos h] at hX; exact kt hX H locs ls hP hS hl
  · rw [if_neg h] at hX; exact kf hX H locs ls hP hS hl
theorem z_icmp_ge {x y : Int32} {off : Int} {tgt : Nat} (C : zOk sh K own cc ret mL n) (d : decode cc pc = .ok (.if_icmp .ge off, 3)) (ht : (pc : Int) + off = (tgt : Int)) (kt : Zf sh K X tgt lv st σ) (kf : Zf sh K Y (pc + 3) lv st σ) : Zf sh K (if y ≤ x then X else Y) pc lv (.int y :: .int x :: st) σ := by
  intro hX H locs ls hP hS hl
  refine lv_icmp_ge C.hx C.hb d ht (fun h => ?_) (fun h => ?_)
  · rw [if_pos h] at hX; exact kt hX H locs ls hP hS hl
  · rw [if_neg h] at hX; exact kf hX H locs ls hP hS hl
theorem z_icmp_gt {x y : Int32} {off : Int} {tgt : Nat} (C : zOk sh K own cc ret mL n) (d : decode cc pc = .ok (.if_icmp .gt off, 3)) (ht : (pc : Int) + off = (tgt : Int)) (kt : Zf sh K X tgt lv st σ) (kf : Zf sh K Y (pc + 3) lv st σ) : Zf sh K (if y < x then X else Y) pc lv (.int y :: .int x :: st) σ := by
  intro hX H locs ls hP hS hl
  refine lv_icmp_gt C.hx C.hb d ht (fun h => ?_) (fun h => ?_)
  · rw [if_pos h] at hX; exact kt hX H locs ls hP hS hl
  · rw [if_neg h] at hX; exact kf hX H locs ls hP hS hl
theorem z_icmp_le {x y : Int32} {off : Int} {tgt : Nat} (C : zOk sh K own cc ret mL n) (d : decode cc pc = .ok (.if_icmp .le off, 3)) (ht : (pc : Int) + off = (tgt : Int)) (kt : Zf sh K X tgt lv st σ) (kf : Zf sh K Y (pc + 3) lv st σ) : Zf sh K (if x ≤ y then X else Y) pc lv (.int y :: .int x :: st) σ := by
  intro hX H locs ls hP hS hl
  refine lv_icmp_le C.hx C.hb d ht (fun h => ?_) (fun h => ?_)
  · rw [if_pos h] at hX; exact kt hX H locs ls hP hS hl
  · rw [if_neg h] at hX; exact kf hX H locs ls hP hS hl
/-- a case is taken by its number -/
theorem z_case {x : Int32} (v : Int32) (kt : x = v → Zf sh K X pc lv (.int x :: st) σ) (kf : ¬ x = v → Zf sh K Y pc lv (.int x :: st) σ) : Zf sh K (if x = v then X else Y) pc lv (.int x :: st) σ := by
  intro hX
  by_cases h : x = v
  · rw [if_pos h] at hX; exact kt h hX
  · rw [if_neg h] at hX; exact kf h hX
theorem z_tabIn {x : Int32} {dflt lo hi : Int} {offs : Array Int} {len tgt : Nat} {off : Int} (C : zOk sh K own cc ret mL n) (d : decode cc pc = .ok (.tableswitch dflt lo hi offs, len)) (v : Int32) (hv : x = v) (h1 : ¬ v.toInt < lo) (h2 : ¬ hi < v.toInt) (ho : offs[(v.toInt - lo).toNat]? = some off) (ht : (pc : Int) + off = (tgt : Int)) (k : Zf sh K X tgt lv st σ) : Zf sh K X pc lv (.int x :: st) σ :=
  fun hX H locs ls hP hS hl => lv_tableIn C.hx C.hb d (by rw [hv]; exact h1) (by rw [hv]; exact h2) (by rw [hv]; exact ho) ht (k hX H locs ls hP hS hl)
theorem z_tabOut {x : Int32} {dflt lo hi : Int} {offs : Array Int} {len tgt : Nat} (C : zOk sh K own cc ret mL n) (d : decode cc pc = .ok (.tableswitch dflt lo hi offs, len)) (h : x.toInt < lo ∨ hi < x.toInt) (ht : (pc : Int) + dflt = (tgt : Int)) (k : Zf sh K X tgt lv st σ) : Zf sh K X pc lv (.int x :: st) σ :=
  fun hX H locs ls hP hS hl => lv_tableOut C.hx C.hb d h ht (k hX H locs ls hP hS hl)
theorem z_look {x : Int32} {dflt : Int} {ps : Array (Int × Int)} {len tgt : Nat} {off : Int} (C : zOk sh K own cc ret mL n) (d : decode cc pc = .ok (.lookupswitch dflt ps, len)) (hp : (ps.toList.zip (ps.toList.drop 1)).all (fun (a, next) => a.1 < next.1) = true) (ho : Op.lookupswitch.offset ps.toList dflt x.toInt = off) (ht : (pc : Int) + off = (tgt : Int)) (k : Zf sh K X tgt lv st σ) : Zf sh K X pc lv (.int x :: st) σ :=
  fun hX H locs ls hP hS hl => lv_lookup C.hx C.hb d hp ho ht (k hX H locs ls hP hS hl)
theorem zin_of {j : Int32} {n : Nat} (h : 0 ≤ j.toInt ∧ j.toInt < n) : vp_in j n := vp_in_iff.mpr h
theorem z_iald {q m : Nat} {j : Int32} {F : Int32 → Option (Int32 × zS)} (C : zOk sh K own cc ret mL n) (hA : sh[q]? = some (.inr (false, m))) (d : decode cc pc = .ok (.iaload, 1)) (k : ∀ v : Int32, Zf sh K (F v) (pc + 1) lv (.int v :: st) σ) : Zf sh K (zrd σ q m j F) pc lv (.int j :: .ref (ga (kG K) q) :: st) σ := by
  intro hX
  unfold zrd at hX
  by_cases h : 0 ≤ j.toInt ∧ j.toInt < m
  · rw [if_pos h] at hX
    exact fun H locs ls hP hS hl => va_iald C.hx C.hb C.hK hP q 0 (zW_get hA) rfl (zin_of h) d (k _ hX H locs ls hP hS hl)
  · rw [if_neg h] at hX; cases hX
theorem z_bald {q m : Nat} {j : Int32} {F : Int32 → Option (Int32 × zS)} (C : zOk sh K own cc ret mL n) (hA : sh[q]? = some (.inr (true, m))) (d : decode cc pc = .ok (.baload, 1)) (k : ∀ v : Int32, Zf sh K (F v) (pc + 1) lv (.int v :: st) σ) : Zf sh K (zrd σ q m j F) pc lv (.int j :: .ref (ga (kG K) q) :: st) σ := by
  intro hX
  unfold zrd at hX
  by_cases h : 0 ≤ j.toInt ∧ j.toInt < m
  · rw [if_pos h] at hX
    exact fun H locs ls hP hS hl => va_zald C.hx C.hb C.hK hP q 1 (zW_get hA) rfl (zin_of h) d (k _ hX H locs ls hP hS hl)
  · rw [if_neg h] at hX; cases hX
theorem zsa_ne {σ : zS} {k a : Nat} {g : Nat → Int32} (h : a ≠ k) : zsa σ k g a = σ a := if_neg h
theorem zsa_eq {σ : zS} {k : Nat} {g : Nat → Int32} : zsa σ k g k = g := if_pos rfl
theorem zup_ne {σ : zS} {k a j : Nat} {v : Int32} (h : a ≠ k) : zup σ k j v a = σ a := if_neg h
theorem zup_eq {σ : zS} {k j : Nat} {v : Int32} : zup σ k j v k = upd (σ k) j v := if_pos rfl
theorem z_iast {q m : Nat} {j v : Int32} {F : zS → Option (Int32 × zS)} (C : zOk sh K own cc ret mL n) (hA : sh[q]? = some (.inr (false, m))) (d : decode cc pc = .ok (.iastore, 1)) (k : ∀ σ1 : zS, Zf sh K (F σ1) (pc + 1) lv st σ1) : Zf sh K (zwr σ q m j v F) pc lv (.int v :: .int j :: .ref (ga (kG K) q) :: st) σ := by
  intro hX
  unfold zwr at hX
  by_cases h : 0 ≤ j.toInt ∧ j.toInt < m
  · rw [if_pos h] at hX
    intro H locs ls hP hS hl
    refine va_iast C.hx C.hb C.hK hP (C.hD σ) hS q 0 (zW_get hA) rfl (zin_of h) d (fun H1 locs1 hP1 _ hS1 => k _ hX H1 locs1 ls ?_ hS1 hl)
    have e := zW_set (G := kG K) (σ := σ) (σ' := zup σ q j.toNatClampNeg v) hA (fun a ha => zup_ne ha)
    simp only [zE, zup_eq] at e
    rw [← e]
    exact hP1
  · rw [if_neg h] at hX; cases hX
theorem z_bast1 {q m : Nat} {j : Int32} {F : zS → Option (Int32 × zS)} (C : zOk sh K own cc ret mL n) (hA : sh[q]? = some (.inr (true, m))) (d : decode cc pc = .ok (.bastore, 1)) (k : ∀ σ1 : zS, Zf sh K (F σ1) (pc + 1) lv st σ1) : Zf sh K (zwr σ q m j 1 F) pc lv (.int 1 :: .int j :: .ref (ga (kG K) q) :: st) σ := by
  intro hX
  unfold zwr at hX
  by_cases h : 0 ≤ j.toInt ∧ j.toInt < m
  · rw [if_pos h] at hX
    intro H locs ls hP hS hl
    refine va_zast C.hx C.hb C.hK hP (C.hD σ) hS q 1 (zW_get hA) rfl (zin_of h) d (fun H1 locs1 hP1 _ hS1 => k _ hX H1 locs1 ls ?_ hS1 hl)
    have e := zW_set (G := kG K) (σ := σ) (σ' := zup σ q j.toNatClampNeg 1) hA (fun a ha => zup_ne ha)
    simp only [zE, zup_eq] at e
    rw [← e]
    have e2 : vp_nar .boolean 1 = 1 := by decide
    rw [e2] at hP1
    exact hP1
  · rw [if_neg h] at hX; cases hX
theorem z_alen {q m : Nat} {b : Bool} {v : Int32} (C : zOk sh K own cc ret mL n) (hA : sh[q]? = some (.inr (b, m))) (d : decode cc pc = .ok (.arraylength, 1)) (hv : Int32.ofNat m = v) (k : Zf sh K X (pc + 1) lv (.int v :: st) σ) : Zf sh K X pc lv (.ref (ga (kG K) q) :: st) σ := by
  intro hX H locs ls hP hS hl
  cases b with
  | false => exact va_alen C.hx C.hb C.hK hP q 0 (zW_get hA) (ty := .int) rfl hv d (k hX H locs ls hP hS hl)
  | true => exact va_alen C.hx C.hb C.hK hP q 1 (zW_get hA) (ty := .boolean) rfl hv d (k hX H locs ls hP hS hl)
/-- field number j of cell q, by the link number i of 'own' -/
def zFd (sh : List zC) (own : String) (i q j : Nat) (o : Bool ⊕ Nat) : Prop := ∃ (ci : Nat) (sl : List (Bool ⊕ Nat)) (c : vw_C), sh[q]? = some (.inl (ci, sl)) ∧ zcl[ci]? = some c ∧ sl[j]? = some o ∧ j < c.2.2 ∧ Cond.fieldLink own i (c.2.1 j).1 (c.2.1 j).2.1 (c.2.1 j).2.2.1 ∈ zT
def zFw (sh : List zC) (q j : Nat) (d : String) : Prop := ∃ (ci : Nat) (sl : List (Bool ⊕ Nat)) (c : vw_C), sh[q]? = some (.inl (ci, sl)) ∧ zcl[ci]? = some c ∧ (c.2.1 j).2.2.2 = false ∧ (c.2.1 j).2.2.1 = d
theorem z_get {i q j : Nat} {o : Bool ⊕ Nat} (C : zOk sh K own cc ret mL n) (hF : zFd sh own i q j o) (d : decode cc pc = .ok (.getfield i, 3)) (k : Zf sh K X (pc + 3) lv (zF (kG K) σ q j o :: st) σ) : Zf sh K X pc lv (.ref (ga (kG K) q) :: st) σ := by
  intro hX H locs ls hP hS hl
  obtain ⟨ci, sl, c, h1, h2, h3, h4, h5⟩ := hF
  exact va_get C.hx C.hb C.hts (zcl_in ci c h2) C.hown C.hK hP q (zW_get h1) h2 j h4 (C.hts _ h5) (fun _ h9 => h9) (by show (sl.mapIdx _)[j]? = _; rw [List.getElem?_mapIdx, h3]; rfl) d (k hX H locs ls hP hS hl)
theorem z_getI {i q j : Nat} (C : zOk sh K own cc ret mL n) (hF : zFd sh own i q j (.inl false)) (d : decode cc pc = .ok (.getfield i, 3)) (k : Zf sh K X (pc + 3) lv (.int (σ q j) :: st) σ) : Zf sh K X pc lv (.ref (ga (kG K) q) :: st) σ := z_get C hF d k
theorem z_getL {i q j : Nat} (C : zOk sh K own cc ret mL n) (hF : zFd sh own i q j (.inl true)) (d : decode cc pc = .ok (.getfield i, 3)) (k : Zf sh K X (pc + 3) lv (.long (zlg (σ q j) (σ q (j + 1000))) :: st) σ) : Zf sh K X pc lv (.ref (ga (kG K) q) :: st) σ := z_get C hF d k
theorem z_getR {i q j r : Nat} (C : zOk sh K own cc ret mL n) (hF : zFd sh own i q j (.inr r)) (d : decode cc pc = .ok (.getfield i, 3)) (k : Zf sh K X (pc + 3) lv (.ref (ga (kG K) r) :: st) σ) : Zf sh K X pc lv (.ref (ga (kG K) q) :: st) σ := z_get C hF d k
theorem zE_put {G : zG} {σ σ1 : zS} {q j ci : Nat} {sl : List (Bool ⊕ Nat)} {o : Bool ⊕ Nat} (h3 : sl[j]? = some o) (hne : ∀ (a : Nat) (b : Bool ⊕ Nat), a ≠ j → sl[a]? = some b → zF G σ1 q a b = zF G σ q a b) : (sl.mapIdx (zF G σ q)).set j (zF G σ1 q j o) = sl.mapIdx (zF G σ1 q) := by
  apply List.ext_getElem?
  intro a
  have hl : j < (sl.mapIdx (zF G σ q)).length := by
    have := (List.getElem?_eq_some_iff.mp h3).1
    simpa using this
  by_cases h : a = j
  · subst h
    rw [List.getElem?_set_self hl, List.getElem?_mapIdx, h3]
    rfl
  · rw [List.getElem?_set_ne (Ne.symm h), List.getElem?_mapIdx, List.getElem?_mapIdx]
    cases hb : sl[a]? with
    | none => rfl
    | some b => simp only [Option.map_some]; rw [hne a b h hb]
theorem z_put {i q j : Nat} {o : Bool ⊕ Nat} {v : Value} {ty : FieldType} {ds : String} {σ1 : zS} (C : zOk sh K own cc ret mL n) (hF : zFd sh own i q j o) (hw : zFw sh q j ds) (hty : parseFieldDescriptor ds = some ty) (hn : narrow ty v = v) (hf : fits ty v = true) (hv : v = zF (kG K) σ1 q j o) (ho : ∀ a, a ≠ q → σ1 a = σ a) (hs : ∀ (sl : List (Bool ⊕ Nat)) (ci : Nat), sh[q]? = some (.inl (ci, sl)) → ∀ (a : Nat) (b : Bool ⊕ Nat), a ≠ j → sl[a]? = some b → zF (kG K) σ1 q a b = zF (kG K) σ q a b)
    (d : decode cc pc = .ok (.putfield i, 3)) (k : Zf sh K X (pc + 3) lv st σ1) : Zf sh K X pc lv (v :: .ref (ga (kG K) q) :: st) σ := by
  intro hX H locs ls hP hS hl
  obtain ⟨ci, sl, c, h1, h2, h3, h4, h5⟩ := hF
  obtain ⟨ci', sl', c', g1, g2, g3, g4⟩ := hw
  cases h1.symm.trans g1
  cases h2.symm.trans g2
  obtain ⟨tyf, htyf⟩ := zcl_ty ci c h2
  have hlen : j < (sl.mapIdx (zF (kG K) σ q)).length := by
    have := (List.getElem?_eq_some_iff.mp h3).1
    simpa using this
  refine va_put C.hx C.hb C.hts (zcl_in ci c h2) tyf htyf (zcl_nm ci c h2) C.hown C.hK hP (C.hD σ) hS q (zW_get h1) h2 j h4 (C.hts _ h5) (fun _ h9 => h9) g3 (by rw [g4]; exact hty) hn hf hlen d (fun H1 locs1 hP1 _ hS1 => k hX H1 locs1 ls ?_ hS1 hl)
  have e := zW_set (G := kG K) (σ := σ) (σ' := σ1) h1 ho
  rw [← e]
  show va_P _ _ ((zW (kG K) sh σ).set q (ga (kG K) q, .inr (ci, sl.mapIdx (zF (kG K) σ1 q)))) H1
  rw [← zE_put (σ := σ) (ci := ci) h3 (hs sl ci h1), ← hv]
  exact hP1
theorem z_putI {i q j : Nat} {v : Int32} {F : zS → Option (Int32 × zS)} (C : zOk sh K own cc ret mL n) (hF : zFd sh own i q j (.inl false)) (hw : zFw sh q j "I") (hlg : ∀ (sl : List (Bool ⊕ Nat)) (ci : Nat), sh[q]? = some (.inl (ci, sl)) → sl.length ≤ 1000) (hj : j < 1000) (d : decode cc pc = .ok (.putfield i, 3)) (k : ∀ σ1 : zS, Zf sh K (F σ1) (pc + 3) lv st σ1) : Zf sh K (zst σ q j v F) pc lv (.int v :: .ref (ga (kG K) q) :: st) σ := by
  refine z_put (σ1 := zup σ q j v) (ty := .int) C hF hw (by decide +kernel) rfl rfl ?_ (fun a ha => zup_ne ha) ?_ d (k _)
  · simp [zF, zup_eq, upd]
  · intro sl ci h1 a b ha hb
    have hal : a < 1000 := Nat.lt_of_lt_of_le (List.getElem?_eq_some_iff.mp hb).1 (hlg sl ci h1)
    cases b with
    | inl b =>
      cases b
      · simp [zF, zup_eq, upd, ha]
      · simp [zF, zup_eq, upd, ha, show a + 1000 ≠ j by omega]
    | inr r => rfl
theorem z_putL {i q j : Nat} {v : Int64} {F : zS → Option (Int32 × zS)} (C : zOk sh K own cc ret mL n) (hF : zFd sh own i q j (.inl true)) (hw : zFw sh q j "J") (hlg : ∀ (sl : List (Bool ⊕ Nat)) (ci : Nat), sh[q]? = some (.inl (ci, sl)) → sl.length ≤ 1000) (hj : j < 1000) (d : decode cc pc = .ok (.putfield i, 3)) (k : ∀ σ1 : zS, Zf sh K (F σ1) (pc + 3) lv st σ1) : Zf sh K (zsl σ q j v F) pc lv (.long v :: .ref (ga (kG K) q) :: st) σ := by
  refine z_put (σ1 := zup (zup σ q j (zlo v)) q (j + 1000) (zhi v)) (ty := .long) C hF hw (by decide +kernel) rfl rfl ?_ (fun a ha => by rw [zup_ne ha, zup_ne ha]) ?_ d (k _)
  · simp [zF, zup_eq, upd, zlg_eq]
  · intro sl ci h1 a b ha hb
    have hal : a < 1000 := Nat.lt_of_lt_of_le (List.getElem?_eq_some_iff.mp hb).1 (hlg sl ci h1)
    cases b with
    | inl b =>
      cases b
      · simp [zF, zup_eq, upd, ha, show a ≠ j + 1000 by omega]
      · simp [zF, zup_eq, upd, ha, show a ≠ j + 1000 by omega, show a + 1000 ≠ j by omega]
    | inr r => rfl
theorem z_iret {v : Int32} (C : zOk sh K own cc (some .int) mL n) (d : decode cc pc = .ok (.ireturn, 1)) : Zf sh K (some (v, σ)) pc lv [.int v] σ := by
  intro hX H locs ls hP hS hl
  have h1 : v = kr K := congrArg Prod.fst (Option.some.inj hX)
  have h2 : σ = kx K := congrArg Prod.snd (Option.some.inj hX)
  exact W.iret C.hx C.hb C.hr (fun t ht hW => ⟨⟨by rw [C.ho, h1]; rfl, by rw [ht, ← h2]; exact hP⟩, hS.F ht⟩) hS.2.2 d C.hlocks
theorem z_zret {v : Int32} (C : zOk sh K own cc (some .boolean) mL n) (hv : v &&& 1 = v) (d : decode cc pc = .ok (.ireturn, 1)) : Zf sh K (some (v, σ)) pc lv [.int v] σ := by
  intro hX H locs ls hP hS hl
  have h1 : v = kr K := congrArg Prod.fst (Option.some.inj hX)
  have h2 : σ = kx K := congrArg Prod.snd (Option.some.inj hX)
  exact W.zret C.hx C.hb C.hr (by show Value.int (v &&& 1) = _; rw [hv]) (fun t ht hW => ⟨⟨by rw [C.ho, h1]; rfl, by rw [ht, ← h2]; exact hP⟩, hS.F ht⟩) hS.2.2 d C.hlocks
theorem z_zrb {v : Int32} (C : zOk sh K own cc (some .boolean) mL n) (d : decode cc pc = .ok (.ireturn, 1)) : Zf sh K (zrb v σ) pc lv [.int v] σ := by
  intro hX
  unfold zrb at hX
  by_cases h : v &&& 1 = v
  · rw [if_pos h] at hX; exact z_zret C h d hX
  · rw [if_neg h] at hX; cases hX
theorem z_vret (C : zOk sh K own cc none mL n) (d : decode cc pc = .ok (.return_, 1)) : Zf sh K (some (0, σ)) pc lv [] σ := by
  intro hX H locs ls hP hS hl
  have h2 : σ = kx K := congrArg Prod.snd (Option.some.inj hX)
  exact W.vret C.hx C.hb C.hr (fun t ht hW => ⟨⟨by rw [C.ho]; rfl, by rw [ht, ← h2]; exact hP⟩, hS.F ht⟩) hS.2.2 d C.hlocks
theorem z_aret {v : Int32} {t : String} (C : zOk sh K own cc (some (.object t)) mL n) (d : decode cc pc = .ok (.areturn, 1)) : Zf sh K (some (v, σ)) pc lv [.ref (gk (kG K) v.toNatClampNeg)] σ := by
  intro hX H locs ls hP hS hl
  have h1 : v = kr K := congrArg Prod.fst (Option.some.inj hX)
  have h2 : σ = kx K := congrArg Prod.snd (Option.some.inj hX)
  exact W.aret C.hx C.hb C.hr (Or.inl ⟨_, rfl⟩) (Or.inr ⟨_, rfl⟩) (fun t ht hW => ⟨⟨by rw [C.ho, h1]; rfl, by rw [ht, ← h2]; exact hP⟩, hS.F ht⟩) hS.2.2 d C.hlocks
theorem z_ldcS {i : Nat} {tx : String} (C : zOk sh K own cc ret mL n) (q : Nat) (hq : zStrs[q]? = some (own, i, tx)) (d : decode cc pc = .ok (.ldc i, 2)) (k : Zf sh K X (pc + 2) lv (.ref (gk (kG K) q) :: st) σ) : Zf sh K X pc lv st σ :=
  fun hX H locs ls hP hS hl => va_ldcS C.hx C.hb C.hown (C.hX.2.1 q _ hq) d (k hX H locs ls hP hS hl)
theorem z_mmax {i : Nat} {x y : Int32} (C : zOk sh K own cc ret mL n) (hw : Cond.methodLink own i Lib.Math.max.name ∈ zT) (h1 : Cond.static Lib.Math.max.name ∈ zT) (h2 : Cond.initialized "java/lang/Math" ∈ zT) (h3 : Cond.code Lib.Math.max.name Lib.Math.max.code 2 (some .int) ∈ zT) (hn : 0 < n) (hr : (st.map fun v => v.category).sum ≤ 8) (d : decode cc pc = .ok (.invokestatic i, 3)) (k : Zf sh K X (pc + 3) lv (.int (zmax x y) :: st) σ) : Zf sh K X pc lv (.int y :: .int x :: st) σ := by
  intro hX H locs ls hP hS hl
  have hN := C.hN
  refine va_mmax C.hx C.hb (C.1.2.2.1.trans hl.1.symm) C.hown (C.hts _ hw) (C.hts _ h1) (C.hts _ h2) (C.hts _ h3) ?_ ?_ (Nat.zero_le _) (Nat.zero_le _) d (k hX H locs ls hP hS hl)
  · show 1 ≤ kN K
    omega
  · show _ ≤ 35 * kN K
    omega
theorem z_mmin {i : Nat} {x y : Int32} (C : zOk sh K own cc ret mL n) (hw : Cond.methodLink own i Lib.Math.min.name ∈ zT) (h1 : Cond.static Lib.Math.min.name ∈ zT) (h2 : Cond.initialized "java/lang/Math" ∈ zT) (h3 : Cond.code Lib.Math.min.name Lib.Math.min.code 2 (some .int) ∈ zT) (hn : 0 < n) (hr : (st.map fun v => v.category).sum ≤ 8) (d : decode cc pc = .ok (.invokestatic i, 3)) (k : Zf sh K X (pc + 3) lv (.int (zmin x y) :: st) σ) : Zf sh K X pc lv (.int y :: .int x :: st) σ := by
  intro hX H locs ls hP hS hl
  have hN := C.hN
  refine va_mmin C.hx C.hb (C.1.2.2.1.trans hl.1.symm) C.hown (C.hts _ hw) (C.hts _ h1) (C.hts _ h2) (C.hts _ h3) ?_ ?_ (Nat.zero_le _) (Nat.zero_le _) d (k hX H locs ls hP hS hl)
  · show 1 ≤ kN K
    omega
  · show _ ≤ 35 * kN K
    omega
theorem z_mabs {i : Nat} {x : Int32} (C : zOk sh K own cc ret mL n) (hw : Cond.methodLink own i Lib.Math.abs.name ∈ zT) (h1 : Cond.static Lib.Math.abs.name ∈ zT) (h2 : Cond.initialized "java/lang/Math" ∈ zT) (h3 : Cond.code Lib.Math.abs.name Lib.Math.abs.code 1 (some .int) ∈ zT) (hn : 0 < n) (hr : (st.map fun v => v.category).sum ≤ 8) (d : decode cc pc = .ok (.invokestatic i, 3)) (k : Zf sh K X (pc + 3) lv (.int (zabs x) :: st) σ) : Zf sh K X pc lv (.int x :: st) σ := by
  intro hX H locs ls hP hS hl
  have hN := C.hN
  refine va_mabs C.hx C.hb (C.1.2.2.1.trans hl.1.symm) C.hown (C.hts _ hw) (C.hts _ h1) (C.hts _ h2) (C.hts _ h3) ?_ ?_ (Nat.zero_le _) (Nat.zero_le _) d (k hX H locs ls hP hS hl)
  · show 1 ≤ kN K
    omega
  · show _ ≤ 35 * kN K
    omega
theorem z_copy {i q0 q1 m : Nat} {w : Int32} {F : zS → Option (Int32 × zS)} (C : zOk sh K own cc ret mL n) (hA : sh[q0]? = some (.inr (false, m))) (hB : sh[q1]? = some (.inr (false, m))) (hwm : w.toNatClampNeg = m) (hw0 : ¬ w < 0) (hw : Cond.methodLink own i arraycopyName ∈ zT) (h0 : Cond.native arraycopyName ∈ zT) (h1 : Cond.static arraycopyName ∈ zT) (h2 : Cond.initialized "java/lang/System" ∈ zT) (hn : 1 < n) (hr : (st.map fun v => v.category).sum ≤ 8) (d : decode cc pc = .ok (.invokestatic i, 3)) (k : ∀ σ1 : zS, Zf sh K (F σ1) (pc + 3) lv st σ1) : Zf sh K (zcp σ q0 q1 m F) pc lv (.int w :: .int 0 :: .ref (ga (kG K) q1) :: .int 0 :: .ref (ga (kG K) q0) :: st) σ := by
  intro hX H locs ls hP hS hl
  have hN := C.hN
  have e0 : (0 : Int32).toNatClampNeg = 0 := rfl
  refine va_copyi C.hx C.hb (C.1.2.2.1.trans hl.1.symm) C.hown (C.hts _ hw) (C.hts _ h0) (C.hts _ h1) (C.hts _ h2) C.hK hP (C.hD σ) hS q0 q1 0 0 (ty := .int) (zW_get hA) (zW_get hB) rfl rfl rfl (by decide) (by decide) hw0 (by rw [hwm, e0]; omega) (by rw [hwm, e0]; omega) (fun _ _ => rfl) ?_ ?_ d (fun H1 locs1 hP1 _ hS1 => k _ hX H1 locs1 ls ?_ hS1 hl)
  · show 1 ≤ kN K
    omega
  · have : nativeFrameWords "java/lang/System" "arraycopy" 5 + 11 ≤ 60 := by decide +kernel
    show _ ≤ 35 * kN K
    omega
  · have e := zW_set (G := kG K) (σ := σ) (σ' := zsa σ q1 (va_cpy (σ q0) (σ q1) 0 0 m)) hB (fun a ha => zsa_ne ha)
    simp only [zE, zsa_eq] at e
    rw [← e]
    rw [hwm, e0] at hP1
    exact hP1
/-- what the tables say of a method -/
def zY (y : MethodName) (b : ByteArray) (mL1 : Nat) (ret1 : Option FieldType) (np : Nat) : Prop := Cond.initialized y.cls ∈ zT ∧ Cond.code y b mL1 ret1 ∈ zT ∧ (y.cls ≠ "java/lang/invoke/MethodHandle" ∧ y.cls ≠ "java/lang/invoke/VarHandle" ∧ (parseMethodDescriptor y.desc).map (fun d => d.parameters.length) = some np) ∧ mL1 ≤ 16
def zYv (y : MethodName) : Prop := Cond.instanceMethod y ∈ zT ∧ Cond.selects y.cls y y ∈ zT
def zRc (sh : List zC) (q : Nat) (nm : String) : Prop := ∃ (ci : Nat) (sl : List (Bool ⊕ Nat)) (c : vw_C), sh[q]? = some (.inl (ci, sl)) ∧ zcl[ci]? = some c ∧ c.1 = nm
theorem zT_any {v : Cond} (h : v ∈ zT) : GoodIn zT (v :: zT) := zT_goodTbl h
theorem z_pre {sh1 : List zC} {H : Heap} {locs : List Loc} {av : List Value} (C : zOk sh K own cc ret mL n) (hP : va_P (gD (kG K)) zcl (zW (kG K) sh σ) H) (hS : va_S (zA (kG K) sh (ks K).heap.size) (ks K).heap H locs) : PreS (ks K) H (zPc (kG K) sh H.size av σ) av :=
  ⟨zPc_blind, fun U hU hW => ⟨rfl, by rw [hU], by rw [hU]; exact hP, va_K.moved hW.alike C.hK, (C.hD σ).weaken (fun _ _ _ _ => trivial), zX_go C.hX hS hW hU⟩⟩
theorem z_go {H : Heap} {locs : List Loc} {ls : Array Slot} {o : Option Value} {σ1 : zS} {av : Array Value} {rest st0 : List Value} (C : zOk sh K own cc ret mL n) (hS : va_S (zA (kG K) sh (ks K).heap.size) (ks K).heap H locs) (hl : lv_has ls (kL K) lv)
    (hr : va_Run (kp K) (kl K) (ke K) (zrm (kN K)) (ks K) (km K) (kg K) (kb K) (kt K) (kc K) H locs 0 0 0 0 (F0 (km K) pc ls st0) rest (zQc (kG K) sh H.size o σ1 av) (zA (kG K) sh H.size)) (k : Zw sh K (pc + 3) lv (o.toList ++ rest) σ1) :
    W (kp K) (kl K) (ke K) (zrm (kN K)) (ks K) (km K) (kg K) (kb K) (kt K) (kc K) H locs 0 0 (MQ (kb K) (zQc (kG K) sh (ks K).heap.size (ko K) (kx K)) (kg K) (ks K) 0 0 (zA (kG K) sh (ks K).heap.size)) (F0 (km K) pc ls st0) := by
  intro T hT X
  obtain ⟨v, st₀, t, T', L, h0, X', hL, e1, e2, ⟨⟨hv, hp⟩, hz, hk⟩, gs⟩ := hr T hT X
  cases hv
  rw [h0] at hz hk
  have hA : ∀ q, zA (kG K) sh H.size q → zA (kG K) sh (ks K).heap.size q := fun q hq => zA_le hS.1 hq
  obtain ⟨t2, a1, b1⟩ := k T'.heap (locs ++ L) ls (by rw [e1]; exact hp) ⟨Nat.le_trans hS.1 (by rw [e1]; exact hz), fun q h1 h2 => by rw [e1, hk q (Nat.lt_of_lt_of_le h1 hS.1) (fun z => h2 (hA q z))]; exact hS.2.1 q h1 h2, fun q hq => by
      rcases List.mem_append.mp hq with h | h
      · exact hS.2.2 q h
      · exact hA _ (hL q h)⟩ hl T' rfl X'
  exact ⟨t2, gs t2 a1, b1⟩
theorem z_callB {i mL1 n1 np : Nat} {y : MethodName} {b : ByteArray} {ret1 : Option FieldType} (C : zOk sh K own cc ret mL n) (hy : zY y b mL1 ret1 np) (hw : Cond.methodLink own i y ∈ zT) (hn : n1 < n) : CallB (zrm (kN K)) (ks K) (kg K) own i y b mL1 ret1 (.code y b mL1 ret1 :: zT) (zrm n1) 0 0 np := by
  obtain ⟨h1, h2, h3, h4⟩ := hy
  have hN := C.hN
  exact callB_of np C.hts (zT_any h2) rfl rfl rfl (C.hts _ h1) (C.hts _ hw) h3 ⟨by show n1 + 1 ≤ kN K; omega, by show 8 + (mL1 + 11) + 35 * n1 ≤ 35 * kN K; omega⟩
theorem z_callV {i q mL1 n1 np : Nat} {y : MethodName} {b : ByteArray} {ret1 : Option FieldType} {As : List Value} {st0 : List Value} {X1 : Option (Int32 × zS)} {F : Int32 → zS → Option (Int32 × zS)} (C : zOk sh K own cc ret mL n) (hy : zY y b mL1 ret1 np) (hv : zYv y) (hw : Cond.methodLink own i y ∈ zT) (hq : zRc sh q y.cls) (hn : n1 < n)
    (hM : ∀ (r : Int32) (σ1 : zS), X1 = some (r, σ1) → zM (kl K) (kG K) sh y b mL1 ret1 n1 (.ref (ga (kG K) q) :: As) (zov ret1 (kG K) r) σ σ1) (hlen : As.length = np) (hst : st0 = As.reverse ++ .ref (ga (kG K) q) :: st) (hr : (st.map fun v => v.category).sum ≤ 8) (d : decode cc pc = .ok (.invokevirtual i, 3))
    (k : ∀ (r : Int32) (σ1 : zS), Zf sh K (F r σ1) (pc + 3) lv ((zov ret1 (kG K) r).toList ++ st) σ1) : Zf sh K (zbd X1 F) pc lv st0 σ := by
  intro hX H locs ls hP hS hl
  subst hst
  cases hx : X1 with
  | none => rw [hx] at hX; cases hX
  | some z =>
    obtain ⟨r, σ1⟩ := z
    rw [hx] at hX
    obtain ⟨ci, sl, c, g1, g2, g3⟩ := hq
    have hrc : ∃ cell : Cell, H[ga (kG K) q]? = some cell ∧ cell.vm.isStatics = false ∧ (ks K).vm.findClass y.cls = some cell.cls := by
      rw [← g3]; exact va_recv C.hK hP g2 (zW_get g1)
    have hp := z_pre (sh1 := sh) (av := .ref (ga (kG K) q) :: As) C hP hS
    exact z_go C hS hl (va_runV (As := As) (rest := st) C.1 (hM r σ1 hx H.size) ⟨z_callB C hy hw hn, C.hts _ hv.1, C.hts _ hv.2⟩ ⟨hp.1, hrc, hp.2⟩ rfl hlen hl.1 rfl (lv_room hr) d ⟨Nat.le_refl _, Nat.le_refl _⟩) (k r σ1 hX)
theorem z_callS {i mL1 n1 np : Nat} {y : MethodName} {b : ByteArray} {ret1 : Option FieldType} {As : List Value} {st0 : List Value} {X1 : Option (Int32 × zS)} {F : Int32 → zS → Option (Int32 × zS)} (C : zOk sh K own cc ret mL n) (hy : zY y b mL1 ret1 np) (hv : Cond.static y ∈ zT) (hw : Cond.methodLink own i y ∈ zT) (hn : n1 < n)
    (hM : ∀ (r : Int32) (σ1 : zS), X1 = some (r, σ1) → zM (kl K) (kG K) sh y b mL1 ret1 n1 As (zov ret1 (kG K) r) σ σ1) (hlen : As.length = np) (hst : st0 = As.reverse ++ st) (hr : (st.map fun v => v.category).sum ≤ 8) (d : decode cc pc = .ok (.invokestatic i, 3))
    (k : ∀ (r : Int32) (σ1 : zS), Zf sh K (F r σ1) (pc + 3) lv ((zov ret1 (kG K) r).toList ++ st) σ1) : Zf sh K (zbd X1 F) pc lv st0 σ := by
  intro hX H locs ls hP hS hl
  subst hst
  cases hx : X1 with
  | none => rw [hx] at hX; cases hX
  | some z =>
    obtain ⟨r, σ1⟩ := z
    rw [hx] at hX
    exact z_go C hS hl (va_runS (As := As) (rest := st) C.1 (hM r σ1 hx H.size) ⟨z_callB C hy hw hn, C.hts _ hv⟩ (z_pre (sh1 := sh) C hP hS) rfl hlen hl.1 rfl (lv_room hr) d ⟨Nat.le_refl _, Nat.le_refl _⟩) (k r σ1 hX)
theorem z_callN {i mL1 n1 np : Nat} {y : MethodName} {host : String} {b : ByteArray} {ret1 : Option FieldType} {As : List Value} {st0 : List Value} {X1 : Option (Int32 × zS)} {F : Int32 → zS → Option (Int32 × zS)} (C : zOk sh K own cc ret mL n) (hy : zY y b mL1 ret1 np) (hv : Cond.static y ∈ zT) (hw : (own, i, y, host) ∈ zNests) (hn : n1 < n)
    (hM : ∀ (r : Int32) (σ1 : zS), X1 = some (r, σ1) → zM (kl K) (kG K) sh y b mL1 ret1 n1 As (zov ret1 (kG K) r) σ σ1) (hlen : As.length = np) (hst : st0 = As.reverse ++ st) (hr : (st.map fun v => v.category).sum ≤ 8) (d : decode cc pc = .ok (.invokestatic i, 3))
    (k : ∀ (r : Int32) (σ1 : zS), Zf sh K (F r σ1) (pc + 3) lv ((zov ret1 (kG K) r).toList ++ st) σ1) : Zf sh K (zbd X1 F) pc lv st0 σ := by
  intro hX H locs ls hP hS hl
  subst hst
  cases hx : X1 with
  | none => rw [hx] at hX; cases hX
  | some z =>
    obtain ⟨r, σ1⟩ := z
    rw [hx] at hX
    obtain ⟨h1, h2, h3, h4⟩ := hy
    have hN := C.hN
    exact z_go C hS hl (va_runSN (As := As) (rest := st) C.1 (hM r σ1 hx H.size) ⟨va_cnB np C.hts (zT_any h2) rfl rfl rfl (C.hX.1 _ hw) (C.hts _ h1) h3 ⟨by show n1 + 1 ≤ kN K; omega, by show 8 + (mL1 + 11) + 35 * n1 ≤ 35 * kN K; omega⟩, C.hts _ hv, trivial⟩ (z_pre (sh1 := sh) C hP hS) rfl hlen hl.1 rfl (lv_room hr) d ⟨Nat.le_refl _, Nat.le_refl _⟩) (k r σ1 hX)
/-- a String constant's own method -/
theorem z_callT {i q mL1 n1 np : Nat} {y : MethodName} {b : ByteArray} {ret1 : Option FieldType} {As : List Value} {st0 : List Value} {X1 : Option (Int32 × zS)} {F : Int32 → zS → Option (Int32 × zS)} (C : zOk sh K own cc ret mL n) (hy : zY y b mL1 ret1 np) (hv : zYv y) (hw : Cond.methodLink own i y ∈ zT) (hc : y.cls = "java/lang/String") (hX1 : ¬ q < 10 → X1 = none) (hn : n1 < n)
    (hM : ∀ (r : Int32) (σ1 : zS), X1 = some (r, σ1) → zM (kl K) (kG K) sh y b mL1 ret1 n1 (.ref (gk (kG K) q) :: As) (zov ret1 (kG K) r) σ σ1) (hlen : As.length = np) (hst : st0 = As.reverse ++ .ref (gk (kG K) q) :: st) (hr : (st.map fun v => v.category).sum ≤ 8) (d : decode cc pc = .ok (.invokevirtual i, 3))
    (k : ∀ (r : Int32) (σ1 : zS), Zf sh K (F r σ1) (pc + 3) lv ((zov ret1 (kG K) r).toList ++ st) σ1) : Zf sh K (zbd X1 F) pc lv st0 σ := by
  intro hX H locs ls hP hS hl
  subst hst
  by_cases hq : q < 10
  · cases hx : X1 with
    | none => rw [hx] at hX; cases hX
    | some z =>
      obtain ⟨r, σ1⟩ := z
      rw [hx] at hX
      have hrc : ∃ cell : Cell, H[gk (kG K) q]? = some cell ∧ cell.vm.isStatics = false ∧ (ks K).vm.findClass y.cls = some cell.cls := by
        rw [hc]; exact vk_recv C.hX.2.2.1 hq hS
      have hp := z_pre (sh1 := sh) (av := .ref (gk (kG K) q) :: As) C hP hS
      exact z_go C hS hl (va_runV (As := As) (rest := st) C.1 (hM r σ1 hx H.size) ⟨z_callB C hy hw hn, C.hts _ hv.1, C.hts _ hv.2⟩ ⟨hp.1, hrc, hp.2⟩ rfl hlen hl.1 rfl (lv_room hr) d ⟨Nat.le_refl _, Nat.le_refl _⟩) (k r σ1 hX)
  · rw [hX1 hq] at hX; cases hX

theorem ztoi {x v : Int32} {z : Int} (h : ¬ x = v) (hz : v.toInt = z) : x.toInt ≠ z := fun e => h (Int32.toInt_inj.mp (e.trans hz.symm))
theorem z_tabD {x : Int32} {dflt lo hi : Int} {offs : Array Int} {len tgt : Nat} (C : zOk sh K own cc ret mL n) (Ls : List Int) (hx : ∀ v ∈ Ls, x.toInt ≠ v) (d : decode cc pc = .ok (.tableswitch dflt lo hi offs, len)) (hc : (List.range (hi - lo + 1).toNat).all (fun i => decide (offs[i]? = some dflt) || decide ((lo + (i : Int)) ∈ Ls)) = true) (ht : (pc : Int) + dflt = (tgt : Int)) (k : Zf sh K X tgt lv st σ) : Zf sh K X pc lv (.int x :: st) σ := by
  by_cases h1 : x.toInt < lo
  · exact z_tabOut C d (Or.inl h1) ht k
  by_cases h2 : hi < x.toInt
  · exact z_tabOut C d (Or.inr h2) ht k
  have h3 := List.all_eq_true.mp hc (x.toInt - lo).toNat (List.mem_range.mpr (by omega))
  have h4 : (lo + ((x.toInt - lo).toNat : Int)) = x.toInt := by omega
  rw [h4] at h3
  simp only [Bool.or_eq_true, decide_eq_true_eq] at h3
  rcases h3 with h3 | h3
  · exact fun hX H locs ls hP hS hl => lv_tableIn C.hx C.hb d h1 h2 h3 ht (k hX H locs ls hP hS hl)
  · exact absurd rfl (hx _ h3)
theorem z_callVi {i q mL1 n1 np : Nat} {y : MethodName} {b : ByteArray} {As : List Value} {st0 : List Value} {X1 : Option (Int32 × zS)} {F : Int32 → zS → Option (Int32 × zS)} (C : zOk sh K own cc ret mL n) (hy : zY y b mL1 (some .int) np) (hv : zYv y) (hw : Cond.methodLink own i y ∈ zT) (hq : zRc sh q y.cls) (hn : n1 < n) (hM : ∀ (r : Int32) (σ1 : zS), X1 = some (r, σ1) → zM (kl K) (kG K) sh y b mL1 (some .int) n1 (.ref (ga (kG K) q) :: As) (zov (some .int) (kG K) r) σ σ1) (hlen : As.length = np) (hst : st0 = As.reverse ++ .ref (ga (kG K) q) :: st) (hr : (st.map fun v => v.category).sum ≤ 8) (d : decode cc pc = .ok (.invokevirtual i, 3)) (k : ∀ (r : Int32) (σ1 : zS), Zf sh K (F r σ1) (pc + 3) lv (.int r :: st) σ1) : Zf sh K (zbd X1 F) pc lv st0 σ := z_callV C hy hv hw hq hn hM hlen hst hr d k
theorem z_callVz {i q mL1 n1 np : Nat} {y : MethodName} {b : ByteArray} {As : List Value} {st0 : List Value} {X1 : Option (Int32 × zS)} {F : Int32 → zS → Option (Int32 × zS)} (C : zOk sh K own cc ret mL n) (hy : zY y b mL1 (some .boolean) np) (hv : zYv y) (hw : Cond.methodLink own i y ∈ zT) (hq : zRc sh q y.cls) (hn : n1 < n) (hM : ∀ (r : Int32) (σ1 : zS), X1 = some (r, σ1) → zM (kl K) (kG K) sh y b mL1 (some .boolean) n1 (.ref (ga (kG K) q) :: As) (zov (some .boolean) (kG K) r) σ σ1) (hlen : As.length = np) (hst : st0 = As.reverse ++ .ref (ga (kG K) q) :: st) (hr : (st.map fun v => v.category).sum ≤ 8) (d : decode cc pc = .ok (.invokevirtual i, 3)) (k : ∀ (r : Int32) (σ1 : zS), Zf sh K (F r σ1) (pc + 3) lv (.int r :: st) σ1) : Zf sh K (zbd X1 F) pc lv st0 σ := z_callV C hy hv hw hq hn hM hlen hst hr d k
theorem z_callVc {i q mL1 n1 np : Nat} {y : MethodName} {b : ByteArray} {As : List Value} {st0 : List Value} {X1 : Option (Int32 × zS)} {F : Int32 → zS → Option (Int32 × zS)} (C : zOk sh K own cc ret mL n) (hy : zY y b mL1 (some .char) np) (hv : zYv y) (hw : Cond.methodLink own i y ∈ zT) (hq : zRc sh q y.cls) (hn : n1 < n) (hM : ∀ (r : Int32) (σ1 : zS), X1 = some (r, σ1) → zM (kl K) (kG K) sh y b mL1 (some .char) n1 (.ref (ga (kG K) q) :: As) (zov (some .char) (kG K) r) σ σ1) (hlen : As.length = np) (hst : st0 = As.reverse ++ .ref (ga (kG K) q) :: st) (hr : (st.map fun v => v.category).sum ≤ 8) (d : decode cc pc = .ok (.invokevirtual i, 3)) (k : ∀ (r : Int32) (σ1 : zS), Zf sh K (F r σ1) (pc + 3) lv (.int r :: st) σ1) : Zf sh K (zbd X1 F) pc lv st0 σ := z_callV C hy hv hw hq hn hM hlen hst hr d k
theorem z_callVv {i q mL1 n1 np : Nat} {y : MethodName} {b : ByteArray} {As : List Value} {st0 : List Value} {X1 : Option (Int32 × zS)} {F : Int32 → zS → Option (Int32 × zS)} (C : zOk sh K own cc ret mL n) (hy : zY y b mL1 none np) (hv : zYv y) (hw : Cond.methodLink own i y ∈ zT) (hq : zRc sh q y.cls) (hn : n1 < n) (hM : ∀ (r : Int32) (σ1 : zS), X1 = some (r, σ1) → zM (kl K) (kG K) sh y b mL1 none n1 (.ref (ga (kG K) q) :: As) (zov none (kG K) r) σ σ1) (hlen : As.length = np) (hst : st0 = As.reverse ++ .ref (ga (kG K) q) :: st) (hr : (st.map fun v => v.category).sum ≤ 8) (d : decode cc pc = .ok (.invokevirtual i, 3)) (k : ∀ (r : Int32) (σ1 : zS), Zf sh K (F r σ1) (pc + 3) lv (st) σ1) : Zf sh K (zbd X1 F) pc lv st0 σ := z_callV C hy hv hw hq hn hM hlen hst hr d k
theorem z_callVa {i q mL1 n1 np : Nat} {y : MethodName} {tx : String} {b : ByteArray} {As : List Value} {st0 : List Value} {X1 : Option (Int32 × zS)} {F : Int32 → zS → Option (Int32 × zS)} (C : zOk sh K own cc ret mL n) (hy : zY y b mL1 (some (.object tx)) np) (hv : zYv y) (hw : Cond.methodLink own i y ∈ zT) (hq : zRc sh q y.cls) (hn : n1 < n) (hM : ∀ (r : Int32) (σ1 : zS), X1 = some (r, σ1) → zM (kl K) (kG K) sh y b mL1 (some (.object tx)) n1 (.ref (ga (kG K) q) :: As) (zov (some (.object tx)) (kG K) r) σ σ1) (hlen : As.length = np) (hst : st0 = As.reverse ++ .ref (ga (kG K) q) :: st) (hr : (st.map fun v => v.category).sum ≤ 8) (d : decode cc pc = .ok (.invokevirtual i, 3)) (k : ∀ (r : Int32) (σ1 : zS), Zf sh K (F r σ1) (pc + 3) lv (.ref (gk (kG K) r.toNatClampNeg) :: st) σ1) : Zf sh K (zbd X1 F) pc lv st0 σ := z_callV C hy hv hw hq hn hM hlen hst hr d k
theorem z_callSi {i mL1 n1 np : Nat} {y : MethodName} {b : ByteArray} {As : List Value} {st0 : List Value} {X1 : Option (Int32 × zS)} {F : Int32 → zS → Option (Int32 × zS)} (C : zOk sh K own cc ret mL n) (hy : zY y b mL1 (some .int) np) (hv : Cond.static y ∈ zT) (hw : Cond.methodLink own i y ∈ zT) (hn : n1 < n) (hM : ∀ (r : Int32) (σ1 : zS), X1 = some (r, σ1) → zM (kl K) (kG K) sh y b mL1 (some .int) n1 (As) (zov (some .int) (kG K) r) σ σ1) (hlen : As.length = np) (hst : st0 = As.reverse ++ st) (hr : (st.map fun v => v.category).sum ≤ 8) (d : decode cc pc = .ok (.invokestatic i, 3)) (k : ∀ (r : Int32) (σ1 : zS), Zf sh K (F r σ1) (pc + 3) lv (.int r :: st) σ1) : Zf sh K (zbd X1 F) pc lv st0 σ := z_callS C hy hv hw hn hM hlen hst hr d k
theorem z_callSz {i mL1 n1 np : Nat} {y : MethodName} {b : ByteArray} {As : List Value} {st0 : List Value} {X1 : Option (Int32 × zS)} {F : Int32 → zS → Option (Int32 × zS)} (C : zOk sh K own cc ret mL n) (hy : zY y b mL1 (some .boolean) np) (hv : Cond.static y ∈ zT) (hw : Cond.methodLink own i y ∈ zT) (hn : n1 < n) (hM : ∀ (r : Int32) (σ1 : zS), X1 = some (r, σ1) → zM (kl K) (kG K) sh y b mL1 (some .boolean) n1 (As) (zov (some .boolean) (kG K) r) σ σ1) (hlen : As.length = np) (hst : st0 = As.reverse ++ st) (hr : (st.map fun v => v.category).sum ≤ 8) (d : decode cc pc = .ok (.invokestatic i, 3)) (k : ∀ (r : Int32) (σ1 : zS), Zf sh K (F r σ1) (pc + 3) lv (.int r :: st) σ1) : Zf sh K (zbd X1 F) pc lv st0 σ := z_callS C hy hv hw hn hM hlen hst hr d k
theorem z_callSc {i mL1 n1 np : Nat} {y : MethodName} {b : ByteArray} {As : List Value} {st0 : List Value} {X1 : Option (Int32 × zS)} {F : Int32 → zS → Option (Int32 × zS)} (C : zOk sh K own cc ret mL n) (hy : zY y b mL1 (some .char) np) (hv : Cond.static y ∈ zT) (hw : Cond.methodLink own i y ∈ zT) (hn : n1 < n) (hM : ∀ (r : Int32) (σ1 : zS), X1 = some (r, σ1) → zM (kl K) (kG K) sh y b mL1 (some .char) n1 (As) (zov (some .char) (kG K) r) σ σ1) (hlen : As.length = np) (hst : st0 = As.reverse ++ st) (hr : (st.map fun v => v.category).sum ≤ 8) (d : decode cc pc = .ok (.invokestatic i, 3)) (k : ∀ (r : Int32) (σ1 : zS), Zf sh K (F r σ1) (pc + 3) lv (.int r :: st) σ1) : Zf sh K (zbd X1 F) pc lv st0 σ := z_callS C hy hv hw hn hM hlen hst hr d k
theorem z_callSv {i mL1 n1 np : Nat} {y : MethodName} {b : ByteArray} {As : List Value} {st0 : List Value} {X1 : Option (Int32 × zS)} {F : Int32 → zS → Option (Int32 × zS)} (C : zOk sh K own cc ret mL n) (hy : zY y b mL1 none np) (hv : Cond.static y ∈ zT) (hw : Cond.methodLink own i y ∈ zT) (hn : n1 < n) (hM : ∀ (r : Int32) (σ1 : zS), X1 = some (r, σ1) → zM (kl K) (kG K) sh y b mL1 none n1 (As) (zov none (kG K) r) σ σ1) (hlen : As.length = np) (hst : st0 = As.reverse ++ st) (hr : (st.map fun v => v.category).sum ≤ 8) (d : decode cc pc = .ok (.invokestatic i, 3)) (k : ∀ (r : Int32) (σ1 : zS), Zf sh K (F r σ1) (pc + 3) lv (st) σ1) : Zf sh K (zbd X1 F) pc lv st0 σ := z_callS C hy hv hw hn hM hlen hst hr d k
theorem z_callSa {i mL1 n1 np : Nat} {y : MethodName} {tx : String} {b : ByteArray} {As : List Value} {st0 : List Value} {X1 : Option (Int32 × zS)} {F : Int32 → zS → Option (Int32 × zS)} (C : zOk sh K own cc ret mL n) (hy : zY y b mL1 (some (.object tx)) np) (hv : Cond.static y ∈ zT) (hw : Cond.methodLink own i y ∈ zT) (hn : n1 < n) (hM : ∀ (r : Int32) (σ1 : zS), X1 = some (r, σ1) → zM (kl K) (kG K) sh y b mL1 (some (.object tx)) n1 (As) (zov (some (.object tx)) (kG K) r) σ σ1) (hlen : As.length = np) (hst : st0 = As.reverse ++ st) (hr : (st.map fun v => v.category).sum ≤ 8) (d : decode cc pc = .ok (.invokestatic i, 3)) (k : ∀ (r : Int32) (σ1 : zS), Zf sh K (F r σ1) (pc + 3) lv (.ref (gk (kG K) r.toNatClampNeg) :: st) σ1) : Zf sh K (zbd X1 F) pc lv st0 σ := z_callS C hy hv hw hn hM hlen hst hr d k
theorem z_callNi {i mL1 n1 np : Nat} {y : MethodName} {host : String} {b : ByteArray} {As : List Value} {st0 : List Value} {X1 : Option (Int32 × zS)} {F : Int32 → zS → Option (Int32 × zS)} (C : zOk sh K own cc ret mL n) (hy : zY y b mL1 (some .int) np) (hv : Cond.static y ∈ zT) (hw : (own, i, y, host) ∈ zNests) (hn : n1 < n) (hM : ∀ (r : Int32) (σ1 : zS), X1 = some (r, σ1) → zM (kl K) (kG K) sh y b mL1 (some .int) n1 (As) (zov (some .int) (kG K) r) σ σ1) (hlen : As.length = np) (hst : st0 = As.reverse ++ st) (hr : (st.map fun v => v.category).sum ≤ 8) (d : decode cc pc = .ok (.invokestatic i, 3)) (k : ∀ (r : Int32) (σ1 : zS), Zf sh K (F r σ1) (pc + 3) lv (.int r :: st) σ1) : Zf sh K (zbd X1 F) pc lv st0 σ := z_callN C hy hv hw hn hM hlen hst hr d k
theorem z_callNz {i mL1 n1 np : Nat} {y : MethodName} {host : String} {b : ByteArray} {As : List Value} {st0 : List Value} {X1 : Option (Int32 × zS)} {F : Int32 → zS → Option (Int32 × zS)} (C : zOk sh K own cc ret mL n) (hy : zY y b mL1 (some .boolean) np) (hv : Cond.static y ∈ zT) (hw : (own, i, y, host) ∈ zNests) (hn : n1 < n) (hM : ∀ (r : Int32) (σ1 : zS), X1 = some (r, σ1) → zM (kl K) (kG K) sh y b mL1 (some .boolean) n1 (As) (zov (some .boolean) (kG K) r) σ σ1) (hlen : As.length = np) (hst : st0 = As.reverse ++ st) (hr : (st.map fun v => v.category).sum ≤ 8) (d : decode cc pc = .ok (.invokestatic i, 3)) (k : ∀ (r : Int32) (σ1 : zS), Zf sh K (F r σ1) (pc + 3) lv (.int r :: st) σ1) : Zf sh K (zbd X1 F) pc lv st0 σ := z_callN C hy hv hw hn hM hlen hst hr d k
theorem z_callNc {i mL1 n1 np : Nat} {y : MethodName} {host : String} {b : ByteArray} {As : List Value} {st0 : List Value} {X1 : Option (Int32 × zS)} {F : Int32 → zS → Option (Int32 × zS)} (C : zOk sh K own cc ret mL n) (hy : zY y b mL1 (some .char) np) (hv : Cond.static y ∈ zT) (hw : (own, i, y, host) ∈ zNests) (hn : n1 < n) (hM : ∀ (r : Int32) (σ1 : zS), X1 = some (r, σ1) → zM (kl K) (kG K) sh y b mL1 (some .char) n1 (As) (zov (some .char) (kG K) r) σ σ1) (hlen : As.length = np) (hst : st0 = As.reverse ++ st) (hr : (st.map fun v => v.category).sum ≤ 8) (d : decode cc pc = .ok (.invokestatic i, 3)) (k : ∀ (r : Int32) (σ1 : zS), Zf sh K (F r σ1) (pc + 3) lv (.int r :: st) σ1) : Zf sh K (zbd X1 F) pc lv st0 σ := z_callN C hy hv hw hn hM hlen hst hr d k
theorem z_callNv {i mL1 n1 np : Nat} {y : MethodName} {host : String} {b : ByteArray} {As : List Value} {st0 : List Value} {X1 : Option (Int32 × zS)} {F : Int32 → zS → Option (Int32 × zS)} (C : zOk sh K own cc ret mL n) (hy : zY y b mL1 none np) (hv : Cond.static y ∈ zT) (hw : (own, i, y, host) ∈ zNests) (hn : n1 < n) (hM : ∀ (r : Int32) (σ1 : zS), X1 = some (r, σ1) → zM (kl K) (kG K) sh y b mL1 none n1 (As) (zov none (kG K) r) σ σ1) (hlen : As.length = np) (hst : st0 = As.reverse ++ st) (hr : (st.map fun v => v.category).sum ≤ 8) (d : decode cc pc = .ok (.invokestatic i, 3)) (k : ∀ (r : Int32) (σ1 : zS), Zf sh K (F r σ1) (pc + 3) lv (st) σ1) : Zf sh K (zbd X1 F) pc lv st0 σ := z_callN C hy hv hw hn hM hlen hst hr d k
theorem z_callNa {i mL1 n1 np : Nat} {y : MethodName} {host : String} {tx : String} {b : ByteArray} {As : List Value} {st0 : List Value} {X1 : Option (Int32 × zS)} {F : Int32 → zS → Option (Int32 × zS)} (C : zOk sh K own cc ret mL n) (hy : zY y b mL1 (some (.object tx)) np) (hv : Cond.static y ∈ zT) (hw : (own, i, y, host) ∈ zNests) (hn : n1 < n) (hM : ∀ (r : Int32) (σ1 : zS), X1 = some (r, σ1) → zM (kl K) (kG K) sh y b mL1 (some (.object tx)) n1 (As) (zov (some (.object tx)) (kG K) r) σ σ1) (hlen : As.length = np) (hst : st0 = As.reverse ++ st) (hr : (st.map fun v => v.category).sum ≤ 8) (d : decode cc pc = .ok (.invokestatic i, 3)) (k : ∀ (r : Int32) (σ1 : zS), Zf sh K (F r σ1) (pc + 3) lv (.ref (gk (kG K) r.toNatClampNeg) :: st) σ1) : Zf sh K (zbd X1 F) pc lv st0 σ := z_callN C hy hv hw hn hM hlen hst hr d k
theorem z_callTi {i q mL1 n1 np : Nat} {y : MethodName} {b : ByteArray} {As : List Value} {st0 : List Value} {X1 : Option (Int32 × zS)} {F : Int32 → zS → Option (Int32 × zS)} (C : zOk sh K own cc ret mL n) (hy : zY y b mL1 (some .int) np) (hv : zYv y) (hw : Cond.methodLink own i y ∈ zT) (hc : y.cls = "java/lang/String") (hX1 : ¬ q < 10 → X1 = none) (hn : n1 < n) (hM : ∀ (r : Int32) (σ1 : zS), X1 = some (r, σ1) → zM (kl K) (kG K) sh y b mL1 (some .int) n1 (.ref (gk (kG K) q) :: As) (zov (some .int) (kG K) r) σ σ1) (hlen : As.length = np) (hst : st0 = As.reverse ++ .ref (gk (kG K) q) :: st) (hr : (st.map fun v => v.category).sum ≤ 8) (d : decode cc pc = .ok (.invokevirtual i, 3)) (k : ∀ (r : Int32) (σ1 : zS), Zf sh K (F r σ1) (pc + 3) lv (.int r :: st) σ1) : Zf sh K (zbd X1 F) pc lv st0 σ := z_callT C hy hv hw hc hX1 hn hM hlen hst hr d k
theorem z_callTz {i q mL1 n1 np : Nat} {y : MethodName} {b : ByteArray} {As : List Value} {st0 : List Value} {X1 : Option (Int32 × zS)} {F : Int32 → zS → Option (Int32 × zS)} (C : zOk sh K own cc ret mL n) (hy : zY y b mL1 (some .boolean) np) (hv : zYv y) (hw : Cond.methodLink own i y ∈ zT) (hc : y.cls = "java/lang/String") (hX1 : ¬ q < 10 → X1 = none) (hn : n1 < n) (hM : ∀ (r : Int32) (σ1 : zS), X1 = some (r, σ1) → zM (kl K) (kG K) sh y b mL1 (some .boolean) n1 (.ref (gk (kG K) q) :: As) (zov (some .boolean) (kG K) r) σ σ1) (hlen : As.length = np) (hst : st0 = As.reverse ++ .ref (gk (kG K) q) :: st) (hr : (st.map fun v => v.category).sum ≤ 8) (d : decode cc pc = .ok (.invokevirtual i, 3)) (k : ∀ (r : Int32) (σ1 : zS), Zf sh K (F r σ1) (pc + 3) lv (.int r :: st) σ1) : Zf sh K (zbd X1 F) pc lv st0 σ := z_callT C hy hv hw hc hX1 hn hM hlen hst hr d k
theorem z_callTc {i q mL1 n1 np : Nat} {y : MethodName} {b : ByteArray} {As : List Value} {st0 : List Value} {X1 : Option (Int32 × zS)} {F : Int32 → zS → Option (Int32 × zS)} (C : zOk sh K own cc ret mL n) (hy : zY y b mL1 (some .char) np) (hv : zYv y) (hw : Cond.methodLink own i y ∈ zT) (hc : y.cls = "java/lang/String") (hX1 : ¬ q < 10 → X1 = none) (hn : n1 < n) (hM : ∀ (r : Int32) (σ1 : zS), X1 = some (r, σ1) → zM (kl K) (kG K) sh y b mL1 (some .char) n1 (.ref (gk (kG K) q) :: As) (zov (some .char) (kG K) r) σ σ1) (hlen : As.length = np) (hst : st0 = As.reverse ++ .ref (gk (kG K) q) :: st) (hr : (st.map fun v => v.category).sum ≤ 8) (d : decode cc pc = .ok (.invokevirtual i, 3)) (k : ∀ (r : Int32) (σ1 : zS), Zf sh K (F r σ1) (pc + 3) lv (.int r :: st) σ1) : Zf sh K (zbd X1 F) pc lv st0 σ := z_callT C hy hv hw hc hX1 hn hM hlen hst hr d k
theorem z_callTv {i q mL1 n1 np : Nat} {y : MethodName} {b : ByteArray} {As : List Value} {st0 : List Value} {X1 : Option (Int32 × zS)} {F : Int32 → zS → Option (Int32 × zS)} (C : zOk sh K own cc ret mL n) (hy : zY y b mL1 none np) (hv : zYv y) (hw : Cond.methodLink own i y ∈ zT) (hc : y.cls = "java/lang/String") (hX1 : ¬ q < 10 → X1 = none) (hn : n1 < n) (hM : ∀ (r : Int32) (σ1 : zS), X1 = some (r, σ1) → zM (kl K) (kG K) sh y b mL1 none n1 (.ref (gk (kG K) q) :: As) (zov none (kG K) r) σ σ1) (hlen : As.length = np) (hst : st0 = As.reverse ++ .ref (gk (kG K) q) :: st) (hr : (st.map fun v => v.category).sum ≤ 8) (d : decode cc pc = .ok (.invokevirtual i, 3)) (k : ∀ (r : Int32) (σ1 : zS), Zf sh K (F r σ1) (pc + 3) lv (st) σ1) : Zf sh K (zbd X1 F) pc lv st0 σ := z_callT C hy hv hw hc hX1 hn hM hlen hst hr d k
theorem z_callTa {i q mL1 n1 np : Nat} {y : MethodName} {tx : String} {b : ByteArray} {As : List Value} {st0 : List Value} {X1 : Option (Int32 × zS)} {F : Int32 → zS → Option (Int32 × zS)} (C : zOk sh K own cc ret mL n) (hy : zY y b mL1 (some (.object tx)) np) (hv : zYv y) (hw : Cond.methodLink own i y ∈ zT) (hc : y.cls = "java/lang/String") (hX1 : ¬ q < 10 → X1 = none) (hn : n1 < n) (hM : ∀ (r : Int32) (σ1 : zS), X1 = some (r, σ1) → zM (kl K) (kG K) sh y b mL1 (some (.object tx)) n1 (.ref (gk (kG K) q) :: As) (zov (some (.object tx)) (kG K) r) σ σ1) (hlen : As.length = np) (hst : st0 = As.reverse ++ .ref (gk (kG K) q) :: st) (hr : (st.map fun v => v.category).sum ≤ 8) (d : decode cc pc = .ok (.invokevirtual i, 3)) (k : ∀ (r : Int32) (σ1 : zS), Zf sh K (F r σ1) (pc + 3) lv (.ref (gk (kG K) r.toNatClampNeg) :: st) σ1) : Zf sh K (zbd X1 F) pc lv st0 σ := z_callT C hy hv hw hc hX1 hn hM hlen hst hr d k
end ZRULES
