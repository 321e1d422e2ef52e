/-! the first states -/
def sA0 (f6 f7 : Nat → Int32) : zS := fun k => match k with
  | 4 => fun j => if j = 12 then 20 else if j = 13 then 30 else 0
  | 6 => f6
  | 7 => f7
  | _ => fun _ => 0
def sB0 (f1 : Nat → Int32) : zS := fun k => match k with
  | 0 => fun j => if j = 4 then 20 else if j = 5 then 30 else 0
  | 1 => f1
  | _ => fun _ => 0
def S0 : aS := fun a b => if a = 2 then 9999 else if a = 3 then 100 else if a = 11 then (if b = 0 then 20 else if b = 1 then 30 else 0) else 0
theorem RA0 {f6 f7 : Nat → Int32} (hf : ∀ j, j < 10 → f6 j = 9999 ∧ f7 j = 100) : RA (sA0 f6 f7) S0 := by
  refine ⟨fun q hq j hj => ?_, ⟨rfl, rfl, rfl, rfl⟩, fun j hj => absurd hj (Nat.not_lt_zero j), fun b hb => absurd hb (Nat.not_lt_zero b), fun a ha => ?_⟩
  · simp only [rowsA, List.mem_cons, List.not_mem_nil, or_false] at hq
    rcases hq with rfl | rfl | rfl | rfl | rfl | rfl | rfl | rfl | rfl | rfl | rfl | rfl | rfl | rfl | rfl | rfl | rfl | rfl | rfl
    · rfl
    · exact (hf j hj).1
    · exact (hf j hj).2
    · rfl
    · rfl
    · rfl
    · rfl
    · rfl
    · rfl
    · rfl
    · rfl
    · rfl
    · rfl
    · rfl
    · rfl
    · rfl
    · rfl
    · rfl
    · rfl
  · rw [bN_zero (p := fun b => decide (0 < S0 9 (10 * a + b))) (fun k _ => rfl), bN_zero (p := fun b => decide (0 < S0 10 (10 * a + b))) (fun k _ => rfl)]
    exact ⟨rfl, rfl⟩
theorem RB0 {f1 : Nat → Int32} (hf : ∀ j, j < 10 → f1 (3 * j) = 0 ∧ f1 (3 * j + 1) = 9999 ∧ f1 (3 * j + 2) = 100) : RB (sB0 f1) S0 := by
  refine ⟨fun p hp => hf p hp, fun f hf => ⟨rfl, rfl, fun i _ => rfl, rfl⟩, fun j hj => ⟨rfl, rfl⟩, ⟨?_, rfl, rfl, rfl, rfl⟩, fun j hj => absurd hj (Nat.not_lt_zero j), fun b hb => absurd hb (Nat.not_lt_zero b), fun p f _ _ => ⟨rfl, rfl⟩⟩
  rw [bN_zero (p := fun f => decide (0 < S0 4 f)) (fun k _ => rfl)]
  rfl
theorem zE_o {G : zG} {σ : zS} {k ci : Nat} {sl : List (Bool ⊕ Nat)} : zE G σ k (.inl (ci, sl)) = .inr (ci, sl.mapIdx (zF G σ k)) := rfl
theorem zlg0 : zlg 0 0 = 0 := by decide
theorem Inv0 : Inv S0 := by
  refine ⟨fun p hp => ⟨?_, ?_, ?_, ?_⟩, fun f hf => ⟨?_, ?_, ?_, fun i _ => ?_, ?_⟩, fun j hj => ⟨?_, ?_⟩, ⟨?_, ?_, ?_, ?_⟩, fun j hj => absurd hj (Nat.not_lt_zero j), fun b hb => absurd hb (Nat.not_lt_zero b), fun b _ _ => ⟨rfl, rfl⟩, fun p f _ _ => ⟨?_, ?_⟩, ⟨fun _ => 0, fun b hb => absurd hb (Nat.not_lt_zero b)⟩⟩ <;> simp [S0]
def gaA (h0 o1 q1c2 q2c2 o3 q1c4 q2c4 q3c4 q4c4 q5c4 q6c4 q7c4 q8c4 q9c4 q10c4 q11c4 q12c4 o5 q1c6 q2c6 q3c6 q4c6 q5c6 q6c6 q7c6 q8c6 q9c6 o7 o9 q1c10 q2c10 q3c10 o11 q1c12 q2c12 q3c12 o13 q1c14 o15 q1c16 q2c16 q3c16 q4c16 o17 : Nat) : Nat → Nat := fun k => [h0, o1, q1c2, q2c2, o3, q1c4, q2c4, q3c4, q4c4, q5c4, q6c4, q7c4, q8c4, q9c4, q10c4, q11c4, q12c4, o5, q1c6, q2c6, q3c6, q4c6, q5c6, q6c6, q7c6, q8c6, q9c6, o7, o9, q1c10, q2c10, q3c10, o11, q1c12, q2c12, q3c12, o13, q1c14, o15, q1c16, q2c16, q3c16, q4c16, o17].getD k 0
set_option maxRecDepth 100000 in
theorem zwA0 (D : va_G) (cI cZ : ClassId) (gk gv : Nat → Nat) (h0 o1 q1c2 q2c2 o3 q1c4 q2c4 q3c4 q4c4 q5c4 q6c4 q7c4 q8c4 q9c4 q10c4 q11c4 q12c4 o5 q1c6 q2c6 q3c6 q4c6 q5c6 q6c6 q7c6 q8c6 q9c6 o7 o9 q1c10 q2c10 q3c10 o11 q1c12 q2c12 q3c12 o13 q1c14 o15 q1c16 q2c16 q3c16 q4c16 o17 : Nat) (f6c4 f7c4 : Nat → Int32) : zW (D.1, D.2, cI, cZ, gaA h0 o1 q1c2 q2c2 o3 q1c4 q2c4 q3c4 q4c4 q5c4 q6c4 q7c4 q8c4 q9c4 q10c4 q11c4 q12c4 o5 q1c6 q2c6 q3c6 q4c6 q5c6 q6c6 q7c6 q8c6 q9c6 o7 o9 q1c10 q2c10 q3c10 o11 q1c12 q2c12 q3c12 o13 q1c14 o15 q1c16 q2c16 q3c16 q4c16 o17, gk, gv) zshA (sA0 f6c4 f7c4) = [(h0, .inr (9, [.ref o1, .ref o3, .ref o5, .ref o7, .ref o9, .ref o11, .ref o13, .ref o15, .ref o17])), (o1, .inr (7, [.ref q1c2, .int 0, .ref q2c2, .int 0, .int 0, .int 0])), (q1c2, .inl (cI, 200, .inl (fun _ => 0))), (q2c2, .inl (cI, 64, .inl (fun _ => 0))), (o3, .inr (3, [.ref q1c4, .ref q2c4, .ref q3c4, .ref q4c4, .ref q5c4, .ref q6c4, .ref q7c4, .ref q8c4, .ref q9c4, .ref q10c4, .ref q11c4, .ref q12c4, .int 20, .int 30])), (q1c4, .inl (cI, 10, .inl (fun _ => 0))), (q2c4, .inl (cI, 10, .inl f6c4)), (q3c4, .inl (cI, 10, .inl f7c4)), (q4c4, .inl (cZ, 9, .inl (fun _ => 0))), (q5c4, .inl (cI, 9, .inl (fun _ => 0))), (q6c4, .inl (cI, 9, .inl (fun _ => 0))), (q7c4, .inl (cI, 27, .inl (fun _ => 0))), (q8c4, .inl (cI, 9, .inl (fun _ => 0))), (q9c4, .inl (cI, 100, .inl (fun _ => 0))), (q10c4, .inl (cI, 100, .inl (fun _ => 0))), (q11c4, .inl (cI, 10, .inl (fun _ => 0))), (q12c4, .inl (cI, 10, .inl (fun _ => 0))), (o5, .inr (0, [.int 0, .ref q1c6, .ref q2c6, .ref q3c6, .ref q4c6, .ref q5c6, .ref q6c6, .ref q7c6, .ref q8c6, .ref q9c6])), (q1c6, .inl (cI, 12, .inl (fun _ => 0))), (q2c6, .inl (cI, 36, .inl (fun _ => 0))), (q3c6, .inl (cI, 12, .inl (fun _ => 0))), (q4c6, .inl (cI, 12, .inl (fun _ => 0))), (q5c6, .inl (cI, 12, .inl (fun _ => 0))), (q6c6, .inl (cI, 12, .inl (fun _ => 0))), (q7c6, .inl (cI, 12, .inl (fun _ => 0))), (q8c6, .inl (cI, 12, .inl (fun _ => 0))), (q9c6, .inl (cI, 12, .inl (fun _ => 0))), (o7, .inr (2, [.ref o3, .ref o5])), (o9, .inr (8, [.ref o3, .ref o5, .ref o7, .ref q1c10, .ref q2c10, .ref q3c10])), (q1c10, .inl (cI, 72, .inl (fun _ => 0))), (q2c10, .inl (cI, 72, .inl (fun _ => 0))), (q3c10, .inl (cI, 12, .inl (fun _ => 0))), (o11, .inr (5, [.ref o5, .ref o9, .ref q1c12, .ref q2c12, .ref q3c12, .int 0])), (q1c12, .inl (cI, 12, .inl (fun _ => 0))), (q2c12, .inl (cI, 12, .inl (fun _ => 0))), (q3c12, .inl (cI, 12, .inl (fun _ => 0))), (o13, .inr (4, [.ref o3, .ref o5, .ref o9, .ref q1c14])), (q1c14, .inl (cI, 10, .inl (fun _ => 0))), (o15, .inr (6, [.ref o3, .ref o13, .ref q1c16, .ref q2c16, .ref q3c16, .ref q4c16, .int 0])), (q1c16, .inl (cI, 90, .inl (fun _ => 0))), (q2c16, .inl (cI, 90, .inl (fun _ => 0))), (q3c16, .inl (cI, 10, .inl (fun _ => 0))), (q4c16, .inl (cI, 10, .inl (fun _ => 0))), (o17, .inr (1, [.ref o5]))] := by
  apply List.ext_getElem?
  intro i
  match i with
  | 0 => rw [zW_get (sh := zshA) (k := 0) rfl, zE_o]; simp only [List.mapIdx_cons, List.mapIdx_nil, zF]; rfl
  | 1 => rw [zW_get (sh := zshA) (k := 1) rfl, zE_o]; simp only [List.mapIdx_cons, List.mapIdx_nil, zF]; rfl
  | 2 => rw [zW_get (sh := zshA) (k := 2) rfl]; rfl
  | 3 => rw [zW_get (sh := zshA) (k := 3) rfl]; rfl
  | 4 => rw [zW_get (sh := zshA) (k := 4) rfl, zE_o]; simp only [List.mapIdx_cons, List.mapIdx_nil, zF]; rfl
  | 5 => rw [zW_get (sh := zshA) (k := 5) rfl]; rfl
  | 6 => rw [zW_get (sh := zshA) (k := 6) rfl]; rfl
  | 7 => rw [zW_get (sh := zshA) (k := 7) rfl]; rfl
  | 8 => rw [zW_get (sh := zshA) (k := 8) rfl]; rfl
  | 9 => rw [zW_get (sh := zshA) (k := 9) rfl]; rfl
  | 10 => rw [zW_get (sh := zshA) (k := 10) rfl]; rfl
  | 11 => rw [zW_get (sh := zshA) (k := 11) rfl]; rfl
  | 12 => rw [zW_get (sh := zshA) (k := 12) rfl]; rfl
  | 13 => rw [zW_get (sh := zshA) (k := 13) rfl]; rfl
  | 14 => rw [zW_get (sh := zshA) (k := 14) rfl]; rfl
  | 15 => rw [zW_get (sh := zshA) (k := 15) rfl]; rfl
  | 16 => rw [zW_get (sh := zshA) (k := 16) rfl]; rfl
  | 17 => rw [zW_get (sh := zshA) (k := 17) rfl, zE_o]; simp only [List.mapIdx_cons, List.mapIdx_nil, zF]; rfl
  | 18 => rw [zW_get (sh := zshA) (k := 18) rfl]; rfl
  | 19 => rw [zW_get (sh := zshA) (k := 19) rfl]; rfl
  | 20 => rw [zW_get (sh := zshA) (k := 20) rfl]; rfl
  | 21 => rw [zW_get (sh := zshA) (k := 21) rfl]; rfl
  | 22 => rw [zW_get (sh := zshA) (k := 22) rfl]; rfl
  | 23 => rw [zW_get (sh := zshA) (k := 23) rfl]; rfl
  | 24 => rw [zW_get (sh := zshA) (k := 24) rfl]; rfl
  | 25 => rw [zW_get (sh := zshA) (k := 25) rfl]; rfl
  | 26 => rw [zW_get (sh := zshA) (k := 26) rfl]; rfl
  | 27 => rw [zW_get (sh := zshA) (k := 27) rfl, zE_o]; simp only [List.mapIdx_cons, List.mapIdx_nil, zF]; rfl
  | 28 => rw [zW_get (sh := zshA) (k := 28) rfl, zE_o]; simp only [List.mapIdx_cons, List.mapIdx_nil, zF]; rfl
  | 29 => rw [zW_get (sh := zshA) (k := 29) rfl]; rfl
  | 30 => rw [zW_get (sh := zshA) (k := 30) rfl]; rfl
  | 31 => rw [zW_get (sh := zshA) (k := 31) rfl]; rfl
  | 32 => rw [zW_get (sh := zshA) (k := 32) rfl, zE_o]; simp only [List.mapIdx_cons, List.mapIdx_nil, zF]; rfl
  | 33 => rw [zW_get (sh := zshA) (k := 33) rfl]; rfl
  | 34 => rw [zW_get (sh := zshA) (k := 34) rfl]; rfl
  | 35 => rw [zW_get (sh := zshA) (k := 35) rfl]; rfl
  | 36 => rw [zW_get (sh := zshA) (k := 36) rfl, zE_o]; simp only [List.mapIdx_cons, List.mapIdx_nil, zF]; rfl
  | 37 => rw [zW_get (sh := zshA) (k := 37) rfl]; rfl
  | 38 => rw [zW_get (sh := zshA) (k := 38) rfl, zE_o]; simp only [List.mapIdx_cons, List.mapIdx_nil, zF]; rfl
  | 39 => rw [zW_get (sh := zshA) (k := 39) rfl]; rfl
  | 40 => rw [zW_get (sh := zshA) (k := 40) rfl]; rfl
  | 41 => rw [zW_get (sh := zshA) (k := 41) rfl]; rfl
  | 42 => rw [zW_get (sh := zshA) (k := 42) rfl]; rfl
  | 43 => rw [zW_get (sh := zshA) (k := 43) rfl, zE_o]; simp only [List.mapIdx_cons, List.mapIdx_nil, zF]; rfl
  | n + 44 => rw [List.getElem?_eq_none (by rw [zW, List.length_mapIdx]; exact Nat.le_add_left 44 n), List.getElem?_eq_none (Nat.le_add_left 44 n)]
def gaB (h0 q1 q2 q3 q4 q5 q6 q7 q8 q9 q10 q11 q12 q13 q14 q15 q16 q17 q18 : Nat) : Nat → Nat := fun k => [h0, q1, q2, q3, q4, q5, q6, q7, q8, q9, q10, q11, q12, q13, q14, q15, q16, q17, q18].getD k 0
set_option maxRecDepth 100000 in
theorem zwB0 (D : va_G) (cI cZ : ClassId) (gk gv : Nat → Nat) (h0 q1 q2 q3 q4 q5 q6 q7 q8 q9 q10 q11 q12 q13 q14 q15 q16 q17 q18 : Nat) (f1 : Nat → Int32) : zW (D.1, D.2, cI, cZ, gaB h0 q1 q2 q3 q4 q5 q6 q7 q8 q9 q10 q11 q12 q13 q14 q15 q16 q17 q18, gk, gv) zshB (sB0 f1) = [(h0, .inr (10, [.ref q1, .ref q2, .ref q3, .int 0, .int 20, .int 30, .int 0, .ref q4, .int 0, .int 0, .long 0, .int 0, .int 0, .int 0, .int 0, .ref q5, .int 0, .ref q6, .ref q7, .ref q8, .ref q9, .ref q10, .ref q11, .ref q12, .ref q13, .ref q14, .ref q15, .ref q16, .ref q17, .ref q18])), (q1, .inl (cI, 30, .inl f1)), (q2, .inl (cI, 200, .inl (fun _ => 0))), (q3, .inl (cI, 54, .inl (fun _ => 0))), (q4, .inl (cI, 200, .inl (fun _ => 0))), (q5, .inl (cI, 64, .inl (fun _ => 0))), (q6, .inl (cI, 132, .inl (fun _ => 0))), (q7, .inl (cI, 12, .inl (fun _ => 0))), (q8, .inl (cI, 12, .inl (fun _ => 0))), (q9, .inl (cI, 12, .inl (fun _ => 0))), (q10, .inl (cI, 12, .inl (fun _ => 0))), (q11, .inl (cI, 12, .inl (fun _ => 0))), (q12, .inl (cI, 12, .inl (fun _ => 0))), (q13, .inl (cI, 12, .inl (fun _ => 0))), (q14, .inl (cI, 12, .inl (fun _ => 0))), (q15, .inl (cI, 10, .inl (fun _ => 0))), (q16, .inl (cI, 10, .inl (fun _ => 0))), (q17, .inl (cI, 90, .inl (fun _ => 0))), (q18, .inl (cI, 90, .inl (fun _ => 0)))] := by
  apply List.ext_getElem?
  intro i
  match i with
  | 0 => rw [zW_get (sh := zshB) (k := 0) rfl, zE_o]; simp only [List.mapIdx_cons, List.mapIdx_nil, zF]; rw [show zlg (sB0 f1 0 (0 + 1 + 1 + 1 + 1 + 1 + 1 + 1 + 1 + 1 + 1)) (sB0 f1 0 (0 + 1 + 1 + 1 + 1 + 1 + 1 + 1 + 1 + 1 + 1 + 1000)) = 0 from zlg0]; rfl
  | 1 => rw [zW_get (sh := zshB) (k := 1) rfl]; rfl
  | 2 => rw [zW_get (sh := zshB) (k := 2) rfl]; rfl
  | 3 => rw [zW_get (sh := zshB) (k := 3) rfl]; rfl
  | 4 => rw [zW_get (sh := zshB) (k := 4) rfl]; rfl
  | 5 => rw [zW_get (sh := zshB) (k := 5) rfl]; rfl
  | 6 => rw [zW_get (sh := zshB) (k := 6) rfl]; rfl
  | 7 => rw [zW_get (sh := zshB) (k := 7) rfl]; rfl
  | 8 => rw [zW_get (sh := zshB) (k := 8) rfl]; rfl
  | 9 => rw [zW_get (sh := zshB) (k := 9) rfl]; rfl
  | 10 => rw [zW_get (sh := zshB) (k := 10) rfl]; rfl
  | 11 => rw [zW_get (sh := zshB) (k := 11) rfl]; rfl
  | 12 => rw [zW_get (sh := zshB) (k := 12) rfl]; rfl
  | 13 => rw [zW_get (sh := zshB) (k := 13) rfl]; rfl
  | 14 => rw [zW_get (sh := zshB) (k := 14) rfl]; rfl
  | 15 => rw [zW_get (sh := zshB) (k := 15) rfl]; rfl
  | 16 => rw [zW_get (sh := zshB) (k := 16) rfl]; rfl
  | 17 => rw [zW_get (sh := zshB) (k := 17) rfl]; rfl
  | 18 => rw [zW_get (sh := zshB) (k := 18) rfl]; rfl
  | n + 19 => rw [List.getElem?_eq_none (by rw [zW, List.length_mapIdx]; exact Nat.le_add_left 19 n), List.getElem?_eq_none (Nat.le_add_left 19 n)]
