/-! PURE: numbers -/
theorem qlt {a b : Int32} : a < b ↔ a.toInt < b.toInt := Int32.lt_iff_toInt_lt
theorem qle {a b : Int32} : a ≤ b ↔ a.toInt ≤ b.toInt := Int32.le_iff_toInt_le
theorem qeq {a b : Int32} : a = b ↔ a.toInt = b.toInt := Int32.toInt_inj.symm
theorem qti {n : Nat} (h : n < 2147483648) : (nI n).toInt = (n : Int) := nI_toInt h
theorem qcl {n : Nat} (h : n < 2147483648) : (nI n).toNatClampNeg = n := nI_clamp h
theorem q0 : (0 : Int32) = nI 0 := rfl
theorem q1 : (1 : Int32) = nI 1 := rfl
theorem q2 : (2 : Int32) = nI 2 := rfl
theorem q3 : (3 : Int32) = nI 3 := rfl
theorem q4 : (4 : Int32) = nI 4 := rfl
theorem q5 : (5 : Int32) = nI 5 := rfl
theorem q6 : (6 : Int32) = nI 6 := rfl
theorem q7 : (7 : Int32) = nI 7 := rfl
theorem q8 : (8 : Int32) = nI 8 := rfl
theorem q9 : (9 : Int32) = nI 9 := rfl
theorem q10 : (10 : Int32) = nI 10 := rfl
theorem q11 : (11 : Int32) = nI 11 := rfl
theorem q12 : (12 : Int32) = nI 12 := rfl
theorem q48 : (48 : Int32) = nI 48 := rfl
theorem q99 : (99 : Int32) = nI 99 := rfl
theorem q100 : (100 : Int32) = nI 100 := rfl
theorem q200 : (200 : Int32) = nI 200 := rfl
theorem q999 : (999 : Int32) = nI 999 := rfl
theorem q1000 : (1000 : Int32) = nI 1000 := rfl
theorem q9999 : (9999 : Int32) = nI 9999 := rfl
theorem qrange (x : Int32) : -2147483648 ≤ x.toInt ∧ x.toInt < 2147483648 := ⟨Int32.le_toInt x, Int32.toInt_lt x⟩
theorem qof {x : Int32} (h : 0 ≤ x.toInt) : x = nI x.toInt.toNat := by
  have hr := qrange x
  rw [qeq, qti (by omega)]
  omega
theorem qsub {a b : Nat} (h : b ≤ a) : nI a - nI b = nI (a - b) := pk_sub h
theorem qle_n {a b : Nat} (ha : a < 2147483648) (hb : b < 2147483648) : nI a ≤ nI b ↔ a ≤ b := nI_leI ha hb
theorem qlt_n {a b : Nat} (ha : a < 2147483648) (hb : b < 2147483648) : nI a < nI b ↔ a < b := nI_ltI ha hb
theorem qeq_n {a b : Nat} (ha : a < 2147483648) (hb : b < 2147483648) : nI a = nI b ↔ a = b := nI_eq ha hb
/-- in 0 .. n-1 -/
abbrev vd (x : Int32) (n : Nat) : Prop := 0 ≤ x.toInt ∧ x.toInt < n
theorem vd_of {x : Int32} {n : Nat} (h : vd x n) : ∃ j : Nat, j < n ∧ x = nI j := ⟨x.toInt.toNat, by have := h.1; have := h.2; omega, qof h.1⟩
theorem vd_n {j n : Nat} (h : j < n) (hn : n < 2147483648) : vd (nI j) n := by
  unfold vd
  rw [qti (by omega)]
  omega
/-! PURE: the words of the printed functions -/
theorem zbd_s {a : Int32} {σ : zS} {F : Int32 → zS → Option (Int32 × zS)} : zbd (some (a, σ)) F = F a σ := rfl
theorem zrd_i {σ : zS} {k n j : Nat} {x : Int32} {X : Int32 → Option (Int32 × zS)} (hx : x = nI j) (h : j < n) (hn : n < 2147483648) : zrd σ k n x X = X (σ k j) := by
  subst hx
  unfold zrd
  rw [qti (by omega), qcl (by omega), if_pos (by omega)]
theorem zwr_i {σ : zS} {k n j : Nat} {x v : Int32} {X : zS → Option (Int32 × zS)} (hx : x = nI j) (h : j < n) (hn : n < 2147483648) : zwr σ k n x v X = X (zup σ k j v) := by
  subst hx
  unfold zwr
  rw [qti (by omega), qcl (by omega), if_pos (by omega)]
theorem zrd_n {σ : zS} {k n j : Nat} {X : Int32 → Option (Int32 × zS)} (h : j < n) (hn : n < 2147483648) : zrd σ k n (nI j) X = X (σ k j) := zrd_i rfl h hn
theorem zwr_n {σ : zS} {k n j : Nat} {v : Int32} {X : zS → Option (Int32 × zS)} (h : j < n) (hn : n < 2147483648) : zwr σ k n (nI j) v X = X (zup σ k j v) := zwr_i rfl h hn
theorem zdv_n {a b : Int32} {X : Int32 → Option (Int32 × zS)} (h : ¬ b = 0) : zdv a b X = X (a / b) := if_neg h
theorem zst_s {σ : zS} {k j : Nat} {v : Int32} {X : zS → Option (Int32 × zS)} : zst σ k j v X = X (zup σ k j v) := rfl
theorem zup_at {σ : zS} {k j : Nat} {v : Int32} : zup σ k j v k j = v := by rw [zup_eq]; unfold upd; rw [if_pos rfl]
theorem zup_no {σ : zS} {k j i : Nat} {v : Int32} (h : i ≠ j) : zup σ k j v k i = σ k i := by rw [zup_eq]; unfold upd; rw [if_neg h]
/-! PURE: the abstract state: S c j -/
abbrev aS : Type := Nat → Nat → Nat
/-- rows of the class: cell, component, length -/
def rowsA : List (Nat × Nat × Nat) := [(5, 1, 10), (6, 2, 10), (7, 3, 10), (8, 4, 9), (9, 5, 9), (10, 6, 9), (11, 7, 27), (12, 8, 9), (13, 9, 100), (14, 10, 100), (18, 13, 12), (19, 14, 36), (20, 15, 12), (21, 16, 12), (22, 17, 12), (23, 18, 12), (24, 19, 12), (39, 22, 90), (40, 23, 90)]
/-- bits of a predicate -/
def bN (p : Nat → Bool) : Nat → Nat
  | 0 => 0
  | n + 1 => bN p n + (if p n then 2 ^ n else 0)
def RA (σ : zS) (S : aS) : Prop :=
  (∀ q ∈ rowsA, ∀ j, j < q.2.2 → σ q.1 j = nI (S q.2.1 j)) ∧
  (σ 4 12 = nI (S 11 0) ∧ σ 4 13 = nI (S 11 1) ∧ σ 1 1 = nI (S 11 2) ∧ σ 17 0 = nI (S 11 3)) ∧
  (∀ j, j < S 11 2 → σ 2 j = nI (S 12 j)) ∧
  (∀ b, b < S 11 3 → σ 25 b = nI (S 20 b) - 1 ∧ σ 26 b = nI (S 21 b) - 1) ∧
  (∀ a, a < 10 → σ 15 a = nI (bN (fun b => decide (0 < S 9 (10 * a + b))) 10) ∧ σ 16 a = nI (bN (fun b => decide (0 < S 10 (10 * a + b))) 10))
def RB (τ : zS) (S : aS) : Prop :=
  (∀ p, p < 10 → τ 1 (3 * p) = nI (S 1 p) ∧ τ 1 (3 * p + 1) = nI (S 2 p) ∧ τ 1 (3 * p + 2) = nI (S 3 p)) ∧
  (∀ f, f < 9 → τ 3 (6 * f) = nI (S 5 f) ∧ τ 3 (6 * f + 1) = nI (S 6 f) ∧ (∀ i, i < 3 → τ 3 (6 * f + 2 + i) = nI (S 7 (3 * f + i))) ∧ τ 3 (6 * f + 5) = nI (S 8 f)) ∧
  (∀ j, j < 100 → τ 2 j = nI (S 9 j) ∧ τ 2 (100 + j) = nI (S 10 j)) ∧
  (τ 0 3 = nI (bN (fun f => decide (0 < S 4 f)) 9) ∧ τ 0 4 = nI (S 11 0) ∧ τ 0 5 = nI (S 11 1) ∧ τ 0 6 = nI (S 11 2) ∧ τ 0 16 = nI (S 11 3)) ∧
  (∀ j, j < S 11 2 → τ 4 j = nI (S 12 j)) ∧
  (∀ b, b < S 11 3 → τ 6 (11 * b) = nI (S 13 b) ∧ (∀ i, i < 3 → τ 6 (11 * b + 1 + i) = nI (S 14 (3 * b + i))) ∧ τ 6 (11 * b + 4) = nI (S 15 b) ∧ τ 6 (11 * b + 5) = nI (S 16 b) ∧ τ 6 (11 * b + 6) = nI (S 17 b) ∧ τ 6 (11 * b + 7) = nI (S 18 b) ∧ τ 6 (11 * b + 8) = nI (S 19 b) ∧ τ 6 (11 * b + 9) = nI (S 20 b) - 1 ∧ τ 6 (11 * b + 10) = nI (S 21 b) - 1) ∧
  (∀ p f, p < 10 → f < 9 → τ 17 (10 * f + p) = nI (S 22 (9 * p + f)) ∧ τ 18 (10 * f + p) = nI (S 23 (9 * p + f)))
/-- the row of strikes up from b: so many steps -/
def up1 (S : aS) (b : Nat) : Nat := S 20 b - 1
def Inv (S : aS) : Prop :=
  (∀ p, p < 10 → S 1 p ≤ S 2 p ∧ S 2 p ≤ 9999 ∧ 1 ≤ S 3 p ∧ S 3 p ≤ 999) ∧
  (∀ f, f < 9 → S 4 f ≤ 1 ∧ S 5 f ≤ 9 ∧ S 6 f ≤ 9999 ∧ (∀ i, i < 3 → S 7 (3 * f + i) ≤ 999) ∧ S 8 f ≤ 99) ∧
  (∀ j, j < 100 → S 9 j ≤ 999 ∧ S 10 j ≤ 999) ∧
  (S 11 0 ≤ 999 ∧ S 11 1 ≤ 999 ∧ S 11 2 ≤ 200 ∧ S 11 3 ≤ 12) ∧
  (∀ j, j < S 11 2 → S 12 j ≤ 255) ∧
  (∀ b, b < S 11 3 → S 13 b ≤ 9 ∧ (∀ i, i < 3 → S 14 (3 * b + i) ≤ 999) ∧ 1 ≤ S 15 b ∧ S 15 b ≤ 99 ∧ 1 ≤ S 16 b ∧ S 16 b ≤ 999 ∧ S 17 b ≤ 99 ∧ S 18 b ≤ 999 ∧ S 19 b ≤ 999 ∧ (0 < S 19 b → S 19 b < S 18 b) ∧ S 20 b ≤ S 11 3 ∧ S 21 b ≤ 10000) ∧
  (∀ b, S 11 3 ≤ b → b < 12 → S 18 b = 0 ∧ S 19 b = 0) ∧
  (∀ p f, p < 10 → f < 9 → S 22 (9 * p + f) ≤ S 23 (9 * p + f) ∧ S 23 (9 * p + f) ≤ 999) ∧
  (∃ rk : Nat → Nat, ∀ b, b < S 11 3 → rk b < 12 ∧ (0 < S 20 b → rk (S 20 b - 1) < rk b))
def Ag (a b : Option (Int32 × zS)) (S : aS) : Prop := ∃ (r : Int32) (σ τ : zS), a = some (r, σ) ∧ b = some (r, τ) ∧ RA σ S ∧ RB τ S ∧ Inv S
theorem Ag.mk {r : Int32} {σ τ : zS} {S : aS} {a b : Option (Int32 × zS)} (h1 : a = some (r, σ)) (h2 : b = some (r, τ)) (h3 : RA σ S) (h4 : RB τ S) (h5 : Inv S) : Ag a b S := ⟨r, σ, τ, h1, h2, h3, h4, h5⟩
section ACC
variable {σ : zS} {S : aS}
theorem RA.row (h : RA σ S) (k c n : Nat) (hq : (k, c, n) ∈ rowsA) {j : Nat} (hj : j < n) : σ k j = nI (S c j) := h.1 (k, c, n) hq j hj
theorem RA.near (h : RA σ S) : σ 4 12 = nI (S 11 0) := h.2.1.1
theorem RA.far (h : RA σ S) : σ 4 13 = nI (S 11 1) := h.2.1.2.1
theorem RA.len (h : RA σ S) : σ 1 1 = nI (S 11 2) := h.2.1.2.2.1
theorem RA.many (h : RA σ S) : σ 17 0 = nI (S 11 3) := h.2.1.2.2.2
theorem RA.txt (h : RA σ S) {j : Nat} (hj : j < S 11 2) : σ 2 j = nI (S 12 j) := h.2.2.1 j hj
theorem RA.fr (h : RA σ S) {b : Nat} (hb : b < S 11 3) : σ 25 b = nI (S 20 b) - 1 := (h.2.2.2.1 b hb).1
theorem RA.dt (h : RA σ S) {b : Nat} (hb : b < S 11 3) : σ 26 b = nI (S 21 b) - 1 := (h.2.2.2.1 b hb).2
theorem Inv.n12 (h : Inv S) : S 11 3 ≤ 12 := h.2.2.2.1.2.2.2
theorem Inv.l200 (h : Inv S) : S 11 2 ≤ 200 := h.2.2.2.1.2.2.1
theorem Inv.near (h : Inv S) : S 11 0 ≤ 999 := h.2.2.2.1.1
theorem Inv.far (h : Inv S) : S 11 1 ≤ 999 := h.2.2.2.1.2.1
theorem Inv.pl (h : Inv S) {p : Nat} (hp : p < 10) : S 1 p ≤ S 2 p ∧ S 2 p ≤ 9999 ∧ 1 ≤ S 3 p ∧ S 3 p ≤ 999 := h.1 p hp
theorem Inv.fl (h : Inv S) {f : Nat} (hf : f < 9) : S 4 f ≤ 1 ∧ S 5 f ≤ 9 ∧ S 6 f ≤ 9999 ∧ (∀ i, i < 3 → S 7 (3 * f + i) ≤ 999) ∧ S 8 f ≤ 99 := h.2.1 f hf
theorem Inv.wy (h : Inv S) {j : Nat} (hj : j < 100) : S 9 j ≤ 999 ∧ S 10 j ≤ 999 := h.2.2.1 j hj
theorem Inv.tx (h : Inv S) {j : Nat} (hj : j < S 11 2) : S 12 j ≤ 255 := h.2.2.2.2.1 j hj
theorem Inv.bl (h : Inv S) {b : Nat} (hb : b < S 11 3) : S 13 b ≤ 9 ∧ (∀ i, i < 3 → S 14 (3 * b + i) ≤ 999) ∧ 1 ≤ S 15 b ∧ S 15 b ≤ 99 ∧ 1 ≤ S 16 b ∧ S 16 b ≤ 999 ∧ S 17 b ≤ 99 ∧ S 18 b ≤ 999 ∧ S 19 b ≤ 999 ∧ (0 < S 19 b → S 19 b < S 18 b) ∧ S 20 b ≤ S 11 3 ∧ S 21 b ≤ 10000 := h.2.2.2.2.2.1 b hb
theorem Inv.cnt (h : Inv S) {p f : Nat} (hp : p < 10) (hf : f < 9) : S 22 (9 * p + f) ≤ S 23 (9 * p + f) ∧ S 23 (9 * p + f) ≤ 999 := h.2.2.2.2.2.2.2.1 p f hp hf
end ACC
