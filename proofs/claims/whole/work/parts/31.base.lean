/-! PURE: tests of arguments -/
theorem ifz {α : Type} {c : Prop} [Decidable c] {X Y : α} : (if (if c then (1 : Int32) else 0) = 0 then X else Y) = if c then Y else X := by
  by_cases h : c
  · rw [if_pos h, if_pos h, if_neg (by decide)]
  · rw [if_neg h, if_neg h, if_pos rfl]
theorem zrb_if {c : Prop} [Decidable c] {σ : zS} : zrb (if c then 1 else 0) σ = some (if c then 1 else 0, σ) := by
  by_cases h : c
  · rw [if_pos h]; exact if_pos (by decide)
  · rw [if_neg h]; exact if_pos (by decide)
theorem isWithinA (x a b : Int32) (σ : zS) : f_X9_isWithin x a b σ = some (if a.toInt ≤ x.toInt ∧ x.toInt ≤ b.toInt then 1 else 0, σ) := by
  unfold f_X9_isWithin
  by_cases h1 : x < a
  · rw [if_pos h1, if_neg (by rw [qlt] at h1; omega)]
  · rw [if_neg h1]
    by_cases h2 : b < x
    · rw [if_pos h2, if_neg (by rw [qlt] at h2; omega)]
    · rw [if_neg h2, if_pos (by rw [qlt] at h1 h2; omega)]
theorem inB (x a b : Int32) (σ : zS) : f_X10_in x a b σ = some (if a.toInt ≤ x.toInt ∧ x.toInt ≤ b.toInt then 1 else 0, σ) := by
  unfold f_X10_in
  by_cases h1 : x < a
  · rw [if_pos h1, if_neg (by rw [qlt] at h1; omega)]
  · rw [if_neg h1]
    by_cases h2 : b < x
    · rw [if_pos h2, if_neg (by rw [qlt] at h2; omega)]
    · rw [if_neg h2, if_pos (by rw [qlt] at h1 h2; omega)]
theorem ifc {α : Type} {c d : Prop} [Decidable c] [Decidable d] (h : c ↔ d) {X Y : α} : (if c then X else Y) = if d then X else Y := by
  by_cases hd : d
  · rw [if_pos hd, if_pos (h.mpr hd)]
  · rw [if_neg hd, if_neg (fun hc => hd (h.mp hc))]
theorem isPlaceA (x : Int32) (σ : zS) : f_X9_isPlace x σ = some (if vd x 10 then 1 else 0, σ) := by
  unfold f_X9_isPlace
  rw [isWithinA, zbd_s, zrb_if]
  rw [ifc (show ((0 : Int32).toInt ≤ x.toInt ∧ x.toInt ≤ (9 : Int32).toInt) ↔ vd x 10 by
    have e0 : (0 : Int32).toInt = 0 := rfl
    have e9 : (9 : Int32).toInt = 9 := rfl
    unfold vd; rw [e0, e9]; omega)]
theorem isPlaceB (x : Int32) (σ : zS) : f_X10_isPlace x σ = some (if vd x 10 then 1 else 0, σ) := by
  unfold f_X10_isPlace
  rw [inB, zbd_s, zrb_if]
  rw [ifc (show ((0 : Int32).toInt ≤ x.toInt ∧ x.toInt ≤ (9 : Int32).toInt) ↔ vd x 10 by
    have e0 : (0 : Int32).toInt = 0 := rfl
    have e9 : (9 : Int32).toInt = 9 := rfl
    unfold vd; rw [e0, e9]; omega)]
theorem nI_m1 {n : Nat} (h : n < 2147483648) : (nI n - 1).toInt = (n : Int) - 1 := by
  cases n with
  | zero => rfl
  | succ k => rw [nI_pred, qti (by omega)]; omega
theorem hasA {σ : zS} {S : aS} (hA : RA σ S) (hI : Inv S) (x : Int32) : f_X0_has x σ = some (if vd x (S 11 3) then 1 else 0, σ) := by
  have hn := hI.n12
  unfold f_X0_has
  rw [isWithinA, zbd_s, zrb_if, hA.many]
  rw [ifc (show ((0 : Int32).toInt ≤ x.toInt ∧ x.toInt ≤ (nI (S 11 3) - 1).toInt) ↔ vd x (S 11 3) by
    have e0 : (0 : Int32).toInt = 0 := rfl
    unfold vd; rw [e0, nI_m1 (by omega)]; omega)]
section BACC
variable {τ : zS} {S : aS}
theorem RB.pl (h : RB τ S) {p : Nat} (hp : p < 10) : τ 1 (3 * p) = nI (S 1 p) ∧ τ 1 (3 * p + 1) = nI (S 2 p) ∧ τ 1 (3 * p + 2) = nI (S 3 p) := h.1 p hp
theorem RB.fl (h : RB τ S) {f : Nat} (hf : f < 9) : τ 3 (6 * f) = nI (S 5 f) ∧ τ 3 (6 * f + 1) = nI (S 6 f) ∧ (∀ i, i < 3 → τ 3 (6 * f + 2 + i) = nI (S 7 (3 * f + i))) ∧ τ 3 (6 * f + 5) = nI (S 8 f) := h.2.1 f hf
theorem RB.wy (h : RB τ S) {j : Nat} (hj : j < 100) : τ 2 j = nI (S 9 j) ∧ τ 2 (100 + j) = nI (S 10 j) := h.2.2.1 j hj
theorem RB.told (h : RB τ S) : τ 0 3 = nI (bN (fun f => decide (0 < S 4 f)) 9) := h.2.2.2.1.1
theorem RB.near (h : RB τ S) : τ 0 4 = nI (S 11 0) := h.2.2.2.1.2.1
theorem RB.far (h : RB τ S) : τ 0 5 = nI (S 11 1) := h.2.2.2.1.2.2.1
theorem RB.len (h : RB τ S) : τ 0 6 = nI (S 11 2) := h.2.2.2.1.2.2.2.1
theorem RB.many (h : RB τ S) : τ 0 16 = nI (S 11 3) := h.2.2.2.1.2.2.2.2
theorem RB.txt (h : RB τ S) {j : Nat} (hj : j < S 11 2) : τ 4 j = nI (S 12 j) := h.2.2.2.2.1 j hj
theorem RB.bl (h : RB τ S) {b : Nat} (hb : b < S 11 3) : τ 6 (11 * b) = nI (S 13 b) ∧ (∀ i, i < 3 → τ 6 (11 * b + 1 + i) = nI (S 14 (3 * b + i))) ∧ τ 6 (11 * b + 4) = nI (S 15 b) ∧ τ 6 (11 * b + 5) = nI (S 16 b) ∧ τ 6 (11 * b + 6) = nI (S 17 b) ∧ τ 6 (11 * b + 7) = nI (S 18 b) ∧ τ 6 (11 * b + 8) = nI (S 19 b) ∧ τ 6 (11 * b + 9) = nI (S 20 b) - 1 ∧ τ 6 (11 * b + 10) = nI (S 21 b) - 1 := h.2.2.2.2.2.1 b hb
theorem RB.cnt (h : RB τ S) {p f : Nat} (hp : p < 10) (hf : f < 9) : τ 17 (10 * f + p) = nI (S 22 (9 * p + f)) ∧ τ 18 (10 * f + p) = nI (S 23 (9 * p + f)) := h.2.2.2.2.2.2 p f hp hf
end BACC
theorem isBladeB {τ : zS} {S : aS} (hB : RB τ S) (hI : Inv S) (x : Int32) : f_X10_isBlade x τ = some (if vd x (S 11 3) then 1 else 0, τ) := by
  have hn := hI.n12
  unfold f_X10_isBlade
  rw [inB, zbd_s, zrb_if, hB.many]
  rw [ifc (show ((0 : Int32).toInt ≤ x.toInt ∧ x.toInt ≤ (nI (S 11 3) - 1).toInt) ↔ vd x (S 11 3) by
    have e0 : (0 : Int32).toInt = 0 := rfl
    unfold vd; rw [e0, nI_m1 (by omega)]; omega)]
/-! bits -/
theorem sl31 : ∀ n, n < 32 → ((nI n &&& 31).toBitVec.smod 32).toNat = n := by decide +kernel
theorem shrN {N i : Nat} (hN : N < 2147483648) (hi : i < 32) : nI N >>> (nI i &&& 31) = nI (N / 2 ^ i) := pk_shrN hN _ i (sl31 i hi)
theorem and1N {N : Nat} (h : N < 4294967296) : nI N &&& 1 = nI (N % 2) := pk_andN h 1 rfl
theorem bitN {N i : Nat} (hN : N < 2147483648) (hi : i < 32) : (nI N >>> (nI i &&& 31)) &&& 1 = nI (N / 2 ^ i % 2) := by
  rw [shrN hN hi, and1N]
  exact Nat.lt_of_le_of_lt (Nat.div_le_self _ _) (by omega)
theorem shl1N {i : Nat} (hi : i < 31) : (1 : Int32) <<< (nI i &&& 31) = nI (2 ^ i) := by
  have h : 1 * 2 ^ i < 2 ^ 32 := by
    rw [Nat.one_mul]
    exact Nat.pow_lt_pow_right (by omega) (by omega)
  have := pk_shlN (n := 1) (nI i &&& 31) i (sl31 i (by omega)) h
  rw [Nat.one_mul] at this
  exact this
theorem bN_lt (p : Nat → Bool) : ∀ n, bN p n < 2 ^ n
  | 0 => by simp [bN]
  | n + 1 => by
    have h := bN_lt p n
    rw [bN, Nat.pow_succ]
    split <;> omega
theorem bN_bit (p : Nat → Bool) : ∀ n i, i < n → bN p n / 2 ^ i % 2 = if p i then 1 else 0
  | 0, i, h => absurd h (Nat.not_lt_zero i)
  | n + 1, i, h => by
    have hl := bN_lt p n
    rw [bN]
    by_cases hi : i = n
    · subst hi
      by_cases hp : p i = true
      · rw [if_pos hp, if_pos hp, Nat.add_div_right _ (Nat.pow_pos (by omega)), Nat.div_eq_of_lt hl]
      · rw [if_neg hp, if_neg hp, Nat.add_zero, Nat.div_eq_of_lt hl]
    · have ih := bN_bit p n i (by omega)
      by_cases hp : p n = true
      · have e : 2 ^ n = 2 ^ i * (2 * 2 ^ (n - i - 1)) := by
          rw [← Nat.pow_succ', ← Nat.pow_add]
          congr 1
          omega
        rw [if_pos hp, e, Nat.add_mul_div_left _ _ (Nat.pow_pos (by omega)), Nat.add_mul_mod_self_left]
        exact ih
      · rw [if_neg hp, Nat.add_zero]
        exact ih
theorem orN {a i : Nat} (h : a < 2 ^ i) : nI a ||| nI (2 ^ i) = nI (a + 2 ^ i) := by
  apply Int32.toBitVec_inj.1
  show BitVec.ofNat 32 a ||| BitVec.ofNat 32 (2 ^ i) = BitVec.ofNat 32 (a + 2 ^ i)
  rw [← BitVec.ofNat_or]
  congr 1
  have := Nat.two_pow_add_eq_or_of_lt h 1
  rw [Nat.mul_one] at this
  rw [Nat.or_comm, ← this, Nat.add_comm]
theorem bN_or {p : Nat → Bool} {i : Nat} (hp : p i = true) : nI (bN p i) ||| nI (2 ^ i) = nI (bN p (i + 1)) := by
  rw [orN (bN_lt p i), bN, if_pos hp]
theorem bN_no {p : Nat → Bool} {i : Nat} (hp : ¬ p i = true) : bN p (i + 1) = bN p i := by
  rw [bN, if_neg hp, Nat.add_zero]
theorem bN_31 (p : Nat → Bool) {n : Nat} (h : n ≤ 12) : bN p n < 4096 := Nat.lt_of_lt_of_le (bN_lt p n) (Nat.le_trans (Nat.pow_le_pow_right (by omega) h) (by decide))
theorem bN_test (p : Nat → Bool) {n i : Nat} (hn : n ≤ 12) (hi : i < n) : (nI (bN p n) >>> (nI i &&& 31)) &&& 1 = if p i then 1 else 0 := by
  have := bN_31 p hn
  rw [bitN (by omega) (by omega), bN_bit p n i hi]
  split <;> rfl
theorem bN_high (p : Nat → Bool) {n i : Nat} (hi : n ≤ i) : bN p n / 2 ^ i % 2 = 0 := by
  rw [Nat.div_eq_of_lt (Nat.lt_of_lt_of_le (bN_lt p n) (Nat.pow_le_pow_right (by omega) hi))]
theorem bN_test0 (p : Nat → Bool) {n i : Nat} (hn : n ≤ 12) (h : n ≤ i) (hi : i < 32) : (nI (bN p n) >>> (nI i &&& 31)) &&& 1 = 0 := by
  have := bN_31 p hn
  rw [bitN (by omega) hi, bN_high p h]
  rfl
theorem hasBitA (p : Nat → Bool) {n i : Nat} (hn : n ≤ 12) (hi : i < n) (σ : zS) : f_X9_hasBit (nI (bN p n)) (nI i) σ = some (if p i then 1 else 0, σ) := by
  unfold f_X9_hasBit
  rw [bN_test p hn hi, ifz]
  split <;> rfl
/-- a flow that is told -/
abbrev tl (S : aS) (x : Int32) : Prop := vd x 9 ∧ 0 < S 4 x.toInt.toNat
theorem nI_z {n : Nat} (h : n < 2147483648) : nI n = 0 ↔ n = 0 := by rw [q0, qeq_n h (by omega)]
theorem isToldA {σ : zS} {S : aS} (hA : RA σ S) (hI : Inv S) (x : Int32) : f_X3_isTold x σ = some (if tl S x then 1 else 0, σ) := by
  unfold f_X3_isTold
  rw [isWithinA, zbd_s, ifz]
  have e0 : (0 : Int32).toInt = 0 := rfl
  have e8 : (8 : Int32).toInt = 8 := rfl
  by_cases h : vd x 9
  · obtain ⟨f, hf, rfl⟩ := vd_of h
    have h4 := (hI.fl hf).1
    rw [if_pos (by unfold vd at h; rw [e0, e8]; omega), zrd_n hf (by omega), hA.row 8 4 9 (by decide) hf]
    have ht : (nI f).toInt.toNat = f := by rw [qti (by omega)]; rfl
    by_cases h0 : S 4 f = 0
    · rw [if_pos (by rw [h0]; rfl), if_neg (by intro z; have := z.2; rw [ht] at this; omega)]
    · rw [if_neg (by rw [nI_z (by omega)]; exact h0), if_pos ⟨h, by rw [ht]; omega⟩]
  · rw [if_neg (by unfold vd at h; rw [e0, e8]; omega), if_neg (fun z => h z.1)]
theorem isFlowB {τ : zS} {S : aS} (hB : RB τ S) (x : Int32) : f_X10_isFlow x τ = some (if tl S x then 1 else 0, τ) := by
  unfold f_X10_isFlow
  rw [inB, zbd_s, ifz]
  have e0 : (0 : Int32).toInt = 0 := rfl
  have e8 : (8 : Int32).toInt = 8 := rfl
  by_cases h : vd x 9
  · obtain ⟨f, hf, rfl⟩ := vd_of h
    rw [if_pos (by unfold vd at h; rw [e0, e8]; omega), hB.told, bN_test _ (by omega) hf]
    have ht : (nI f).toInt.toNat = f := by rw [qti (by omega)]; rfl
    by_cases h0 : 0 < S 4 f
    · have h2 : (if decide (0 < S 4 f) = true then (1 : Int32) else 0) = 1 := if_pos (decide_eq_true h0)
      rw [if_pos h2, if_pos ⟨h, by rw [ht]; exact h0⟩]
    · have h2 : (if decide (0 < S 4 f) = true then (1 : Int32) else 0) = 0 := if_neg (by simpa using h0)
      rw [h2, if_neg (by decide), if_neg (by intro z; have := z.2; rw [ht] at this; exact h0 this)]
  · rw [if_neg (by unfold vd at h; rw [e0, e8]; omega), if_neg (fun z => h z.1)]
theorem tl_of {S : aS} {x : Int32} (h : tl S x) : ∃ f, f < 9 ∧ x = nI f ∧ 0 < S 4 f := by
  obtain ⟨f, hf, rfl⟩ := vd_of h.1
  refine ⟨f, hf, rfl, ?_⟩
  have := h.2
  rw [qti (by omega)] at this
  exact this
theorem atB {τ : zS} {b k : Nat} (hb : b < 12) (hk : k < 11) {x y : Int32} (hx : x = nI b) (hy : y = nI k) : f_X10_at x y τ = some (τ 6 (11 * b + k), τ) := by
  unfold f_X10_at
  rw [zrd_i (j := 11 * b + k) (by rw [hx, hy, q11, pk_mul, nI_add]) (by omega) (by omega)]
