/-! PURE: off, can, named, next -/
def dN (a b : Nat) : Nat := if a ≤ b then b - a else a - b
theorem zabs_d {a b : Nat} (ha : a < 1000000000) (hb : b < 1000000000) : zabs (nI a - nI b) = nI (dN a b) := by
  have e : (nI a - nI b).toInt = (a : Int) - b := pk_sub_toInt (by omega) (by omega)
  have ea := qti (n := a) (by omega)
  have eb := qti (n := b) (by omega)
  unfold zabs dN
  by_cases h : a ≤ b
  · by_cases h2 : a = b
    · subst h2
      rw [if_pos (by rw [qle, e, t0]; omega), if_pos (Nat.le_refl _), pk_sub (Nat.le_refl a)]
    · rw [if_neg (by rw [qle, e, t0]; omega), if_pos h]
      have e2 : (0 : Int32) - (nI a - nI b) = nI b - nI a := by
        rw [Int32.zero_sub, Int32.neg_sub]
      rw [e2, pk_sub (by omega)]
  · rw [if_pos (by rw [qle, e, t0]; omega), if_neg h, pk_sub (by omega)]
theorem zmax_n {a b : Nat} (ha : a < 2147483648) (hb : b < 2147483648) : zmax (nI a) (nI b) = nI (max a b) := by
  unfold zmax
  by_cases h : a < b
  · rw [if_pos ((qlt_n ha hb).mpr h), Nat.max_eq_right (by omega)]
  · rw [if_neg (fun z => h ((qlt_n ha hb).mp z)), Nat.max_eq_left (by omega)]
theorem zmin_n {a b : Nat} (ha : a < 2147483648) (hb : b < 2147483648) : zmin (nI a) (nI b) = nI (min a b) := by
  unfold zmin
  by_cases h : b < a
  · rw [if_pos ((qlt_n hb ha).mpr h), Nat.min_eq_right (by omega)]
  · rw [if_neg (fun z => h ((qlt_n hb ha).mp z)), Nat.min_eq_left (by omega)]
theorem cutA {a d : Nat} (ha : a < 2147483648) (h0 : 0 < d) (hd : d < 2147483648) (σ : zS) : f_X9_cut (nI a) (nI d) σ = some (nI (a / d), σ) := by
  unfold f_X9_cut
  rw [if_neg (by rw [q0, qle_n hd (by omega)]; omega), zdv_n (by rw [nI_z hd]; omega), pk_div ha h0 hd]
def dfN (S : aS) (b f i : Nat) : Nat := dN (S 14 (3 * b + i)) (S 7 (3 * f + i))
def offN (S : aS) (b f : Nat) : Nat := 10 * max (dfN S b f 0) (max (dfN S b f 1) (dfN S b f 2)) / (S 15 b + S 8 f)
theorem dfN_le {S : aS} (hI : Inv S) {b f i : Nat} (hb : b < S 11 3) (hf : f < 9) (hi : i < 3) : dfN S b f i ≤ 999 := by
  have h1 := (hI.bl hb).2.1 i hi
  have h2 := (hI.fl hf).2.2.2.1 i hi
  unfold dfN dN
  split <;> omega
theorem max_div {a b d : Nat} : max (a / d) (b / d) = max a b / d := by
  rcases Nat.le_total a b with h | h
  · rw [Nat.max_eq_right h, Nat.max_eq_right (Nat.div_le_div_right h)]
  · rw [Nat.max_eq_left h, Nat.max_eq_left (Nat.div_le_div_right h)]
section GLASS
variable {σ τ : zS} {S : aS}
theorem offA (hA : RA σ S) (hI : Inv S) {b f : Nat} (hb : b < S 11 3) (hf : f < 9) : f_X2_offBetween (nI b) (nI f) σ = some (nI (offN S b f), σ) := by
  have hn := hI.n12
  have ixb : ∀ i, nI b * 3 + nI i = nI (3 * b + i) := fun i => by rw [q3, pk_mul, nI_add, Nat.mul_comm]
  have ixf : ∀ i, nI f * 3 + nI i = nI (3 * f + i) := fun i => by rw [q3, pk_mul, nI_add, Nat.mul_comm]
  have hs := (hI.bl hb).2.1
  have hst := (hI.fl hf).2.2.2.1
  have step : ∀ (n k m : Nat), k < 3 → m ≤ 999 → f_X2_offBetween_L5 (nI b) (nI f) (n + 1) (nI m) (nI k) σ = f_X2_offBetween_L5 (nI b) (nI f) n (nI (max m (dfN S b f k))) (nI (k + 1)) σ := by
    intro n k m hk hm
    have h1 := hs k hk
    have h2 := hst k hk
    have hd := dfN_le hI hb hf hk
    rw [f_X2_offBetween_L5, if_neg (by rw [q3, qle_n (by omega) (by omega)]; omega), zrd_i (ixb k) (by omega) (by omega), zrd_i (ixf k) (by omega) (by omega), hA.row 19 14 36 (by decide) (by omega), hA.row 11 7 27 (by decide) (by omega), zabs_d (by omega) (by omega), nI_1]
    show f_X2_offBetween_L5 (nI b) (nI f) n (zmax (nI m) (nI (dfN S b f k))) (nI (k + 1)) σ = _
    rw [zmax_n (by omega) (by omega)]
  have d0 := dfN_le hI hb hf (i := 0) (by omega)
  have d1 := dfN_le hI hb hf (i := 1) (by omega)
  have d2 := dfN_le hI hb hf (i := 2) (by omega)
  have h15 := (hI.bl hb).2.2
  have h8 := (hI.fl hf).2.2.2.2
  show f_X2_offBetween_L5 (nI b) (nI f) (4092 + 1 + 1 + 1 + 1) (nI 0) (nI 0) σ = _
  rw [step _ 0 0 (by omega) (by omega), step _ 1 _ (by omega) (by omega), step _ 2 _ (by omega) (by omega)]
  rw [f_X2_offBetween_L5, if_pos (by decide), zrd_n (by omega) (by omega), zrd_n hf (by omega), hA.row 20 15 12 (by decide) (by omega), hA.row 12 8 9 (by decide) hf, nI_add, q10, pk_mul, cutA (by omega) (by omega) (by omega), zbd_s]
  unfold offN
  rw [Nat.max_assoc, Nat.max_assoc, Nat.max_eq_right (Nat.zero_le _)]
theorem offB (hB : RB τ S) (hI : Inv S) {b f : Nat} (hb : b < S 11 3) (hf : f < 9) : f_X10_offOf (nI b) (nI f) τ = some (nI (offN S b f), τ) := by
  have hn := hI.n12
  have hs := (hI.bl hb).2.1
  have hst := (hI.fl hf).2.2.2.1
  have h15 := (hI.bl hb).2.2
  have h8 := (hI.fl hf).2.2.2.2
  obtain ⟨d, hd0⟩ : ∃ d, d = S 15 b + S 8 f := ⟨_, rfl⟩
  have step : ∀ (n k m : Nat), k < 3 → m ≤ 9990 → f_X10_offOf_L5 (nI b) (nI f) (n + 1) (nI m) (nI k) τ = f_X10_offOf_L5 (nI b) (nI f) n (nI (max m (10 * dfN S b f k / d))) (nI (k + 1)) τ := by
    intro n k m hk hm
    have h1 := hs k hk
    have h2 := hst k hk
    have hd := dfN_le hI hb hf hk
    have hq : 10 * dfN S b f k / d ≤ 9990 := Nat.le_trans (Nat.div_le_self _ _) (by omega)
    have ey : 1 + nI k = nI (1 + k) := by rw [q1, nI_add]
    have ix : 6 * nI f + 2 + nI k = nI (6 * f + 2 + k) := by rw [q6, q2, pk_mul, nI_add, nI_add]
    have esl : τ 6 (11 * b + (1 + k)) = nI (S 14 (3 * b + k)) := by rw [← Nat.add_assoc]; exact (hB.bl hb).2.1 k hk
    rw [f_X10_offOf_L5, if_neg (by rw [q3, qle_n (by omega) (by omega)]; omega), atB (x := nI b) (b := b) (k := 1 + k) (by omega) (by omega) rfl ey, zbd_s, zrd_i ix (by omega) (by omega), esl, (hB.fl hf).2.2.1 k hk]
    have jj : ∀ s0, s0 = nI (dfN S b f k) → f_X10_offOf_J52 (fun x3 x4 σ => f_X10_offOf_L5 (nI b) (nI f) n x3 x4 σ) (nI b) (nI f) (nI m) (nI k) s0 10 τ = f_X10_offOf_L5 (nI b) (nI f) n (nI (max m (10 * dfN S b f k / d))) (nI (k + 1)) τ := by
      intro s0 hs0
      rw [f_X10_offOf_J52, hs0, atB (x := nI b) (y := 4) (b := b) (k := 4) (by omega) (by omega) rfl rfl, zbd_s, (hB.bl hb).2.2.1, zrd_i (x := 6 * nI f + 5) (j := 6 * f + 5) (ix1 6 f 5) (by omega) (by omega), (hB.fl hf).2.2.2, nI_add, ← hd0, zdv_n (by rw [nI_z (by omega)]; omega), q10, pk_mul, pk_div (by omega) (by omega) (by omega), nI_1]
      by_cases hc : 10 * dfN S b f k / d ≤ m
      · rw [if_pos ((qle_n (by omega) (by omega)).mpr hc), Nat.max_eq_left hc]
      · rw [if_neg (fun z => hc ((qle_n (by omega) (by omega)).mp z)), Nat.max_eq_right (by omega)]
    have e : (nI (S 14 (3 * b + k)) - nI (S 7 (3 * f + k))).toInt = (S 14 (3 * b + k) : Int) - S 7 (3 * f + k) := pk_sub_toInt (by omega) (by omega)
    by_cases hc : S 7 (3 * f + k) ≤ S 14 (3 * b + k)
    · rw [if_pos (by rw [qle, e, t0]; omega)]
      refine jj _ ?_
      rw [pk_sub hc]
      unfold dfN dN
      by_cases h3 : S 14 (3 * b + k) ≤ S 7 (3 * f + k)
      · rw [if_pos h3]; congr 1; omega
      · rw [if_neg h3]
    · rw [if_neg (by rw [qle, e, t0]; omega)]
      refine jj _ ?_
      rw [Int32.neg_sub, pk_sub (by omega)]
      unfold dfN dN
      rw [if_pos (by omega)]
  have d0 := dfN_le hI hb hf (i := 0) (by omega)
  have d1 := dfN_le hI hb hf (i := 1) (by omega)
  have d2 := dfN_le hI hb hf (i := 2) (by omega)
  have q0' : 10 * dfN S b f 0 / d ≤ 9990 := Nat.le_trans (Nat.div_le_self _ _) (by omega)
  have q1' : 10 * dfN S b f 1 / d ≤ 9990 := Nat.le_trans (Nat.div_le_self _ _) (by omega)
  have q2' : 10 * dfN S b f 2 / d ≤ 9990 := Nat.le_trans (Nat.div_le_self _ _) (by omega)
  show f_X10_offOf_L5 (nI b) (nI f) (4092 + 1 + 1 + 1 + 1) (nI 0) (nI 0) τ = _
  rw [step _ 0 0 (by omega) (by omega), step _ 1 _ (by omega) (by omega), step _ 2 _ (by omega) (by omega)]
  rw [f_X10_offOf_L5, if_pos (by decide)]
  unfold offN
  rw [Nat.max_assoc, Nat.max_assoc, Nat.max_eq_right (Nat.zero_le _), max_div, max_div, ← hd0, show max (10 * dfN S b f 0) (max (10 * dfN S b f 1) (10 * dfN S b f 2)) = 10 * max (dfN S b f 0) (max (dfN S b f 1) (dfN S b f 2)) by omega]
theorem offN_le (hI : Inv S) {b f : Nat} (hb : b < S 11 3) (hf : f < 9) : offN S b f ≤ 9990 := by
  have d0 := dfN_le hI hb hf (i := 0) (by omega)
  have d1 := dfN_le hI hb hf (i := 1) (by omega)
  have d2 := dfN_le hI hb hf (i := 2) (by omega)
  unfold offN
  exact Nat.le_trans (Nat.div_le_self _ _) (by omega)
theorem ag_off (hA : RA σ S) (hB : RB τ S) (hI : Inv S) (x1 x2 : Int32) : Ag (f_X9_off x1 x2 σ) (f_X10_off x1 x2 τ) S := by
  simp only [f_X9_off, f_X10_off, hasA hA hI, isBladeB hB hI, isToldA hA hI, isFlowB hB, zbd_s, ifz]
  by_cases h : vd x1 (S 11 3)
  · rw [if_pos h, if_pos h]
    by_cases g : tl S x2
    · rw [if_pos g, if_pos g]
      obtain ⟨b, hb, rfl⟩ := vd_of h
      obtain ⟨f, hf, rfl, h4⟩ := tl_of g
      rw [offA hA hI hb hf, offB hB hI hb hf, zbd_s, zbd_s]
      exact Ag.mk rfl rfl hA hB hI
    · rw [if_neg g, if_neg g]; exact Ag.mk rfl rfl hA hB hI
  · rw [if_neg h, if_neg h]; exact Ag.mk rfl rfl hA hB hI
/-- of which flows -/
def cb (S : aS) (b : Nat) : Nat → Bool := fun f => decide (0 < S 4 f) && decide (offN S b f ≤ S 11 0)
theorem canAL (hA : RA σ S) (hI : Inv S) {b : Nat} (hb : b < S 11 3) : ∀ (d n k : Nat), k + d = 9 → d < n → f_X2_canBeOf_L4 (nI b) n (nI (bN (cb S b) k)) (nI k) σ = some (nI (bN (cb S b) 9), σ)
  | 0, n + 1, k, h, _ => by
    have hk : k = 9 := by omega
    subst hk
    rw [f_X2_canBeOf_L4, if_pos (by decide)]
  | d + 1, n + 1, k, h, hn => by
    have hk : k < 9 := by omega
    have ih := canAL hA hI hb d n (k + 1) (by omega) (by omega)
    have h4 := (hI.fl hk).1
    have hnr := hI.near
    have ho := offN_le hI hb hk
    rw [f_X2_canBeOf_L4, if_neg (by rw [q9, qle_n (by omega) (by omega)]; omega), zrd_n hk (by omega), hA.row 8 4 9 (by decide) hk, nI_1]
    by_cases h0 : S 4 k = 0
    · rw [if_pos (by rw [h0]; rfl)]
      rw [bN_no (by unfold cb; simp [h0])] at ih
      exact ih
    · rw [if_neg (by rw [nI_z (by omega)]; exact h0), offA hA hI hb hk, zbd_s, hA.near]
      by_cases hc : S 11 0 < offN S b k
      · rw [if_pos ((qlt_n (by omega) (by omega)).mpr hc)]
        rw [bN_no (by unfold cb; simp; omega)] at ih
        exact ih
      · rw [if_neg (fun z => hc ((qlt_n (by omega) (by omega)).mp z)), shl1N (by omega), bN_or (by unfold cb; simp; omega)]
        exact ih
theorem canA (hA : RA σ S) (hI : Inv S) {b : Nat} (hb : b < S 11 3) : f_X2_canBeOf (nI b) σ = some (nI (bN (cb S b) 9), σ) := canAL hA hI hb 9 zfu 0 (by omega) (zfu_gt (by omega))
theorem or0 (x : Int32) : x ||| 0 = x := Int32.or_zero
theorem tl_n {f : Nat} (hf : f < 9) : tl S (nI f) ↔ 0 < S 4 f := by
  have ht : (nI f).toInt.toNat = f := by rw [qti (by omega)]; rfl
  unfold tl
  rw [ht]
  exact ⟨fun z => z.2, fun z => ⟨vd_n hf (by omega), z⟩⟩
theorem canBL (hB : RB τ S) (hI : Inv S) {b : Nat} (hb : b < S 11 3) : ∀ (d n k : Nat), k + d = 9 → d < n → f_X10_canBe_L4 (nI b) n (nI (bN (cb S b) k)) (nI k) τ = some (nI (bN (cb S b) 9), τ)
  | 0, n + 1, k, h, _ => by
    have hk : k = 9 := by omega
    subst hk
    rw [f_X10_canBe_L4, if_pos (by decide)]
  | d + 1, n + 1, k, h, hn => by
    have hk : k < 9 := by omega
    have ih := canBL hB hI hb d n (k + 1) (by omega) (by omega)
    have hnr := hI.near
    have ho := offN_le hI hb hk
    rw [f_X10_canBe_L4, if_neg (by rw [q9, qle_n (by omega) (by omega)]; omega), isFlowB hB, zbd_s, ifz, nI_1, or0]
    by_cases h0 : 0 < S 4 k
    · rw [if_pos ((tl_n hk).mpr h0), offB hB hI hb hk, zbd_s, hB.near]
      by_cases hc : S 11 0 < offN S b k
      · rw [if_pos ((qlt_n (by omega) (by omega)).mpr hc)]
        rw [bN_no (by unfold cb; simp; omega)] at ih
        exact ih
      · rw [if_neg (fun z => hc ((qlt_n (by omega) (by omega)).mp z)), shl1N (by omega), bN_or (by unfold cb; simp; omega)]
        exact ih
    · rw [if_neg (fun z => h0 ((tl_n hk).mp z))]
      rw [bN_no (by unfold cb; simp; omega)] at ih
      exact ih
theorem canB (hB : RB τ S) (hI : Inv S) {b : Nat} (hb : b < S 11 3) : f_X10_canBe (nI b) τ = some (nI (bN (cb S b) 9), τ) := canBL hB hI hb 9 zfu 0 (by omega) (zfu_gt (by omega))
theorem ag_can (hA : RA σ S) (hB : RB τ S) (hI : Inv S) (x1 : Int32) : Ag (f_X9_can x1 σ) (f_X10_can x1 τ) S := by
  simp only [f_X9_can, f_X10_can, hasA hA hI, isBladeB hB hI, zbd_s, ifz]
  by_cases h : vd x1 (S 11 3)
  · rw [if_pos h, if_pos h]
    obtain ⟨b, hb, rfl⟩ := vd_of h
    rw [canA hA hI hb, canB hB hI hb, zbd_s, zbd_s]
    exact Ag.mk rfl rfl hA hB hI
  · rw [if_neg h, if_neg h]; exact Ag.mk rfl rfl hA hB hI
def pcN (N : Nat) : Nat → Nat
  | 0 => 0
  | k + 1 => pcN N k + N / 2 ^ k % 2
theorem bc512 : ∀ N, N < 512 → ((f_J6_bitCount_0f7a4 (nI N) (fun _ _ => 0)).map (·.1)) = some (nI (pcN N 9)) := by decide +kernel
theorem pcN_bN (p : Nat → Bool) {n : Nat} : ∀ k, k ≤ n → pcN (bN p n) k = cN p k
  | 0, _ => rfl
  | k + 1, h => by rw [pcN, cN, pcN_bN p k (by omega), bN_bit p n k (by omega)]
theorem bitCountA (p : Nat → Bool) (σ : zS) : f_J6_bitCount_0f7a4 (nI (bN p 9)) σ = some (nI (cN p 9), σ) := by
  have h := bc512 (bN p 9) (bN_lt p 9)
  rw [pcN_bN p 9 (Nat.le_refl 9)] at h
  have e : f_J6_bitCount_0f7a4 (nI (bN p 9)) σ = ((f_J6_bitCount_0f7a4 (nI (bN p 9)) (fun _ _ => 0)).map (·.1)).map (fun v => (v, σ)) := rfl
  rw [e, h]
  rfl
theorem bitsB9 (p : Nat → Bool) (τ : zS) : f_X10_bits (nI (bN p 9)) τ = some (nI (cN p 9), τ) := by
  rw [← cN_12]
  exact bitsB p (by omega) 12 zfu 0 (by omega) (zfu_gt (by omega))
/-- the name, from the k-th flow on -/
def nmL (p bad : Nat → Bool) : Nat → Nat → Int32 → Int32
  | 0, _, acc => acc
  | d + 1, k, acc => if p k then nmL p bad d (k + 1) (nI k) else if bad k then -1 else nmL p bad d (k + 1) acc
def badN (S : aS) (b : Nat) : Nat → Bool := fun f => decide (0 < S 4 f) && decide (offN S b f < S 11 1)
theorem nameAL (hA : RA σ S) (hI : Inv S) {b : Nat} (hb : b < S 11 3) : ∀ (d n k : Nat) (acc : Int32), k + d = 9 → d < n → f_X2_nameOf_L21 (nI b) (nI (bN (cb S b) 9)) n acc (nI k) σ = some (nmL (cb S b) (badN S b) d k acc, σ)
  | 0, n + 1, k, acc, h, _ => by
    have hk : k = 9 := by omega
    subst hk
    rw [f_X2_nameOf_L21, if_pos (by decide)]
    rfl
  | d + 1, n + 1, k, acc, h, hn => by
    have hk : k < 9 := by omega
    have ih := nameAL hA hI hb d n (k + 1)
    have h4 := (hI.fl hk).1
    have hfr := hI.far
    have ho := offN_le hI hb hk
    rw [f_X2_nameOf_L21, if_neg (by rw [q9, qle_n (by omega) (by omega)]; omega), hasBitA _ (by omega) hk, zbd_s, ifz, nI_1, nmL]
    by_cases hp : cb S b k = true
    · rw [if_pos hp, if_pos hp]
      exact ih (nI k) (by omega) (by omega)
    · rw [if_neg hp, if_neg hp, zrd_n hk (by omega), hA.row 8 4 9 (by decide) hk]
      by_cases h0 : S 4 k = 0
      · rw [if_pos (by rw [h0]; rfl), if_neg (by unfold badN; simp [h0])]
        exact ih acc (by omega) (by omega)
      · rw [if_neg (by rw [nI_z (by omega)]; exact h0), offA hA hI hb hk, zbd_s, hA.far]
        by_cases hc : S 11 1 ≤ offN S b k
        · rw [if_pos ((qle_n (by omega) (by omega)).mpr hc), if_neg (by unfold badN; simp; omega)]
          exact ih acc (by omega) (by omega)
        · rw [if_neg (fun z => hc ((qle_n (by omega) (by omega)).mp z)), if_pos (by unfold badN; simp; omega)]
theorem nameBL (hB : RB τ S) (hI : Inv S) {b : Nat} (hb : b < S 11 3) : ∀ (d n k : Nat) (acc : Int32), k + d = 9 → d < n → f_X10_named_L32 (nI b) (nI (bN (cb S b) 9)) n acc (nI k) τ = some (nmL (cb S b) (badN S b) d k acc, τ)
  | 0, n + 1, k, acc, h, _ => by
    have hk : k = 9 := by omega
    subst hk
    rw [f_X10_named_L32, if_pos (by decide)]
    rfl
  | d + 1, n + 1, k, acc, h, hn => by
    have hk : k < 9 := by omega
    have ih := nameBL hB hI hb d n (k + 1)
    have hfr := hI.far
    have ho := offN_le hI hb hk
    rw [f_X10_named_L32, if_neg (by rw [q9, qle_n (by omega) (by omega)]; omega), bN_test _ (by omega) hk, nI_1, nmL]
    by_cases hp : cb S b k = true
    · rw [if_pos hp, if_pos rfl, if_pos hp]
      exact ih (nI k) (by omega) (by omega)
    · rw [if_neg hp, if_neg (by decide), if_neg hp, isFlowB hB, zbd_s, ifz]
      by_cases h0 : 0 < S 4 k
      · rw [if_pos ((tl_n hk).mpr h0), offB hB hI hb hk, zbd_s, hB.far]
        by_cases hc : S 11 1 ≤ offN S b k
        · rw [if_pos ((qle_n (by omega) (by omega)).mpr hc), if_neg (by unfold badN; simp; omega)]
          exact ih acc (by omega) (by omega)
        · rw [if_neg (fun z => hc ((qle_n (by omega) (by omega)).mp z)), if_pos (by unfold badN; simp; omega)]
      · rw [if_neg (fun z => h0 ((tl_n hk).mp z)), if_neg (by unfold badN; simp; omega)]
        exact ih acc (by omega) (by omega)
theorem ag_named (hA : RA σ S) (hB : RB τ S) (hI : Inv S) (x1 : Int32) : Ag (f_X9_named x1 σ) (f_X10_named x1 τ) S := by
  simp only [f_X9_named, f_X10_named, f_X2_nameOf, hasA hA hI, isBladeB hB hI, zbd_s, ifz]
  by_cases h : vd x1 (S 11 3)
  · rw [if_pos h, if_pos h]
    obtain ⟨b, hb, rfl⟩ := vd_of h
    rw [canA hA hI hb, canB hB hI hb, zbd_s, zbd_s, bitCountA, bitsB9, zbd_s, zbd_s]
    by_cases hc : nI (cN (cb S b) 9) = 1
    · rw [if_pos hc, if_pos hc]
      have ea := nameAL hA hI hb 9 zfu 0 (-1) (by omega) (zfu_gt (by omega))
      have eb := nameBL hB hI hb 9 zfu 0 (-1) (by omega) (zfu_gt (by omega))
      refine Ag.mk (r := nmL (cb S b) (badN S b) 9 0 (-1)) ?_ eb hA hB hI
      show zbd (f_X2_nameOf_L21 (nI b) (nI (bN (cb S b) 9)) zfu (-1) (nI 0) σ) _ = _
      rw [ea, zbd_s]
    · rw [if_neg hc, if_neg hc, zbd_s]
      exact Ag.mk rfl rfl hA hB hI
  · rw [if_neg h, if_neg h]; exact Ag.mk rfl rfl hA hB hI
/-! which to measure next -/
def ctN (S : aS) (b : Nat) : Nat := cN (cb S b) 9
def better (S : aS) (k c : Nat) : Bool := if c = 0 then decide (2 ≤ ctN S k) else decide (ctN S (c - 1) < ctN S k) || (decide (ctN S k = ctN S (c - 1)) && decide (S 15 (c - 1) < S 15 k))
def nxt (S : aS) : Nat → Nat → Nat → Nat
  | 0, _, c => c
  | d + 1, k, c => nxt S d (k + 1) (if better S k c then k + 1 else c)
theorem ctN_le (b : Nat) : ctN S b ≤ 9 := cN_le _ 9
theorem nextAL (hA : RA σ S) (hI : Inv S) : ∀ (d n k c : Nat), k + d = S 11 3 → d < n → c ≤ k → f_X2_nextToMeasure_L9 n (nI c - 1) (nI (if c = 0 then 2 else ctN S (c - 1))) (nI (if c = 0 then 0 else S 15 (c - 1))) (nI k) σ = some (nI (nxt S d k c) - 1, σ)
  | 0, n + 1, k, c, h, _, _ => by
    have hk : k = S 11 3 := by omega
    rw [f_X2_nextToMeasure_L9, hA.many, hk, if_pos (Int32.le_refl _)]
    rfl
  | d + 1, n + 1, k, c, h, hn, hc => by
    have h12 := hI.n12
    have hk : k < S 11 3 := by omega
    have ih := nextAL hA hI d n (k + 1)
    have h15 := (hI.bl hk).2.2
    have hct := ctN_le (S := S) k
    have hct2 := ctN_le (S := S) (c - 1)
    have key : f_X2_nextToMeasure_L9 n (nI k) (nI (ctN S k)) (nI (S 15 k)) (nI k + 1) σ = some (nI (nxt S d (k + 1) (k + 1)) - 1, σ) := by
      have := ih (k + 1) (by omega) (by omega) (by omega)
      rw [if_neg (by omega), if_neg (by omega), Nat.add_sub_cancel, nI_pred] at this
      rw [nI_1]
      exact this
    have keep := ih c (by omega) (by omega) (by omega)
    rw [f_X2_nextToMeasure_L9, hA.many, if_neg (by rw [qle_n (by omega) (by omega)]; omega), canA hA hI hk, zbd_s, bitCountA, zbd_s, zrd_n (by omega) (by omega), hA.row 20 15 12 (by decide) (by omega), nxt]
    show (if _ < nI (ctN S k) then _ else _) = _
    rw [f_X2_nextToMeasure_J62]
    by_cases hz : c = 0
    · rw [if_pos hz, if_pos hz] at keep ⊢
      unfold better
      rw [if_pos hz]
      by_cases h2 : 2 < ctN S k
      · rw [if_pos ((qlt_n (by omega) (by omega)).mpr h2), if_pos (by simp; omega)]
        exact key
      · rw [if_neg (fun z => h2 ((qlt_n (by omega) (by omega)).mp z))]
        by_cases h3 : ctN S k = 2
        · rw [if_pos (by show nI (ctN S k) = nI 2; rw [h3]), if_neg (by rw [qle_n (by omega) (by omega)]; omega), if_pos (by simp; omega)]
          exact key
        · rw [if_neg (by show ¬ nI (ctN S k) = nI 2; rw [qeq_n (by omega) (by omega)]; exact h3), if_neg (by simp; omega), nI_1]
          exact keep
    · have hc1 : c - 1 < S 11 3 := by omega
      have h15c := (hI.bl hc1).2.2
      rw [if_neg hz, if_neg hz] at keep ⊢
      unfold better
      rw [if_neg hz]
      by_cases h2 : ctN S (c - 1) < ctN S k
      · rw [if_pos ((qlt_n (by omega) (by omega)).mpr h2), if_pos (by simp; omega)]
        exact key
      · rw [if_neg (fun z => h2 ((qlt_n (by omega) (by omega)).mp z))]
        by_cases h3 : ctN S k = ctN S (c - 1)
        · rw [if_pos (by show nI (ctN S k) = _; rw [h3])]
          by_cases h5 : S 15 k ≤ S 15 (c - 1)
          · rw [if_pos ((qle_n (by omega) (by omega)).mpr h5), if_neg (by simp; omega), nI_1]
            exact keep
          · rw [if_neg (fun z => h5 ((qle_n (by omega) (by omega)).mp z)), if_pos (by simp; omega)]
            exact key
        · rw [if_neg (by show ¬ nI (ctN S k) = _; rw [qeq_n (by omega) (by omega)]; exact h3), if_neg (by simp; omega), nI_1]
          exact keep
theorem nextBL (hB : RB τ S) (hI : Inv S) : ∀ (d n k c : Nat), k + d = S 11 3 → d < n → c ≤ k → f_X10_next_L4 n (nI c - 1) (nI k) τ = some (nI (nxt S d k c) - 1, τ)
  | 0, n + 1, k, c, h, _, _ => by
    have hk : k = S 11 3 := by omega
    rw [f_X10_next_L4, hB.many, hk, if_pos (Int32.le_refl _)]
    rfl
  | d + 1, n + 1, k, c, h, hn, hc => by
    have h12 := hI.n12
    have hk : k < S 11 3 := by omega
    have ih := nextBL hB hI d n (k + 1)
    have h15 := (hI.bl hk).2.2
    have hct := ctN_le (S := S) k
    have hct2 := ctN_le (S := S) (c - 1)
    have key : f_X10_next_L4 n (nI k) (nI k + 1) τ = some (nI (nxt S d (k + 1) (k + 1)) - 1, τ) := by
      have := ih (k + 1) (by omega) (by omega) (by omega)
      rw [nI_pred] at this
      rw [nI_1]
      exact this
    have keep := ih c (by omega) (by omega) (by omega)
    rw [← nI_1] at keep
    rw [f_X10_next_L4, hB.many, if_neg (by rw [qle_n (by omega) (by omega)]; omega), canB hB hI hk, zbd_s, bitsB9, zbd_s, nxt]
    by_cases hz : c = 0
    · rw [if_pos ((nI_nm1 (by omega)).mpr hz)]
      rw [f_X10_next_J38]
      unfold better
      rw [if_pos hz]
      show (if (1 : Int32) < nI (ctN S k) then _ else _) = _
      by_cases h2 : 2 ≤ ctN S k
      · rw [if_pos (by rw [q1, qlt_n (by omega) (by omega)]; omega), if_pos (by simp; omega)]
        exact key
      · have hb2 : ¬ (decide (2 ≤ ctN S k) = true) := by simp; omega
        rw [if_neg (by rw [q1, qlt_n (by omega) (by omega)]; omega), if_neg hb2]
        by_cases h3 : nI (cN (cb S k) 9) = 1
        · rw [if_pos h3, if_pos ((nI_nm1 (by omega)).mpr hz)]; exact keep
        · rw [if_neg h3]; exact keep
    · have hc1 : c - 1 < S 11 3 := by omega
      have h15c := (hI.bl hc1).2.2
      have ec : nI c - 1 = nI (c - 1) := nI_sub1 (by omega)
      rw [if_neg (fun z => hz ((nI_nm1 (by omega)).mp z))]
      rw [ec] at keep ⊢
      rw [canB hB hI hc1, zbd_s, bitsB9, zbd_s, f_X10_next_J38]
      unfold better
      rw [if_neg hz]
      show (if nI (ctN S (c - 1)) < nI (ctN S k) then _ else _) = _
      by_cases h2 : ctN S (c - 1) < ctN S k
      · rw [if_pos ((qlt_n (by omega) (by omega)).mpr h2), if_pos (by simp; omega)]
        exact key
      · rw [if_neg (fun z => h2 ((qlt_n (by omega) (by omega)).mp z))]
        by_cases h3 : ctN S k = ctN S (c - 1)
        · rw [if_pos (by show nI (ctN S k) = nI (ctN S (c - 1)); rw [h3]), if_neg (by rw [← ec]; exact fun z => hz ((nI_nm1 (by omega)).mp z)), atB (x := nI k) (y := 4) (b := k) (k := 4) (by omega) (by omega) rfl rfl, zbd_s, atB (x := nI (c - 1)) (y := 4) (b := c - 1) (k := 4) (by omega) (by omega) rfl rfl, zbd_s, (hB.bl hk).2.2.1, (hB.bl hc1).2.2.1]
          by_cases h5 : S 15 k ≤ S 15 (c - 1)
          · rw [if_pos ((qle_n (by omega) (by omega)).mpr h5), if_neg (by simp; omega)]
            exact keep
          · rw [if_neg (fun z => h5 ((qle_n (by omega) (by omega)).mp z)), if_pos (by simp; omega)]
            exact key
        · rw [if_neg (by show ¬ nI (ctN S k) = nI (ctN S (c - 1)); rw [qeq_n (by omega) (by omega)]; exact h3), if_neg (by simp; omega)]
          exact keep
theorem ag_next (hA : RA σ S) (hB : RB τ S) (hI : Inv S) : Ag (f_X9_next σ) (f_X10_next τ) S := by
  have h12 := hI.n12
  have em : nI 0 - 1 = (-1 : Int32) := by decide
  have ea := nextAL hA hI (S 11 3) zfu 0 0 (by omega) (zfu_gt (by omega)) (by omega)
  have eb := nextBL hB hI (S 11 3) zfu 0 0 (by omega) (zfu_gt (by omega)) (by omega)
  rw [em, if_pos rfl, if_pos rfl, ← q0, ← q2] at ea
  rw [em, ← q0] at eb
  refine Ag.mk (r := nI (nxt S (S 11 3) 0 0) - 1) ?_ eb hA hB hI
  unfold f_X9_next f_X2_nextToMeasure
  rw [ea, zbd_s]
end GLASS
