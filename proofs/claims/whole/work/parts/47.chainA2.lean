/-! PURE: chain, the class lays the row -/
/-- the first k with p, d of them looked at: a code -/
def fsC (p : Nat → Bool) : Nat → Nat → Nat
  | 0, _ => 0
  | d + 1, k => if p k then k + 1 else fsC p d (k + 1)
theorem fsC_eq {p : Nat → Bool} {b : Nat} (hp : p b = true) : ∀ {d k : Nat}, k ≤ b → b < k + d → (∀ c, k ≤ c → c < b → ¬ p c = true) → fsC p d k = b + 1
  | 0, k, h1, h2, _ => by omega
  | d + 1, k, h1, h2, h => by
    rw [fsC]
    by_cases e : k = b
    · rw [e, if_pos hp]
    · rw [if_neg (h k (Nat.le_refl k) (by omega))]
      exact fsC_eq hp (by omega) (by omega) (fun c hc => h c (by omega))
theorem fsC_ex {p : Nat → Bool} {b : Nat} (hp : p b = true) : ∀ {d k : Nat}, k ≤ b → b < k + d → 0 < fsC p d k
  | 0, k, h1, h2 => by omega
  | d + 1, k, h1, h2 => by
    rw [fsC]
    by_cases e : p k = true
    · rw [if_pos e]; omega
    · rw [if_neg e]
      have : k ≠ b := fun z => e (by rw [z]; exact hp)
      exact fsC_ex hp (by omega) (by omega)
theorem fsC_at {p : Nat → Bool} : ∀ {d k : Nat}, 0 < fsC p d k → p (fsC p d k - 1) = true ∧ fsC p d k ≤ k + d
  | 0, k, h => absurd h (Nat.lt_irrefl 0)
  | d + 1, k, h => by
    rw [fsC] at h ⊢
    by_cases e : p k = true
    · rw [if_pos e]; exact ⟨by rw [Nat.add_sub_cancel]; exact e, by omega⟩
    · rw [if_neg e] at h ⊢
      have := fsC_at h
      exact ⟨this.1, by omega⟩
theorem fsC_none {p : Nat → Bool} : ∀ {d k : Nat}, (∀ c, k ≤ c → c < k + d → ¬ p c = true) → fsC p d k = 0
  | 0, _, _ => rfl
  | d + 1, k, h => by rw [fsC, if_neg (h k (Nat.le_refl k) (by omega))]; exact fsC_none (fun c h1 h2 => h c (by omega) (by omega))
theorem fsC_cg {p q : Nat → Bool} : ∀ {d k : Nat}, (∀ c, k ≤ c → c < k + d → p c = q c) → fsC p d k = fsC q d k
  | 0, _, _ => rfl
  | d + 1, k, h => by rw [fsC, fsC, h k (Nat.le_refl k) (by omega), fsC_cg (fun c h1 h2 => h c (by omega) (by omega))]
section ROW
variable {S : aS}
abbrev Ln (S : aS) : Nat → Nat := Len (mfr S) (S 11 3)
/-- the longest -/
def mL (S : aS) : Nat := mxF (fun _ => true) (Ln S) (S 11 3)
/-- behind the one coded q, of length v -/
def bhd (S : aS) (q v : Nat) : Nat → Bool := fun c => (decide (q = 0) || mfr S c (q - 1)) && decide (Ln S c = v)
/-- the row as codes: rowC k is what stands before place k -/
def rowC (S : aS) : Nat → Nat
  | 0 => 0
  | k + 1 => fsC (bhd S (rowC S k) (mL S - k)) (S 11 3) 0
theorem Ln_12 (hI : Inv S) {c : Nat} (hc : c < S 11 3) : Ln S c ≤ S 11 3 := by
  have := lenN_rk rkS_rk 12 c hc
  have := rkS_lt hc
  show lenN (mfr S) (S 11 3) 12 c ≤ _
  omega
theorem mL_12 (hI : Inv S) : mL S ≤ S 11 3 := mxF_le (fun u hu _ => Ln_12 hI hu)
theorem rowC_ok (hI : Inv S) : ∀ k, k < mL S → 0 < rowC S (k + 1) ∧ rowC S (k + 1) ≤ S 11 3 ∧ Ln S (rowC S (k + 1) - 1) = mL S - k ∧ (0 < k → mfr S (rowC S (k + 1) - 1) (rowC S k - 1) = true)
  | 0, h => by
    obtain ⟨u, hu, _, h2⟩ := mxF_at (p := fun _ => true) (f := Ln S) (n := S 11 3) h
    have hp : bhd S 0 (mL S - 0) u = true := by unfold bhd; simp; exact h2
    have h0 : 0 < rowC S 1 := fsC_ex hp (Nat.zero_le u) (by omega)
    have ha := fsC_at h0
    have hb := ha.1
    unfold bhd at hb
    simp only [Bool.and_eq_true, decide_eq_true_eq] at hb
    exact ⟨h0, by have := ha.2; show fsC _ _ _ ≤ _; omega, hb.2, fun z => absurd z (Nat.lt_irrefl 0)⟩
  | k + 1, h => by
    obtain ⟨g1, g2, g3, _⟩ := rowC_ok hI k (by omega)
    have hq : rowC S (k + 1) - 1 < S 11 3 := by omega
    have hf := Len_fix rkS_rk (rkS_12 hI) hq
    have hm : mxF (fun c => mfr S c (rowC S (k + 1) - 1)) (Ln S) (S 11 3) = mL S - (k + 1) := by
      unfold stp at hf
      have : Ln S (rowC S (k + 1) - 1) = mL S - k := g3
      unfold Ln at this ⊢
      omega
    obtain ⟨u, hu, h1, h2⟩ := mxF_at (p := fun c => mfr S c (rowC S (k + 1) - 1)) (f := Ln S) (n := S 11 3) (by omega)
    have hp : bhd S (rowC S (k + 1)) (mL S - (k + 1)) u = true := by unfold bhd; simp only [Bool.and_eq_true, Bool.or_eq_true, decide_eq_true_eq]; exact ⟨Or.inr h1, by omega⟩
    have h0 : 0 < rowC S (k + 2) := fsC_ex hp (Nat.zero_le u) (by omega)
    have ha := fsC_at h0
    have hb := ha.1
    unfold bhd at hb
    simp only [Bool.and_eq_true, Bool.or_eq_true, decide_eq_true_eq] at hb
    refine ⟨h0, by have := ha.2; show fsC _ _ _ ≤ _; omega, hb.2, fun _ => ?_⟩
    rcases hb.1 with e | e
    · omega
    · exact e
theorem behindL {σ : zS} (hA : RA σ S) (hI : Inv S) (hM : MA S σ (S 11 3)) (hL : LA σ (Ln S) (S 11 3)) {q v : Nat} (hq : q ≤ S 11 3) (hv : v ≤ 12) : ∀ (d n k : Nat), k + d = S 11 3 → d < n → f_X5_firstBehind_L2 (nI q - 1) (nI v) n (nI k) σ = some (nI (fsC (bhd S q v) d k) - 1, σ)
  | 0, n + 1, k, hd, _ => by
    have h12 := hI.n12
    rw [f_X5_firstBehind_L2, hA.many, if_pos ((qle_n (by omega) (by omega)).mpr (by omega))]
    rfl
  | d + 1, n + 1, k, hd, hn => by
    have h12 := hI.n12
    have hk : k < S 11 3 := by omega
    have ih := behindL hA hI hM hL hq hv d n (k + 1) (by omega) (by omega)
    have hlk := Ln_12 hI hk
    have j0 : f_X5_firstBehind_J36 (fun x3 σ => f_X5_firstBehind_L2 (nI q - 1) (nI v) n x3 σ) (nI q - 1) (nI v) (nI k) 0 σ = some (nI (fsC (bhd S q v) d (k + 1)) - 1, σ) := by
      unfold f_X5_firstBehind_J36
      rw [if_pos rfl, nI_1]; exact ih
    have j1 : f_X5_firstBehind_J36 (fun x3 σ => f_X5_firstBehind_L2 (nI q - 1) (nI v) n x3 σ) (nI q - 1) (nI v) (nI k) 1 σ = if Ln S k = v then some (nI k, σ) else some (nI (fsC (bhd S q v) d (k + 1)) - 1, σ) := by
      unfold f_X5_firstBehind_J36
      rw [if_neg (by decide), zrd_n (by omega) (by omega), hL k hk, nI_1]
      by_cases g : Ln S k = v
      · rw [if_pos (by rw [g]), if_pos g]
      · rw [if_neg (by rw [qeq_n (by omega) (by omega)]; exact g), if_neg g]; exact ih
    rw [f_X5_firstBehind_L2, hA.many, if_neg (fun z => by have := (qle_n (by omega) (by omega)).mp z; omega), fsC]
    by_cases e : q = 0
    · rw [if_pos ((nI_nm1 (by omega)).mpr e), j1]
      by_cases g : Ln S k = v
      · rw [if_pos g, if_pos (by unfold bhd; simp [e, g]), nI_pred]
      · rw [if_neg g, if_neg (by unfold bhd; simp [g])]
    · rw [if_neg (fun z => e ((nI_nm1 (by omega)).mp z)), zrd_n (by omega) (by omega), hM k hk, nI_sub1 (by omega), hasBitA (mfr S k) h12 (show q - 1 < S 11 3 by omega), zbd_s]
      rw [nI_sub1 (by omega)] at j0 j1
      by_cases f : mfr S k (q - 1) = true
      · rw [if_pos f, if_neg (by decide), j1]
        by_cases g : Ln S k = v
        · rw [if_pos g, if_pos (by unfold bhd; simp [f, g]), nI_pred]
        · rw [if_neg g, if_neg (by unfold bhd; simp [g])]
      · rw [if_neg f, if_pos rfl, j0, if_neg (by unfold bhd; simp [f, e])]
theorem layL46 (hI : Inv S) : ∀ (d n k : Nat) (σ : zS), RA σ S → MA S σ (S 11 3) → LA σ (Ln S) (S 11 3) → σ 32 5 = nI (mL S) → (∀ j, j < k → σ 35 j = nI (rowC S (j + 1) - 1)) → k + d = mL S → d < n → ∃ σ1, f_X5_layRow_L46 (nI (mL S)) n (nI (rowC S k) - 1) (nI k) σ = some (0, σ1) ∧ (∀ i, i ≠ 35 → σ1 i = σ i) ∧ ∀ j, j < mL S → σ1 35 j = nI (rowC S (j + 1) - 1)
  | 0, n + 1, k, σ, hA, hM, hL, h5, hj, hd, _ => by
    have h12 := hI.n12
    have hm := mL_12 hI
    refine ⟨σ, ?_, fun _ _ => rfl, fun j h => hj j (by omega)⟩
    rw [f_X5_layRow_L46, h5, if_pos ((qle_n (by omega) (by omega)).mpr (by omega))]
  | d + 1, n + 1, k, σ, hA, hM, hL, h5, hj, hd, hn => by
    have h12 := hI.n12
    have hm := mL_12 hI
    obtain ⟨g1, g2, _, _⟩ := rowC_ok hI k (by omega)
    have hq : rowC S k ≤ S 11 3 := by
      cases k with
      | zero => exact Nat.zero_le _
      | succ k => exact (rowC_ok hI k (by omega)).2.1
    have hb : f_X5_firstBehind (nI (rowC S k) - 1) (nI (mL S - k)) σ = some (nI (rowC S (k + 1)) - 1, σ) := behindL hA hI hM hL hq (by omega) (S 11 3) zfu 0 (by omega) (zfu_gt (by omega))
    rw [f_X5_layRow_L46, h5, if_neg (fun z => by have := (qle_n (by omega) (by omega)).mp z; omega), qsub (by omega), hb, zbd_s, nI_sub1 g1, q0, zmax_n (by omega) (by omega), Nat.zero_max, zwr_n (by omega) (by omega), nI_1, ← nI_sub1 g1]
    obtain ⟨σ1, a1, a2, a3⟩ := layL46 hI d n (k + 1) (zup σ 35 k (nI (rowC S (k + 1) - 1))) (RA_32 hA (fun i hi => zup_ne (by omega))) (fun c hc => by rw [zup_ne (by decide)]; exact hM c hc) (fun c hc => by rw [zup_ne (by decide)]; exact hL c hc) (by rw [zup_ne (by decide)]; exact h5) (fun j hjk => by
      by_cases e : j = k
      · rw [e, zup_at]
      · rw [zup_no e]; exact hj j (by omega)) (by omega) (by omega)
    exact ⟨σ1, by rw [nI_sub1 g1] at a1 ⊢; exact a1, fun i hi => by rw [a2 i hi, zup_ne hi], a3⟩
theorem layL4 (hI : Inv S) {σ : zS} (hA : RA σ S) (hL : LA σ (Ln S) (S 11 3)) : ∀ (d n k : Nat), k + d = S 11 3 → d < n → f_X5_layRow_L4 n (nI (mxF (fun _ => true) (Ln S) k)) (nI k) σ = zst σ 32 5 (zmin (nI (mL S)) 12) fun σ1 => f_X5_layRow_L46 (nI (mL S)) zfu (-1) 0 σ1
  | 0, n + 1, k, hd, _ => by
    have h12 := hI.n12
    rw [f_X5_layRow_L4, hA.many, if_pos ((qle_n (by omega) (by omega)).mpr (by omega)), show k = S 11 3 by omega]
    rfl
  | d + 1, n + 1, k, hd, hn => by
    have h12 := hI.n12
    have hk : k < S 11 3 := by omega
    have ih := layL4 hI hA hL d n (k + 1) (by omega) (by omega)
    have h1 : mxF (fun _ => true) (Ln S) k ≤ S 11 3 := mxF_le (fun u hu _ => Ln_12 hI (by omega))
    have h2 := Ln_12 hI hk
    rw [mxF, if_pos rfl] at ih
    rw [f_X5_layRow_L4, hA.many, if_neg (fun z => by have := (qle_n (by omega) (by omega)).mp z; omega), zrd_n (by omega) (by omega), hL k hk, zmax_n (by omega) (by omega), nI_1]
    exact ih
theorem layA (hI : Inv S) {σ : zS} (hA : RA σ S) (hM : MA S σ (S 11 3)) (hL : LA σ (Ln S) (S 11 3)) : ∃ σ1, f_X5_layRow σ = some (0, σ1) ∧ RA σ1 S ∧ σ1 32 5 = nI (mL S) ∧ ∀ j, j < mL S → σ1 35 j = nI (rowC S (j + 1) - 1) := by
  have h12 := hI.n12
  have hm := mL_12 hI
  have h4 : f_X5_layRow σ = _ := layL4 hI hA hL (S 11 3) zfu 0 (by omega) (zfu_gt (by omega))
  have k0 : ∀ k, k ≠ 32 → zup σ 32 5 (nI (mL S)) k = σ k := fun k hk => zup_ne hk
  obtain ⟨σ1, a1, a2, a3⟩ := layL46 hI (mL S) zfu 0 (zup σ 32 5 (nI (mL S))) (RA_32 hA (fun k hk => k0 k (by omega))) (fun c hc => by rw [k0 33 (by decide)]; exact hM c hc) (fun c hc => by rw [k0 34 (by decide)]; exact hL c hc) zup_at (fun j hj => absurd hj (Nat.not_lt_zero j)) (by omega) (zfu_gt (by omega))
  have em : nI 0 - 1 = (-1 : Int32) := by decide
  have a1' : f_X5_layRow_L46 (nI (mL S)) zfu (-1) 0 (zup σ 32 5 (nI (mL S))) = some (0, σ1) := by rw [← em]; exact a1
  refine ⟨σ1, ?_, RA_32 hA (fun k hk => by rw [a2 k (by omega), k0 k (by omega)]), by rw [a2 32 (by decide)]; exact zup_at, a3⟩
  rw [h4, q12, zmin_n (by omega) (by omega), Nat.min_eq_left (by omega), zst_s]
  exact a1'
/-- the answer -/
def chN (S : aS) (x : Int32) : Int32 := if x = -1 then nI (mL S) else if x = -2 then (if mL S = 0 then 0 else nI (S 16 (rowC S 1 - 1)) - nI (S 16 (rowC S (mL S) - 1))) else if x.toInt < mL S then nI (rowC S (x.toInt.toNat + 1) - 1) else -1
theorem longL9 (hI : Inv S) {x : Int32} (hx : -2 ≤ x.toInt) : ∀ (d n m : Nat) (σ : zS), RA σ S → OB S σ (S 11 3) → MA S σ m → m + d = S 11 3 → d < n → ∃ σ1, f_X5_longestRow_L9 x n (nI m) σ = some (chN S x, σ1) ∧ RA σ1 S
  | 0, n + 1, m, σ, hA, hO, hM, hd, _ => by
    have h12 := hI.n12
    have hm := mL_12 hI
    have hM' : MA S σ (S 11 3) := fun c hc => hM c (by omega)
    obtain ⟨σ1, a1, a2, a3⟩ := measA hI hA hM'
    have hA1 : RA σ1 S := RA_32 hA (fun k hk => a2 k (by omega))
    obtain ⟨σ2, b1, b2, b3, b4⟩ := layA hI hA1 (fun c hc => by rw [a2 33 (by decide)]; exact hM' c hc) a3
    refine ⟨σ2, ?_, b2⟩
    rw [f_X5_longestRow_L9, hA.many, if_pos ((qle_n (by omega) (by omega)).mpr (by omega)), a1, zbd_s, b1, zbd_s, b3]
    unfold chN
    by_cases e1 : x = -1
    · rw [if_pos e1, if_pos e1]
    · rw [if_neg e1, if_neg e1]
      by_cases e2 : x = -2
      · rw [if_pos e2, if_pos e2]
        by_cases e3 : mL S = 0
        · rw [if_pos (by rw [e3]; rfl), if_pos e3]
        · obtain ⟨g1, g2, _, _⟩ := rowC_ok hI 0 (by omega)
          obtain ⟨g3, g4, _, _⟩ := rowC_ok hI (mL S - 1) (by omega)
          have ez : mL S - 1 + 1 = mL S := by omega
          rw [ez] at g3 g4
          rw [Nat.zero_add] at g1 g2
          have r0 : σ2 35 0 = nI (rowC S 1 - 1) := b4 0 (by omega)
          have r1 : σ2 35 (mL S - 1) = nI (rowC S (mL S) - 1) := by rw [b4 (mL S - 1) (by omega), ez]
          rw [if_neg (by rw [q0, qeq_n (by omega) (by omega)]; exact e3), if_neg e3, zrd_i (x := 0) (j := 0) rfl (by omega) (by omega), r0, zrd_n (by omega) (by omega), b2.row 21 16 12 (by decide) (by omega), nI_sub1 (by omega), zrd_n (by omega) (by omega), r1, zrd_n (by omega) (by omega), b2.row 21 16 12 (by decide) (by omega)]
      · rw [if_neg e2, if_neg e2]
        have h1 : x.toInt ≠ -1 := fun z => e1 (by rw [qeq]; exact z)
        have h2 : x.toInt ≠ -2 := fun z => e2 (by rw [qeq]; exact z)
        rw [isWithinA, zbd_s, ifz, t0, nI_m1 (by omega)]
        by_cases e3 : x.toInt < mL S
        · rw [if_pos (by omega), if_pos e3]
          have ex : x = nI x.toInt.toNat := qof (by omega)
          rw [zrd_i (j := x.toInt.toNat) ex (by omega) (by omega), b4 _ (by omega)]
        · rw [if_neg (by omega), if_neg e3]
  | d + 1, n + 1, m, σ, hA, hO, hM, hd, hn => by
    have h12 := hI.n12
    obtain ⟨σ1, a1, a2⟩ := findA hA hI hO (b := m) (by omega)
    have hA1 : RA σ1 S := RA_29 hA (fun k _ h2 _ => a2 k h2)
    obtain ⟨σ2, b1, b2⟩ := longL9 hI hx d n (m + 1) (zup σ1 33 m (nI (bN (mfr S m) (S 11 3)))) (RA_32 hA1 (fun k hk => zup_ne (by omega))) (fun c hc => by rw [zup_ne (by decide), zup_ne (by decide), a2 29 (by decide), a2 31 (by decide)]; exact hO c hc) (fun c hc => by
      by_cases e : c = m
      · rw [e, zup_at]
      · rw [zup_no e, a2 33 (by decide)]; exact hM c (by omega)) (by omega) (by omega)
    refine ⟨σ2, ?_, b2⟩
    rw [f_X5_longestRow_L9, hA.many, if_neg (fun z => by have := (qle_n (by omega) (by omega)).mp z; omega), a1, zbd_s, zwr_n (by omega) (by omega), nI_1]
    exact b1
theorem chainA (hI : Inv S) {σ : zS} (hA : RA σ S) {x : Int32} (hx : -2 ≤ x.toInt) : ∃ σ1, f_X5_longestRow x σ = some (chN S x, σ1) ∧ RA σ1 S := by
  have h12 := hI.n12
  obtain ⟨σ1, a1, a2, a3⟩ := bbnA hA hI
  have hA1 : RA σ1 S := RA_29 hA (fun k h1 _ h3 => a2 k h1 h3)
  obtain ⟨σ2, b1, b2⟩ := longL9 hI hx (S 11 3) zfu 0 σ1 hA1 a3 (fun c hc => absurd hc (Nat.not_lt_zero c)) (by omega) (zfu_gt (by omega))
  refine ⟨σ2, ?_, b2⟩
  unfold f_X5_longestRow
  rw [a1, zbd_s]
  exact b1
end ROW
