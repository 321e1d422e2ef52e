/-! PURE: reach, boats, sea -/
theorem zrm2_n {a b : Int32} {X : Int32 → Option (Int32 × zS)} (h : ¬ b = 0) : zrm2 a b X = X (a - a / b * b) := if_neg h
theorem ds_inf {e : Nat → Nat → Bool} {c : Nat → Nat → Nat} {s k p : Nat} : dsN e c s k p ≤ INF := by
  have h : dsN e c s (0 + k) p ≤ dsN e c s 0 p := dsN_mono2
  rw [Nat.zero_add] at h
  have e0 : dsN e c s 0 p = if p = s then 0 else INF := rfl
  rw [e0] at h
  split at h <;> omega
theorem ds_sub {e e1 : Nat → Nat → Bool} {c : Nat → Nat → Nat} {s : Nat} (h : ∀ a b, a < 10 → b < 10 → e a b = true → e1 a b = true) : ∀ k p, p < 10 → dsN e1 c s k p ≤ dsN e c s k p
  | 0, p, _ => Nat.le_refl _
  | k + 1, p, hp => by
    refine ds_le (L := fun q => dsN e1 c s (k + 1) q) ?_ ds_inf (fun a ha he hf => ?_)
    · exact Nat.le_trans dsN_mono (ds_sub h k p hp)
    · have h1 := ds_sub (c := c) (s := s) h k a ha
      have h2 := dsN_edge (c := c) (s := s) (k := k) ha (h a p ha hp he) (by omega)
      show dsN e1 c s (k + 1) p ≤ _
      omega
theorem mnI_inf {f : Nat → Nat} : ∀ {n : Nat}, mnI f n ≤ INF
  | 0 => Nat.le_refl _
  | n + 1 => by rw [mnI]; have := mnI_inf (f := f) (n := n); omega
section REACH
variable {S : aS}
abbrev begN (S : aS) (b f : Nat) : Nat := max (SLv (S 20) (ow S) (S 11 3) b) (S 6 f)
/-- legs, and the year, if it is one of its years -/
def hL (S : aS) (b f : Nat) (bt : Bool) (y : Nat) : Nat := if begN S b f ≤ y ∧ y ≤ ow S 5 b then Dl S bt (some y) (S 5 f) (S 13 b) else INF
def hY (S : aS) (b f : Nat) (bt : Bool) (y : Nat) : Nat := if (begN S b f ≤ y ∧ y ≤ ow S 5 b) ∧ Dl S bt (some y) (S 5 f) (S 13 b) < INF then y else INF
def cyN (S : aS) (b f i : Nat) : Nat := if i = 0 then begN S b f else S 1 (i - 1)
def myN (S : aS) (b f k : Nat) : Nat := if k = 20 then begN S b f else if k % 2 = 0 then S 1 (k / 2) else S 2 (k / 2) + 1
def fyN (S : aS) (b f : Nat) (bt : Bool) : Nat := mnI (fun i => hY S b f bt (cyN S b f i)) 11
def flN (S : aS) (b f : Nat) (bt : Bool) : Nat := mnI (fun i => hL S b f bt (cyN S b f i)) 11
theorem cy_top {b f y : Nat} (hy : begN S b f ≤ y) : ∀ n, ∃ i, i < n + 1 ∧ begN S b f ≤ cyN S b f i ∧ cyN S b f i ≤ y ∧ ∀ j, j < n + 1 → begN S b f ≤ cyN S b f j → cyN S b f j ≤ y → cyN S b f j ≤ cyN S b f i
  | 0 => by
    have e0 : cyN S b f 0 = begN S b f := if_pos rfl
    refine ⟨0, by omega, by omega, by omega, fun j hj _ _ => ?_⟩
    rw [show j = 0 by omega]; exact Nat.le_refl _
  | n + 1 => by
    obtain ⟨i, h1, h2, h3, h4⟩ := cy_top hy n
    by_cases g : begN S b f ≤ cyN S b f (n + 1) ∧ cyN S b f (n + 1) ≤ y ∧ cyN S b f i < cyN S b f (n + 1)
    · refine ⟨n + 1, by omega, g.1, g.2.1, fun j hj g1 g2 => ?_⟩
      by_cases z : j = n + 1
      · rw [z]; exact Nat.le_refl _
      · have := h4 j (by omega) g1 g2; omega
    · refine ⟨i, by omega, h2, h3, fun j hj g1 g2 => ?_⟩
      by_cases z : j = n + 1
      · rw [z] at g1 g2 ⊢; omega
      · exact h4 j (by omega) g1 g2
theorem cy_ok (hI : Inv S) {b f y : Nat} (hb : b < S 11 3) (bt : Bool) (h1 : begN S b f ≤ y) (h2 : y ≤ ow S 5 b) : ∃ i, i < 11 ∧ begN S b f ≤ cyN S b f i ∧ cyN S b f i ≤ y ∧ Dl S bt (some (cyN S b f i)) (S 5 f) (S 13 b) ≤ Dl S bt (some y) (S 5 f) (S 13 b) := by
  obtain ⟨i, a1, a2, a3, a4⟩ := cy_top h1 10
  have h9 := (hI.bl hb).1
  refine ⟨i, by omega, a2, a3, ds_sub (fun a c ha hc he => ?_) 10 _ (by omega)⟩
  unfold eN at he ⊢
  rw [Bool.and_eq_true] at he ⊢
  refine ⟨he.1, ?_⟩
  have l := he.2
  unfold lvN at l ⊢
  simp only [Bool.and_eq_true, decide_eq_true_eq] at l ⊢
  have e1 : cyN S b f (c + 1) = S 1 c := by unfold cyN; rw [if_neg (by omega), Nat.add_sub_cancel]
  have := a4 (c + 1) (by omega)
  rw [e1] at this
  refine ⟨?_, by omega⟩
  by_cases z : begN S b f ≤ S 1 c
  · exact this z l.1
  · omega
theorem my_cy {b f i : Nat} (hi : i < 11) : ∃ k, k < 21 ∧ myN S b f k = cyN S b f i := by
  by_cases z : i = 0
  · exact ⟨20, by omega, by unfold myN cyN; rw [if_pos rfl, if_pos z]⟩
  · refine ⟨2 * (i - 1), by omega, ?_⟩
    unfold myN cyN
    rw [if_neg (by omega), if_pos (by omega), if_neg z, show 2 * (i - 1) / 2 = i - 1 by omega]
theorem fy_eq (hI : Inv S) {b f : Nat} (hb : b < S 11 3) (bt : Bool) : mnI (fun k => hY S b f bt (myN S b f k)) 21 = fyN S b f bt := by
  apply Nat.le_antisymm
  · refine le_mnI mnI_inf (fun i hi => ?_)
    obtain ⟨k, h1, h2⟩ := my_cy (S := S) (b := b) (f := f) hi
    have := mnI_le (f := fun k => hY S b f bt (myN S b f k)) h1
    show _ ≤ hY S b f bt (cyN S b f i)
    rw [← h2]; exact this
  · refine le_mnI mnI_inf (fun k hk => ?_)
    show fyN S b f bt ≤ hY S b f bt (myN S b f k)
    by_cases g : (begN S b f ≤ myN S b f k ∧ myN S b f k ≤ ow S 5 b) ∧ Dl S bt (some (myN S b f k)) (S 5 f) (S 13 b) < INF
    · obtain ⟨i, a1, a2, a3, a4⟩ := cy_ok hI hb bt g.1.1 g.1.2
      have h1 := mnI_le (f := fun i => hY S b f bt (cyN S b f i)) a1
      have e1 : hY S b f bt (cyN S b f i) = cyN S b f i := by unfold hY; rw [if_pos ⟨⟨a2, by omega⟩, by omega⟩]
      have e2 : hY S b f bt (myN S b f k) = myN S b f k := by unfold hY; rw [if_pos g]
      have h1' : fyN S b f bt ≤ hY S b f bt (cyN S b f i) := h1
      omega
    · unfold hY; rw [if_neg g]; exact mnI_inf
theorem fl_eq (hI : Inv S) {b f : Nat} (hb : b < S 11 3) (bt : Bool) : mnI (fun k => hL S b f bt (myN S b f k)) 21 = flN S b f bt := by
  apply Nat.le_antisymm
  · refine le_mnI mnI_inf (fun i hi => ?_)
    obtain ⟨k, h1, h2⟩ := my_cy (S := S) (b := b) (f := f) hi
    have := mnI_le (f := fun k => hL S b f bt (myN S b f k)) h1
    show _ ≤ hL S b f bt (cyN S b f i)
    rw [← h2]; exact this
  · refine le_mnI mnI_inf (fun k hk => ?_)
    show flN S b f bt ≤ hL S b f bt (myN S b f k)
    by_cases g : begN S b f ≤ myN S b f k ∧ myN S b f k ≤ ow S 5 b
    · obtain ⟨i, a1, a2, a3, a4⟩ := cy_ok hI hb bt g.1 g.2
      have h1 : flN S b f bt ≤ hL S b f bt (cyN S b f i) := mnI_le (f := fun i => hL S b f bt (cyN S b f i)) a1
      have e1 : hL S b f bt (cyN S b f i) = Dl S bt (some (cyN S b f i)) (S 5 f) (S 13 b) := by unfold hL; rw [if_pos ⟨a2, by omega⟩]
      have e2 : hL S b f bt (myN S b f k) = Dl S bt (some (myN S b f k)) (S 5 f) (S 13 b) := by unfold hL; rw [if_pos g]
      omega
    · unfold hL; rw [if_neg g]; exact mnI_inf
/-! the class -/
theorem nI_pm (i : Nat) : nI i - 1 + 1 = nI (i + 1) - 1 := by rw [nI_pred, Int32.sub_add_cancel]
section RCA
variable {σ : zS}
theorem beg_le (hI : Inv S) {b f : Nat} (hf : f < 9) : begN S b f ≤ 9999 := by
  have l0 : SLv (S 20) (ow S) (S 11 3) b ≤ 9999 := SL_le (fun k b hb => ow_le hI hb)
  have := (hI.fl hf).2.2.1
  show max _ _ ≤ _
  omega
theorem cy_le (hI : Inv S) {b f i : Nat} (hf : f < 9) (hi : i < 11) : cyN S b f i ≤ 9999 := by
  have := beg_le hI (b := b) hf
  unfold cyN
  by_cases z : i = 0
  · rw [if_pos z]; exact this
  · rw [if_neg z]
    have := hI.pl (p := i - 1) (by omega); omega
theorem yocA (hA : RA σ S) (hI : Inv S) (hW : WB σ (Fi S) (S 11 3)) {b f i : Nat} (hb : b < S 11 3) (hf : f < 9) (hi : i < 11) : f_X4_yearOfChange (nI b) (nI f) (nI i - 1) σ = some (if begN S b f ≤ cyN S b f i ∧ cyN S b f i ≤ ow S 5 b then nI (cyN S b f i) else -1, σ) := by
  have h12 := hI.n12
  have h5 := ow_le hI hb (k := 5)
  have hbg := beg_le hI (b := b) hf
  have hcy := cy_le hI (b := b) hf hi
  have l0 : SLv (S 20) (ow S) (S 11 3) b ≤ 9999 := SL_le (fun k b hb => ow_le hI hb)
  have h6 := (hI.fl hf).2.2.1
  have w0 : σ 30 (12 * 0 + b) = nI (SLv (S 20) (ow S) (S 11 3) b) := hW 0 b (by omega) hb
  have w5 : σ 30 (12 * 5 + b) = nI (ow S 5 b) := hW 5 b (by omega) hb
  have hJ : ∀ s0, s0 = nI (cyN S b f i) → f_X4_yearOfChange_J53 (nI (begN S b f)) (nI (ow S 5 b)) s0 σ = some (if begN S b f ≤ cyN S b f i ∧ cyN S b f i ≤ ow S 5 b then nI (cyN S b f i) else -1, σ) := by
    intro s0 e
    unfold f_X4_yearOfChange_J53
    rw [e, isWithinA, zbd_s, ifz, qti (by omega), qti (by omega), qti (by omega)]
    by_cases g : begN S b f ≤ cyN S b f i ∧ cyN S b f i ≤ ow S 5 b
    · rw [if_pos (by omega), if_pos g]
    · rw [if_neg (by omega), if_neg g]
  unfold f_X4_yearOfChange
  rw [boundA (x := 0) (k := 0) rfl (by omega) (by omega), zbd_s, w0, zrd_n hf (by omega), hA.row 10 6 9 (by decide) hf, boundA (x := 5) (k := 5) rfl (by omega) (by omega), zbd_s, w5, zmax_n (by omega) (by omega)]
  by_cases z : i = 0
  · rw [if_pos ((nI_nm1 (by omega)).mpr z)]
    exact hJ _ (by unfold cyN; rw [if_pos z])
  · rw [if_neg (fun w => z ((nI_nm1 (by omega)).mp w)), nI_sub1 (by omega), zrd_n (by omega) (by omega), hA.row 5 1 10 (by decide) (by omega)]
    exact hJ _ (by unfold cyN; rw [if_neg z])
theorem lgInA (hA : RA σ S) (hI : Inv S) {b f y : Nat} (hb : b < S 11 3) (hf : f < 9) (hy : y ≤ 10000) {bt : Bool} {x : Int32} (hx : (x = 0) ↔ bt = false) : f_X4_legsIn (nI y) (nI b) (nI f) x σ = some (en (Dl S bt (some y) (S 5 f) (S 13 b)), σ) := by
  have h12 := hI.n12
  have hp9 := (hI.bl hb).1
  have hs9 := (hI.fl hf).2.1
  unfold f_X4_legsIn
  rw [if_neg (nI_nm (by omega)), zrd_n hf (by omega), zrd_n (by omega) (by omega), hA.row 9 5 9 (by decide) hf, hA.row 18 13 12 (by decide) (by omega), liveA hA hI hy, zbd_s, legsA hA (bt := bt) (by omega) (by omega) hx, zbd_s]
theorem lgIn0 {x1 x2 x : Int32} : f_X4_legsIn (-1) x1 x2 x σ = some (-1, σ) := by
  unfold f_X4_legsIn
  rw [if_pos rfl]
theorem fyL (hA : RA σ S) (hI : Inv S) (hW : WB σ (Fi S) (S 11 3)) {b f : Nat} (hb : b < S 11 3) (hf : f < 9) {bt : Bool} {x : Int32} (hx : (x = 0) ↔ bt = false) : ∀ (d n i : Nat), i + d = 11 → d < n → f_X4_firstYear_L6 (nI b) (nI f) x n (en (mnI (fun i => hY S b f bt (cyN S b f i)) i)) (nI i - 1) σ = some (en (fyN S b f bt), σ)
  | 0, n + 1, i, h, _ => by
    have hi : i = 11 := by omega
    subst hi
    rw [f_X4_firstYear_L6, if_pos (by decide)]
    rfl
  | d + 1, n + 1, i, h, hn => by
    have hv := INFv
    have ih := fyL hA hI hW hb hf hx d n (i + 1) (by omega) (by omega)
    have hcy := cy_le hI (b := b) hf (i := i) (by omega)
    have hm := mnI_inf (f := fun i => hY S b f bt (cyN S b f i)) (n := i)
    rw [mnI] at ih
    rw [f_X4_firstYear_L6, if_neg (by rw [qle, nI_m1 (by omega)]; show ¬ (10 : Int) ≤ _; omega), yocA hA hI hW hb hf (by omega), zbd_s, nI_pm]
    have e0 : hY S b f bt (cyN S b f i) = if (begN S b f ≤ cyN S b f i ∧ cyN S b f i ≤ ow S 5 b) ∧ Dl S bt (some (cyN S b f i)) (S 5 f) (S 13 b) < INF then cyN S b f i else INF := rfl
    by_cases g : begN S b f ≤ cyN S b f i ∧ cyN S b f i ≤ ow S 5 b
    · rw [if_pos g, lgInA hA hI hb hf (by omega) hx, zbd_s]
      by_cases w : Dl S bt (some (cyN S b f i)) (S 5 f) (S 13 b) < INF
      · rw [if_pos ⟨g, w⟩] at e0
        rw [e0] at ih
        rw [if_neg (fun z => en_m.mp z w), lesE hm (by omega), zbd_s]
        exact ih
      · rw [if_neg (fun z => w z.2)] at e0
        rw [e0, Nat.min_eq_left hm] at ih
        rw [if_pos (en_m.mpr w)]
        exact ih
    · rw [if_neg (fun z => g z.1)] at e0
      rw [e0, Nat.min_eq_left hm] at ih
      rw [if_neg g, lgIn0, zbd_s, if_pos rfl]
      exact ih
theorem fyA (hA : RA σ S) (hI : Inv S) (hW : WB σ (Fi S) (S 11 3)) {b f : Nat} (hb : b < S 11 3) (hf : f < 9) {bt : Bool} {x : Int32} (hx : (x = 0) ↔ bt = false) : f_X4_firstYear (nI b) (nI f) x σ = some (en (fyN S b f bt), σ) := fyL hA hI hW hb hf hx 11 zfu 0 (by omega) (zfu_gt (by omega))
theorem laL (hA : RA σ S) (hI : Inv S) (hW : WB σ (Fi S) (S 11 3)) {b f : Nat} (hb : b < S 11 3) (hf : f < 9) {bt : Bool} {x : Int32} (hx : (x = 0) ↔ bt = false) : ∀ (d n i : Nat), i + d = 11 → d < n → f_X4_legsInAnyYear_L6 (nI b) (nI f) x n (en (mnI (fun i => hL S b f bt (cyN S b f i)) i)) (nI i - 1) σ = some (en (flN S b f bt), σ)
  | 0, n + 1, i, h, _ => by
    have hi : i = 11 := by omega
    subst hi
    rw [f_X4_legsInAnyYear_L6, if_pos (by decide)]
    rfl
  | d + 1, n + 1, i, h, hn => by
    have hv := INFv
    have ih := laL hA hI hW hb hf hx d n (i + 1) (by omega) (by omega)
    have hcy := cy_le hI (b := b) hf (i := i) (by omega)
    have hm := mnI_inf (f := fun i => hL S b f bt (cyN S b f i)) (n := i)
    rw [mnI] at ih
    rw [f_X4_legsInAnyYear_L6, if_neg (by rw [qle, nI_m1 (by omega)]; show ¬ (10 : Int) ≤ _; omega), yocA hA hI hW hb hf (by omega), zbd_s, nI_pm]
    have e0 : hL S b f bt (cyN S b f i) = if begN S b f ≤ cyN S b f i ∧ cyN S b f i ≤ ow S 5 b then Dl S bt (some (cyN S b f i)) (S 5 f) (S 13 b) else INF := rfl
    by_cases g : begN S b f ≤ cyN S b f i ∧ cyN S b f i ≤ ow S 5 b
    · rw [if_pos g] at e0
      rw [e0] at ih
      rw [if_pos g, lgInA hA hI hb hf (by omega) hx, zbd_s]
      by_cases w : Dl S bt (some (cyN S b f i)) (S 5 f) (S 13 b) < INF
      · rw [if_neg (fun z => en_m.mp z w), en_f w, lesE hm (by omega), zbd_s]
        exact ih
      · rw [Nat.min_eq_left (by omega)] at ih
        rw [if_pos (en_m.mpr w)]
        exact ih
    · rw [if_neg g] at e0
      rw [e0, Nat.min_eq_left hm] at ih
      rw [if_neg g, lgIn0, zbd_s, if_pos rfl]
      exact ih
theorem laA (hA : RA σ S) (hI : Inv S) (hW : WB σ (Fi S) (S 11 3)) {b f : Nat} (hb : b < S 11 3) (hf : f < 9) {bt : Bool} {x : Int32} (hx : (x = 0) ↔ bt = false) : f_X4_legsInAnyYear (nI b) (nI f) x σ = some (en (flN S b f bt), σ) := laL hA hI hW hb hf hx 11 zfu 0 (by omega) (zfu_gt (by omega))
end RCA
/-! the model -/
section RCB
theorem FB_k {τ τ1 : zS} (h : FB S τ) (hk : ∀ i, i ≠ 15 → i ≠ 16 → τ1 i = τ i) : FB S τ1 := fun b hb => by
  rw [hk 7 (by omega) (by omega), hk 8 (by omega) (by omega), hk 9 (by omega) (by omega), hk 10 (by omega) (by omega), hk 11 (by omega) (by omega), hk 12 (by omega) (by omega)]
  exact h b hb
theorem cbJ86 (hI : Inv S) {τ : zS} (hB : RB τ S) (hF : FB S τ) {b f : Nat} (hb : b < S 11 3) (hf : f < 9) {bt : Bool} {x3 : Int32} (hx : (x3 = 0) ↔ bt = false) (k31 : Int32 → Int32 → Int32 → zS → Option (Int32 × zS)) (x4 x8 : Int32) {A B y : Nat} (hA1 : A ≤ INF) (hB1 : B ≤ INF) (hy : y ≤ 10000) :
    ∃ τ1, f_X10_comesBy_J86 k31 (nI b) (nI f) x3 x4 (nI (begN S b f)) (en A) (en B) x8 (nI y) τ = k31 (en (min A (hL S b f bt y))) (en (min B (hY S b f bt y))) (x8 + 1) τ1 ∧ RB τ1 S ∧ FB S τ1 := by
  have hv := INFv
  have h12 := hI.n12
  have h5 := ow_le hI hb (k := 5)
  have hbg := beg_le hI (b := b) hf
  have hp9 := (hI.bl hb).1
  have hs9 := (hI.fl hf).2.1
  have f12 := (hF b hb).2.2.2.1
  unfold f_X10_comesBy_J86
  by_cases g1 : y < begN S b f
  · refine ⟨τ, ?_, hB, hF⟩
    rw [if_pos ((qlt_n (by omega) (by omega)).mpr g1)]
    unfold hL hY
    rw [if_neg (by omega), if_neg (by omega), Nat.min_eq_left hA1, Nat.min_eq_left hB1]
  · rw [if_neg (fun z => g1 ((qlt_n (by omega) (by omega)).mp z)), zrd_n (by omega) (by omega), f12]
    by_cases g2 : ow S 5 b < y
    · refine ⟨τ, ?_, hB, hF⟩
      rw [if_pos ((qlt_n (by omega) (by omega)).mpr g2)]
      unfold hL hY
      rw [if_neg (by omega), if_neg (by omega), Nat.min_eq_left hA1, Nat.min_eq_left hB1]
    · obtain ⟨τ1, b1, b2, b3, b4⟩ := layOutB hI hB (bt := bt) (y := some y) (s := S 5 f) (by omega) (fun w hw => by cases hw; omega) hx
      have c1 : f_X10_layOut (nI (S 5 f)) (nI y) x3 τ = some (0, τ1) := b1
      refine ⟨τ1, ?_, b2, FB_k hF b3⟩
      rw [if_neg (fun z => g2 ((qlt_n (by omega) (by omega)).mp z)), zrd_i (x := 6 * nI f) (j := 6 * f) (by rw [q6, pk_mul]) (by omega) (by omega), (hB.fl hf).1, c1, zbd_s, atB (x := nI b) (y := 0) (b := b) (k := 0) (by omega) (by omega) rfl rfl, zbd_s, Nat.add_zero, (b2.bl hb).1, zrd_n (by omega) (by omega), (b4 _ (by omega)).1]
      have eL : hL S b f bt y = Dl S bt (some y) (S 5 f) (S 13 b) := by unfold hL; rw [if_pos (by omega)]
      have hJ : ∀ s0, f_X10_comesBy_J161 k31 (nI b) (nI f) x3 x4 (nI (begN S b f)) (en A) x8 (en (Dl S bt (some y) (S 5 f) (S 13 b))) s0 τ1 = k31 (en (min A (hL S b f bt y))) s0 (x8 + 1) τ1 := by
        intro s0
        have hd : Dl S bt (some y) (S 5 f) (S 13 b) ≤ INF := ds_inf
        unfold f_X10_comesBy_J161
        rw [eL]
        by_cases w : Dl S bt (some y) (S 5 f) (S 13 b) < INF
        · rw [if_neg (fun z => en_m.mp z w)]
          by_cases a : A < INF
          · rw [if_neg (fun z => en_m.mp z a), en_f a, en_f w]
            by_cases c : A ≤ Dl S bt (some y) (S 5 f) (S 13 b)
            · rw [if_pos ((qle_n (by omega) (by omega)).mpr c), Nat.min_eq_left c, en_f a]
            · rw [if_neg (fun z => c ((qle_n (by omega) (by omega)).mp z)), Nat.min_eq_right (by omega), en_f w]
          · rw [if_pos (en_m.mpr a), Nat.min_eq_right (by omega)]
        · rw [if_pos (en_m.mpr w), Nat.min_eq_left (by omega)]
      rw [hJ, hJ]
      by_cases w : Dl S bt (some y) (S 5 f) (S 13 b) < INF
      · have eY : hY S b f bt y = y := by unfold hY; rw [if_pos ⟨by omega, w⟩]
        rw [if_neg (fun z => en_m.mp z w), eY]
        by_cases a : B < INF
        · rw [if_neg (fun z => en_m.mp z a), en_f a]
          by_cases c : B ≤ y
          · rw [if_pos ((qle_n (by omega) (by omega)).mpr c), Nat.min_eq_left c, en_f a]
          · rw [if_neg (fun z => c ((qle_n (by omega) (by omega)).mp z)), Nat.min_eq_right (show y ≤ B by omega), en_f (v := y) (by omega)]
        · rw [if_pos (en_m.mpr a), Nat.min_eq_right (show y ≤ B by omega), en_f (v := y) (by omega)]
      · have eY : hY S b f bt y = INF := by unfold hY; rw [if_neg (fun z => w z.2)]
        rw [if_pos (en_m.mpr w), eY, Nat.min_eq_left hB1]
theorem cbL31 (hI : Inv S) {b f : Nat} (hb : b < S 11 3) (hf : f < 9) {bt : Bool} {x3 : Int32} (hx : (x3 = 0) ↔ bt = false) (x4 : Int32) : ∀ (d n k : Nat) (τ : zS), RB τ S → FB S τ → k + d = 21 → d < n →
    ∃ τ1, f_X10_comesBy_L31 (nI b) (nI f) x3 x4 (nI (begN S b f)) n (en (mnI (fun k => hL S b f bt (myN S b f k)) k)) (en (mnI (fun k => hY S b f bt (myN S b f k)) k)) (nI k) τ = some (if x4 = 0 then en (fyN S b f bt) else en (flN S b f bt), τ1) ∧ RB τ1 S ∧ FB S τ1
  | 0, n + 1, k, τ, hB, hF, h, _ => by
    have hk : k = 21 := by omega
    subst hk
    refine ⟨τ, ?_, hB, hF⟩
    rw [f_X10_comesBy_L31, if_pos (by decide), fy_eq hI hb, fl_eq hI hb]
    by_cases z : x4 = 0
    · rw [if_pos z, if_pos z]
    · rw [if_neg z, if_neg z]
  | d + 1, n + 1, k, τ, hB, hF, h, hn => by
    have hbg := beg_le hI (b := b) hf
    have hmy : myN S b f k ≤ 10000 := by
      unfold myN
      by_cases z : k = 20
      · rw [if_pos z]; omega
      · rw [if_neg z]
        have := hI.pl (p := k / 2) (by omega)
        split <;> omega
    obtain ⟨τ1, a1, a2, a3⟩ := cbJ86 hI hB hF hb hf hx (fun x6 x7 x8 σ => f_X10_comesBy_L31 (nI b) (nI f) x3 x4 (nI (begN S b f)) n x6 x7 x8 σ) x4 (nI k) (mnI_inf (f := fun k => hL S b f bt (myN S b f k)) (n := k)) (mnI_inf (f := fun k => hY S b f bt (myN S b f k)) (n := k)) hmy
    obtain ⟨τ2, c1, c2, c3⟩ := cbL31 hI hb hf hx x4 d n (k + 1) τ1 a2 a3 (by omega) (by omega)
    refine ⟨τ2, ?_, c2, c3⟩
    rw [mnI, mnI, ← nI_1] at c1
    have a1 := a1.trans c1
    rw [f_X10_comesBy_L31, if_neg (by rw [show (21 : Int32) = nI 21 from rfl, qle_n (by omega) (by omega)]; omega)]
    by_cases z : k = 20
    · rw [if_pos (by rw [z]; rfl)]
      rw [show myN S b f k = begN S b f by unfold myN; rw [if_pos z]] at a1
      exact a1
    · have hp := hB.pl (p := k / 2) (by omega)
      have ed : nI k / 2 = nI (k / 2) := by rw [q2]; exact pk_div (by omega) (by omega) (by omega)
      have er : nI k - nI k / 2 * 2 = nI (k % 2) := by rw [q2]; exact pk_rem (by omega) (by omega) (by omega)
      rw [if_neg (by rw [show (20 : Int32) = nI 20 from rfl, qeq_n (by omega) (by omega)]; exact z)]
      rw [zrm2_n (show ¬ (2 : Int32) = 0 by decide), er]
      by_cases w : k % 2 = 0
      · rw [if_pos (show nI (k % 2) = 0 by rw [w]; rfl), zdv_n (show ¬ (2 : Int32) = 0 by decide), ed, zrd_i (x := 3 * nI (k / 2)) (j := 3 * (k / 2)) (by rw [q3, pk_mul]) (by omega) (by omega), hp.1]
        rw [show myN S b f k = S 1 (k / 2) by unfold myN; rw [if_neg z, if_pos w]] at a1
        exact a1
      · rw [if_neg (show ¬ nI (k % 2) = 0 by rw [q0, qeq_n (by omega) (by omega)]; exact w), zdv_n (show ¬ (2 : Int32) = 0 by decide), ed, zrd_i (x := 3 * nI (k / 2) + 1) (j := 3 * (k / 2) + 1) (ix1 3 (k / 2) 1) (by omega) (by omega), hp.2.1, nI_1]
        rw [show myN S b f k = S 2 (k / 2) + 1 by unfold myN; rw [if_neg z, if_neg w]] at a1
        exact a1
theorem comesB (hI : Inv S) {b f : Nat} (hb : b < S 11 3) (hf : f < 9) {bt : Bool} {x3 : Int32} (hx : (x3 = 0) ↔ bt = false) (x4 : Int32) {τ : zS} (hB : RB τ S) (hF : FB S τ) : ∃ τ1, f_X10_comesBy (nI b) (nI f) x3 x4 τ = some (if x4 = 0 then en (fyN S b f bt) else en (flN S b f bt), τ1) ∧ RB τ1 S ∧ FB S τ1 := by
  have h12 := hI.n12
  have l0 : SLv (S 20) (ow S) (S 11 3) b ≤ 9999 := SL_le (fun k b hb => ow_le hI hb)
  have h6 := (hI.fl hf).2.2.1
  obtain ⟨τ1, c1, c2, c3⟩ := cbL31 hI hb hf hx x4 21 zfu 0 τ hB hF (by omega) (zfu_gt (by omega))
  refine ⟨τ1, ?_, c2, c3⟩
  unfold f_X10_comesBy
  rw [zrd_n (by omega) (by omega), (hF b hb).1, zrd_i (x := 6 * nI f + 1) (j := 6 * f + 1) (ix1 6 f 1) (by omega) (by omega), (hB.fl hf).2.1, greaterB (by omega) (by omega), zbd_s]
  exact c1
end RCB
theorem ag_reach {σ τ : zS} (hA : RA σ S) (hB : RB τ S) (hI : Inv S) (x1 x2 x3 x4 : Int32) : Ag (f_X9_reach x1 x2 x3 x4 σ) (f_X10_reach x1 x2 x3 x4 τ) S := by
  have h12 := hI.n12
  obtain ⟨σ1, a1, a2, a3, a4⟩ := settleF hI hA
  obtain ⟨τ1, b1, b2, b3, b4⟩ := yearsB hI hB
  unfold f_X9_reach f_X10_reach
  rw [hasA hA hI, isBladeB hB hI, zbd_s, zbd_s, ifz, ifz, isToldA hA hI, isFlowB hB, zbd_s, zbd_s, ifz, ifz, isWithinA, inB, zbd_s, zbd_s, ifz, ifz, a1, b1, zbd_s, zbd_s, ifz, ifz, t0, t1]
  by_cases h : vd x1 (S 11 3)
  · rw [if_pos h, if_pos h]
    by_cases g : tl S x2
    · rw [if_pos g, if_pos g]
      by_cases k2 : 0 ≤ x4.toInt ∧ x4.toInt ≤ 1
      · rw [if_pos k2, if_pos k2]
        obtain ⟨b, hb, rfl⟩ := vd_of h
        obtain ⟨f, hf, rfl, h4⟩ := tl_of g
        have hx := bt_of x3
        by_cases hw : wayv (S 20) (ow S) (elS S) (S 11 3) = true
        · rw [if_pos hw, if_pos hw]
          obtain ⟨τ2, c1, c2, c3⟩ := comesB hI hb hf hx x4 b2 b4
          rw [c1, zbd_s]
          by_cases w : x4 = 0
          · rw [if_pos w, if_pos w, fyA a2 hI a3 hb hf hx, zbd_s]
            exact Ag.mk rfl rfl a2 c2 hI
          · rw [if_neg w, if_neg w, laA a2 hI a3 hb hf hx, zbd_s]
            exact Ag.mk rfl rfl a2 c2 hI
        · rw [if_neg hw, if_neg hw]; exact Ag.mk rfl rfl a2 b2 hI
      · rw [if_neg k2, if_neg k2]; exact Ag.mk rfl rfl hA hB hI
    · rw [if_neg g, if_neg g]; exact Ag.mk rfl rfl hA hB hI
  · rw [if_neg h, if_neg h]; exact Ag.mk rfl rfl hA hB hI
end REACH
