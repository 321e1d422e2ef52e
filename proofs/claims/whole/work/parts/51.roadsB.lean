/-! PURE: roads, the model lays out -/
def en (v : Nat) : Int32 := if v < INF then nI v else -1
theorem en_f {v : Nat} (h : v < INF) : en v = nI v := if_pos h
theorem en_i {v : Nat} (h : ¬ v < INF) : en v = -1 := if_neg h
theorem nI_nm {v : Nat} (h : v < 2147483648) : ¬ nI v = -1 := fun z => by
  have := congrArg Int32.toInt z
  rw [qti h, tm1] at this
  omega
theorem en_m {v : Nat} : en v = -1 ↔ ¬ v < INF := by
  by_cases h : v < INF
  · rw [en_f h]; exact ⟨fun z => absurd z (nI_nm (by omega)), fun z => absurd h z⟩
  · rw [en_i h]; exact ⟨fun _ => h, fun _ => rfl⟩
/-- miles of the way a b, by boat too if bt -/
def wN (S : aS) (bt : Bool) (a b : Nat) : Nat :=
  if S 9 (10 * a + b) = 0 then (if bt then S 10 (10 * a + b) else 0) else if (if bt then S 10 (10 * a + b) else 0) = 0 then S 9 (10 * a + b) else min (S 9 (10 * a + b)) (if bt then S 10 (10 * a + b) else 0)
def eN (S : aS) (bt : Bool) (y a b : Nat) : Bool := decide (0 < wN S bt a b) && (decide (S 1 b ≤ y) && decide (y ≤ S 2 b))
section LAYB
variable {S : aS}
theorem wN_le (hI : Inv S) {bt : Bool} {a b : Nat} (ha : a < 10) (hb : b < 10) : wN S bt a b ≤ 999 := by
  have h := hI.wy (j := 10 * a + b) (by omega)
  have h2 : (if bt then S 10 (10 * a + b) else 0) ≤ 999 := by split <;> omega
  unfold wN
  split
  · exact h2
  · split
    · exact h.1
    · omega
abbrev Dl (S : aS) (bt : Bool) (y s : Nat) : Nat → Nat := dsN (eN S bt y) (fun _ _ => 1) s 10
abbrev Dm (S : aS) (bt : Bool) (y s : Nat) : Nat → Nat := dsN (eN S bt y) (wN S bt) s 10
theorem Dl_stop (bt : Bool) (y : Nat) {s : Nat} (hs : s < 10) : Cld (eN S bt y) (fun _ _ => 1) (Dl S bt y s) ∧ ∀ k p, p < 10 → Dl S bt y s p ≤ dsN (eN S bt y) (fun _ _ => 1) s k p := dsN_stop (fun _ _ _ _ => by omega) hs
theorem Dm_stop (hI : Inv S) (bt : Bool) (y : Nat) {s : Nat} (hs : s < 10) : Cld (eN S bt y) (wN S bt) (Dm S bt y s) ∧ ∀ k p, p < 10 → Dm S bt y s p ≤ dsN (eN S bt y) (wN S bt) s k p := dsN_stop (fun _ _ ha hb => wN_le hI ha hb) hs
/-- the two rows of the model, k steps done -/
def Lay (S : aS) (bt : Bool) (y s : Nat) (τ : zS) (A B : Nat → Nat) (k : Nat) : Prop :=
  RB τ S ∧ ∀ p, p < 10 → τ 15 p = en (A p) ∧ τ 16 p = en (B p) ∧ A p ≤ INF ∧ B p ≤ INF ∧ (A p < INF ↔ B p < INF) ∧ Dl S bt y s p ≤ A p ∧ Dm S bt y s p ≤ B p ∧ (A p < INF → A p ≤ 999 * k ∧ B p ≤ 999 * k)
theorem isLiveB {τ : zS} (hB : RB τ S) (hI : Inv S) {b y : Nat} (hb : b < 10) (hy : y ≤ 10000) : f_X10_isLive (nI b) (nI y) τ = some (if S 1 b ≤ y ∧ y ≤ S 2 b then 1 else 0, τ) := by
  have hp := hI.pl hb
  have hq := hB.pl hb
  unfold f_X10_isLive
  rw [zrd_i (x := 3 * nI b) (j := 3 * b) (by rw [q3, pk_mul]) (by omega) (by omega), zrd_i (x := 3 * nI b + 1) (j := 3 * b + 1) (ix1 3 b 1) (by omega) (by omega), hq.1, hq.2.1, inB, zbd_s, zrb_if, qti (by omega), qti (by omega), qti (by omega)]
  by_cases g : S 1 b ≤ y ∧ y ≤ S 2 b
  · rw [if_pos (by omega), if_pos g]
  · rw [if_neg (by omega), if_neg g]
theorem lesB {a b : Nat} (ha : a < INF) (hb : b < INF) (σ : zS) : f_X10_lesser (nI a) (nI b) σ = some (nI (min a b), σ) := by
  unfold f_X10_lesser
  by_cases h : b ≤ a
  · rw [if_pos ((qle_n (by omega) (by omega)).mpr h), Nat.min_eq_right h]
  · rw [if_neg (fun z => h ((qle_n (by omega) (by omega)).mp z)), Nat.min_eq_left (by omega)]
/-- one way taken -/
theorem loRel (hI : Inv S) {bt : Bool} {y s a b k : Nat} (hs : s < 10) (ha : a < 10) (hb : b < 10) (hk : k ≤ 1000) (he : eN S bt y a b = true) (k71 : Int32 → zS → Option (Int32 × zS)) (x2 x3 x4 : Int32) {τ : zS} {A B : Nat → Nat} (h : Lay S bt y s τ A B k) (hf : A a < INF) :
    ∃ τ1, f_X10_layOut_J179 k71 x2 x3 x4 (nI a) (nI b) (nI (wN S bt a b)) τ = k71 (nI (b + 1)) τ1 ∧ (∀ i, i ≠ 15 → i ≠ 16 → τ1 i = τ i) ∧ Lay S bt y s τ1 (pnu A b (min (A b) (A a + 1))) (pnu B b (min (B b) (B a + wN S bt a b))) (k + 1) := by
  obtain ⟨hB, h⟩ := h
  obtain ⟨a1, a2, a3, a4, a5, a6, a7, a8⟩ := h a ha
  obtain ⟨b1, b2, b3, b4, b5, b6, b7, b8⟩ := h b hb
  have hw := wN_le hI (bt := bt) ha hb
  have fB : B a < INF := a5.mp hf
  have a8' := a8 hf
  have hA1 : A a + 1 < INF := by omega
  have hB1 : B a + wN S bt a b < INF := by omega
  rw [en_f hf] at a1
  rw [en_f fB] at a2
  let τ1 : zS := zup τ 15 b (nI (min (A b) (A a + 1)))
  have e16 : ∀ p, τ1 16 p = τ 16 p := fun p => by show zup τ 15 b _ 16 p = _; rw [zup_ne (by decide)]
  have hx : f_X10_layOut_J227 k71 x2 x3 x4 (nI a) (nI b) (nI (wN S bt a b)) (nI (min (A b) (A a + 1))) (nI b) τ = k71 (nI (b + 1)) (zup τ1 16 b (nI (min (B b) (B a + wN S bt a b)))) := by
    unfold f_X10_layOut_J227
    rw [zwr_n hb (by omega)]
    show (zrd τ1 16 10 (nI b) fun v2 => _) = _
    rw [zrd_n hb (by omega), e16, b2]
    by_cases g : B b < INF
    · rw [en_f g, if_neg (nI_nm (by omega)), zrd_n hb (by omega), e16, b2, en_f g, zrd_n ha (by omega), e16, a2, nI_add, lesB g hB1, zbd_s, zwr_n hb (by omega), nI_1]
    · rw [en_i g, if_pos rfl, zrd_n ha (by omega), e16, a2, nI_add, zwr_n hb (by omega), nI_1, show min (B b) (B a + wN S bt a b) = B a + wN S bt a b by omega]
  refine ⟨zup τ1 16 b (nI (min (B b) (B a + wN S bt a b))), ?_, fun i h1 h2 => ?_, ?_, fun p hp => ?_⟩
  · rw [← hx]
    unfold f_X10_layOut_J179
    rw [zrd_n hb (by omega), b1]
    by_cases g : A b < INF
    · rw [en_f g, if_neg (nI_nm (by omega)), zrd_n hb (by omega), b1, en_f g, zrd_n ha (by omega), a1, nI_1, lesB g hA1, zbd_s]
    · rw [en_i g, if_pos rfl, zrd_n ha (by omega), a1, nI_1, show min (A b) (A a + 1) = A a + 1 by omega]
  · rw [zup_ne h2]; exact zup_ne h1
  · refine RB_13 hB (fun i hi => ?_)
    rw [zup_ne (by omega)]; exact zup_ne (by omega)
  · obtain ⟨p1, p2, p3, p4, p5, p6, p7, p8⟩ := h p hp
    by_cases z : p = b
    · subst z
      have d1 := (Dl_stop (S := S) bt y hs).1 a p ha hp he (by omega)
      have d2 := (Dm_stop hI bt y hs).1 a p ha hp he (by omega)
      unfold pnu
      rw [if_pos rfl, if_pos rfl, zup_at, zup_ne (by decide), zup_at, en_f (by omega), en_f (by omega)]
      exact ⟨rfl, rfl, by omega, by omega, ⟨fun _ => by omega, fun _ => by omega⟩, by omega, by omega, fun _ => ⟨by omega, by omega⟩⟩
    · unfold pnu
      rw [if_neg z, if_neg z, zup_no z, zup_ne (by decide), zup_no z, e16]
      exact ⟨p1, p2, p3, p4, p5, p6, p7, fun q => by have := p8 q; omega⟩
end LAYB
