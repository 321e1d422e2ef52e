/-! PURE: roads, the model lays out -/
def en (v : Nat) : Int32 := if v < INF then nI v else -1
theorem en_f {v : Nat} (h : v < INF) : en v = nI v := if_pos h
theorem en_i {v : Nat} (h : ¬ v < INF) : en v = -1 := if_neg h
theorem nI_nm {v : Nat} (h : v < 2147483648) : ¬ nI v = -1 := fun z => by
  have := congrArg Int32.toInt z
  rw [qti h, tm1] at this
  omega
theorem en_m {v : Nat} : en v = -1 ↔ ¬ v < INF := by
  have hv : INF = 1000000000 := rfl
  by_cases h : v < INF
  · rw [en_f h]; exact ⟨fun z => absurd z (nI_nm (by omega)), fun z => absurd h z⟩
  · rw [en_i h]; exact ⟨fun _ => h, fun _ => rfl⟩
theorem INFv : INF = 1000000000 := rfl
/-- miles by boat -/
def boN (S : aS) (bt : Bool) (j : Nat) : Nat := if bt then S 10 j else 0
/-- miles of the way a b, by boat too if bt -/
def wN (S : aS) (bt : Bool) (a b : Nat) : Nat :=
  if S 9 (10 * a + b) = 0 then boN S bt (10 * a + b) else if boN S bt (10 * a + b) = 0 then S 9 (10 * a + b) else min (S 9 (10 * a + b)) (boN S bt (10 * a + b))
/-- lived at, in a year (none: all are) -/
def lvN (S : aS) (y : Option Nat) (b : Nat) : Bool := match y with
  | none => true
  | some z => decide (S 1 b ≤ z) && decide (z ≤ S 2 b)
def yI (y : Option Nat) : Int32 := match y with
  | none => -1
  | some z => nI z
def eN (S : aS) (bt : Bool) (y : Option Nat) (a b : Nat) : Bool := decide (0 < wN S bt a b) && lvN S y b
section LAYB
variable {S : aS}
theorem wN_le (hI : Inv S) {bt : Bool} {a b : Nat} (ha : a < 10) (hb : b < 10) : wN S bt a b ≤ 999 := by
  have h := hI.wy (j := 10 * a + b) (by omega)
  have h2 : boN S bt (10 * a + b) ≤ 999 := by unfold boN; split <;> omega
  unfold wN
  split
  · exact h2
  · split
    · exact h.1
    · omega
abbrev Dl (S : aS) (bt : Bool) (y : Option Nat) (s : Nat) : Nat → Nat := dsN (eN S bt y) (fun _ _ => 1) s 10
abbrev Dm (S : aS) (bt : Bool) (y : Option Nat) (s : Nat) : Nat → Nat := dsN (eN S bt y) (wN S bt) s 10
theorem Dl_stop (bt : Bool) (y : Option Nat) {s : Nat} (hs : s < 10) : Cld (eN S bt y) (fun _ _ => 1) (Dl S bt y s) ∧ ∀ k p, p < 10 → Dl S bt y s p ≤ dsN (eN S bt y) (fun _ _ => 1) s k p := dsN_stop (fun _ _ _ _ => by omega) hs
theorem Dm_stop (hI : Inv S) (bt : Bool) (y : Option Nat) {s : Nat} (hs : s < 10) : Cld (eN S bt y) (wN S bt) (Dm S bt y s) ∧ ∀ k p, p < 10 → Dm S bt y s p ≤ dsN (eN S bt y) (wN S bt) s k p := dsN_stop (fun _ _ ha hb => wN_le hI ha hb) hs
/-- the two rows of the model, k steps done -/
def Lay (S : aS) (bt : Bool) (y : Option Nat) (s : Nat) (τ : zS) (A B : Nat → Nat) (k : Nat) : Prop :=
  RB τ S ∧ ∀ p, p < 10 → τ 15 p = en (A p) ∧ τ 16 p = en (B p) ∧ A p ≤ INF ∧ B p ≤ INF ∧ (A p < INF ↔ B p < INF) ∧ Dl S bt y s p ≤ A p ∧ Dm S bt y s p ≤ B p ∧ (A p < INF → A p ≤ 999 * k ∧ B p ≤ 999 * k)
theorem isLiveB {τ : zS} (hB : RB τ S) (hI : Inv S) {b y : Nat} (hb : b < 10) (hy : y ≤ 10000) : f_X10_isLive (nI b) (nI y) τ = some (if S 1 b ≤ y ∧ y ≤ S 2 b then 1 else 0, τ) := by
  have hp := hI.pl hb
  have hq := hB.pl hb
  unfold f_X10_isLive
  rw [zrd_i (x := 3 * nI b) (j := 3 * b) (by rw [q3, pk_mul]) (by omega) (by omega), zrd_i (x := 3 * nI b + 1) (j := 3 * b + 1) (ix1 3 b 1) (by omega) (by omega), hq.1, hq.2.1, inB, zbd_s, zrb_if, qti (by omega), qti (by omega), qti (by omega)]
  by_cases g : S 1 b ≤ y ∧ y ≤ S 2 b
  · rw [if_pos (by omega), if_pos g]
  · rw [if_neg (by omega), if_neg g]
theorem liveJ {τ : zS} (hB : RB τ S) (hI : Inv S) {y : Option Nat} {b : Nat} (hy : ∀ z, y = some z → z ≤ 10000) (hb : b < 10) (X Y : zS → Option (Int32 × zS)) : (if yI y = -1 then X τ else zbd (f_X10_isLive (nI b) (yI y) τ) fun v1 σ1 => if v1 = 0 then Y σ1 else X σ1) = if lvN S y b = true then X τ else Y τ := by
  cases y with
  | none => rw [if_pos (show yI none = -1 from rfl), if_pos (show lvN S none b = true from rfl)]
  | some z =>
    have hz := hy z rfl
    rw [show yI (some z) = nI z from rfl, if_neg (nI_nm (by omega)), isLiveB hB hI hb hz, zbd_s, ifz]
    exact ifc (by unfold lvN; simp)
theorem lesB {a b : Nat} (ha : a < INF) (hb : b < INF) (σ : zS) : f_X10_lesser (nI a) (nI b) σ = some (nI (min a b), σ) := by
  have hv := INFv
  unfold f_X10_lesser
  by_cases h : b ≤ a
  · rw [if_pos ((qle_n (by omega) (by omega)).mpr h), Nat.min_eq_right h]
  · rw [if_neg (fun z => h ((qle_n (by omega) (by omega)).mp z)), Nat.min_eq_left (by omega)]
/-- one way taken -/
theorem loRel (hI : Inv S) {bt : Bool} {y : Option Nat} {s a b k : Nat} (hs : s < 10) (ha : a < 10) (hb : b < 10) (hk : k ≤ 1000) (he : eN S bt y a b = true) (k71 : Int32 → zS → Option (Int32 × zS)) (x2 x3 x4 : Int32) {τ : zS} {A B : Nat → Nat} (h : Lay S bt y s τ A B k) (hf : A a < INF) :
    ∃ τ1, f_X10_layOut_J179 k71 x2 x3 x4 (nI a) (nI b) (nI (wN S bt a b)) τ = k71 (nI (b + 1)) τ1 ∧ (∀ i, i ≠ 15 → i ≠ 16 → τ1 i = τ i) ∧ Lay S bt y s τ1 (pnu A b (min (A b) (A a + 1))) (pnu B b (min (B b) (B a + wN S bt a b))) (k + 1) := by
  have hv := INFv
  obtain ⟨hB, h⟩ := h
  obtain ⟨a1, a2, a3, a4, a5, a6, a7, a8⟩ := h a ha
  obtain ⟨b1, b2, b3, b4, b5, b6, b7, b8⟩ := h b hb
  have hw := wN_le hI (bt := bt) ha hb
  have fB : B a < INF := a5.mp hf
  have a8' := a8 hf
  have hA1 : A a + 1 < INF := by omega
  have hB1 : B a + wN S bt a b < INF := by omega
  rw [en_f hf] at a1
  rw [en_f fB] at a2
  obtain ⟨τ1, hτ⟩ : ∃ t, t = zup τ 15 b (nI (min (A b) (A a + 1))) := ⟨_, rfl⟩
  have ene : ∀ i, i ≠ 15 → τ1 i = τ i := fun i hi => by rw [hτ, zup_ne hi]
  have e16 : ∀ p, τ1 16 p = τ 16 p := fun p => by rw [ene 16 (by decide)]
  have e15 : τ1 15 b = nI (min (A b) (A a + 1)) := by rw [hτ, zup_at]
  have e15n : ∀ p, p ≠ b → τ1 15 p = τ 15 p := fun p hp => by rw [hτ, zup_no hp]
  have hx : f_X10_layOut_J227 k71 x2 x3 x4 (nI a) (nI b) (nI (wN S bt a b)) (nI (min (A b) (A a + 1))) (nI b) τ = k71 (nI (b + 1)) (zup τ1 16 b (nI (min (B b) (B a + wN S bt a b)))) := by
    unfold f_X10_layOut_J227
    rw [zwr_n hb (by omega), ← hτ, zrd_n hb (by omega), e16, b2]
    by_cases g : B b < INF
    · rw [en_f g, if_neg (nI_nm (by omega)), zrd_n hb (by omega), e16, b2, en_f g, zrd_n ha (by omega), e16, a2, nI_add, lesB g hB1, zbd_s, zwr_n hb (by omega), nI_1]
    · rw [en_i g, if_pos rfl, zrd_n ha (by omega), e16, a2, nI_add, zwr_n hb (by omega), nI_1, show min (B b) (B a + wN S bt a b) = B a + wN S bt a b by omega]
  refine ⟨zup τ1 16 b (nI (min (B b) (B a + wN S bt a b))), ?_, fun i h1 h2 => ?_, ?_, fun p hp => ?_⟩
  · rw [← hx]
    unfold f_X10_layOut_J179
    rw [zrd_n hb (by omega), b1]
    by_cases g : A b < INF
    · rw [en_f g, if_neg (nI_nm (by omega)), zrd_n hb (by omega), b1, en_f g, zrd_n ha (by omega), a1, nI_1, lesB g hA1, zbd_s]
    · rw [en_i g, if_pos rfl, zrd_n ha (by omega), a1, nI_1, show min (A b) (A a + 1) = A a + 1 by omega]
  · rw [zup_ne h2, ene i h1]
  · refine RB_13 hB (fun i hi => ?_)
    rw [zup_ne (by omega), ene i (by omega)]
  · obtain ⟨p1, p2, p3, p4, p5, p6, p7, p8⟩ := h p hp
    by_cases z : p = b
    · subst z
      have d1 : Dl S bt y s p ≤ Dl S bt y s a + 1 := (Dl_stop (S := S) bt y hs).1 a p ha hp he (by omega)
      have d2 := (Dm_stop hI bt y hs).1 a p ha hp he (by omega)
      unfold pnu
      rw [if_pos rfl, if_pos rfl, zup_at, zup_ne (by decide), e15, en_f (by omega), en_f (by omega)]
      exact ⟨rfl, rfl, by omega, by omega, ⟨fun _ => by omega, fun _ => by omega⟩, by omega, by omega, fun _ => ⟨by omega, by omega⟩⟩
    · unfold pnu
      rw [if_neg z, if_neg z, zup_no z, zup_ne (by decide), e15n p z, e16]
      exact ⟨p1, p2, p3, p4, p5, p6, p7, fun q => by have := p8 q; omega⟩
/-- from a, the ways to b and on -/
theorem loL71 (hI : Inv S) {bt : Bool} {y : Option Nat} {s a : Nat} (hs : s < 10) (ha : a < 10) (hy : ∀ z, y = some z → z ≤ 10000) {x3 : Int32} (hx : (x3 = 0) ↔ bt = false) (k61 : Int32 → zS → Option (Int32 × zS)) (x4 : Int32) : ∀ (d n b k : Nat) (τ : zS) (A B : Nat → Nat), Lay S bt y s τ A B k → k + d ≤ 1000 → b + d = 10 → d < n →
    ∃ τ1 A1 B1, f_X10_layOut_L71 k61 (yI y) x3 x4 (nI a) n (nI b) τ = k61 (nI (a + 1)) τ1 ∧ (∀ i, i ≠ 15 → i ≠ 16 → τ1 i = τ i) ∧ Lay S bt y s τ1 A1 B1 (k + d) ∧ (∀ p, p < 10 → A1 p ≤ A p ∧ B1 p ≤ B p) ∧ (A a < INF → ∀ q, b ≤ q → q < 10 → eN S bt y a q = true → A1 q ≤ A a + 1 ∧ B1 q ≤ B a + wN S bt a q)
  | 0, n + 1, b, k, τ, A, B, h, hk, hd, _ => by
    refine ⟨τ, A, B, ?_, fun _ _ _ => rfl, h, fun _ _ => ⟨Nat.le_refl _, Nat.le_refl _⟩, fun _ q h1 h2 => by omega⟩
    rw [f_X10_layOut_L71, if_pos (by rw [q10, qle_n (by omega) (by omega)]; omega), nI_1]
  | d + 1, n + 1, b, k, τ, A, B, h, hk, hd, hn => by
    have hv := INFv
    have hb : b < 10 := by omega
    obtain ⟨a1, a2, a3, a4, a5, a6, a7, a8⟩ := h.2 a ha
    have hwy := hI.wy (j := 10 * a + b) (by omega)
    have hw := wN_le hI (bt := bt) ha hb
    have lay1 : ∀ {τ : zS} {A B : Nat → Nat} {k : Nat}, Lay S bt y s τ A B k → ∀ i, Lay S bt y s τ A B (k + i) := fun h i => ⟨h.1, fun p hp => by
      obtain ⟨p1, p2, p3, p4, p5, p6, p7, p8⟩ := h.2 p hp
      exact ⟨p1, p2, p3, p4, p5, p6, p7, fun q => by have := p8 q; omega⟩⟩
    rw [f_X10_layOut_L71, if_neg (by rw [q10, qle_n (by omega) (by omega)]; omega), zrd_n ha (by omega), a1]
    by_cases hf : A a < INF
    · rw [if_neg (fun z => (en_m.mp z) hf)]
      -- the miles
      have hJ : ∀ k71 : Int32 → zS → Option (Int32 × zS), (zrd τ 2 200 (10 * nI a + nI b) fun v2 => if x3 = 0 then f_X10_layOut_J128 k71 (yI y) x3 x4 (nI a) (nI b) v2 0 τ else zrd τ 2 200 (100 + 10 * nI a + nI b) fun v3 => f_X10_layOut_J128 k71 (yI y) x3 x4 (nI a) (nI b) v2 v3 τ) = f_X10_layOut_J157 k71 (yI y) x3 x4 (nI a) (nI b) (nI (wN S bt a b)) τ := by
        intro k71
        have w1 := h.1.wy (j := 10 * a + b) (by omega)
        have hm : (if x3 = 0 then f_X10_layOut_J128 k71 (yI y) x3 x4 (nI a) (nI b) (nI (S 9 (10 * a + b))) 0 τ else zrd τ 2 200 (100 + 10 * nI a + nI b) fun v3 => f_X10_layOut_J128 k71 (yI y) x3 x4 (nI a) (nI b) (nI (S 9 (10 * a + b))) v3 τ) = f_X10_layOut_J128 k71 (yI y) x3 x4 (nI a) (nI b) (nI (S 9 (10 * a + b))) (nI (boN S bt (10 * a + b))) τ := by
          unfold boN
          by_cases z : x3 = 0
          · rw [if_pos z, if_neg (by rw [hx.mp z]; decide)]; rfl
          · have hbt : bt = true := by
              cases bt
              · exact absurd (hx.mpr rfl) z
              · rfl
            rw [if_neg z, if_pos hbt, zrd_i (x := 100 + 10 * nI a + nI b) (j := 100 + (10 * a + b)) (by rw [q10, q100, pk_mul, nI_add, nI_add, Nat.add_assoc]) (by omega) (by omega), w1.2]
        have hbo : boN S bt (10 * a + b) ≤ 999 := by unfold boN; split <;> omega
        rw [zrd_i (x := 10 * nI a + nI b) (j := 10 * a + b) (by rw [q10, pk_mul, nI_add]) (by omega) (by omega), w1.1, hm]
        unfold f_X10_layOut_J128 wN
        by_cases z1 : S 9 (10 * a + b) = 0
        · rw [if_pos (by rw [z1]; rfl), if_pos z1]
        · rw [if_neg (by rw [q0, qeq_n (by omega) (by omega)]; exact z1), if_neg z1]
          by_cases z2 : boN S bt (10 * a + b) = 0
          · rw [if_pos (by rw [z2]; rfl), if_pos z2]
          · rw [if_neg (by rw [q0, qeq_n (by omega) (by omega)]; exact z2), if_neg z2, lesB (by omega) (by omega), zbd_s]
      rw [hJ]
      have no : eN S bt y a b = false → ∃ τ1 A1 B1, f_X10_layOut_L71 k61 (yI y) x3 x4 (nI a) n (nI (b + 1)) τ = k61 (nI (a + 1)) τ1 ∧ (∀ i, i ≠ 15 → i ≠ 16 → τ1 i = τ i) ∧ Lay S bt y s τ1 A1 B1 (k + (d + 1)) ∧ (∀ p, p < 10 → A1 p ≤ A p ∧ B1 p ≤ B p) ∧ (A a < INF → ∀ q, b ≤ q → q < 10 → eN S bt y a q = true → A1 q ≤ A a + 1 ∧ B1 q ≤ B a + wN S bt a q) := fun he => by
        obtain ⟨τ1, A1, B1, c1, c2, c3, c4, c5⟩ := loL71 hI hs ha hy hx k61 x4 d n (b + 1) k τ A B h (by omega) (by omega) (by omega)
        refine ⟨τ1, A1, B1, c1, c2, lay1 c3 1, c4, fun hf q h1 h2 h3 => ?_⟩
        by_cases z : q = b
        · rw [z, he] at h3; cases h3
        · exact c5 hf q (by omega) h2 h3
      unfold f_X10_layOut_J157
      by_cases g0 : wN S bt a b = 0
      · rw [if_pos (by rw [q0, qle_n (by omega) (by omega)]; omega), nI_1]
        exact no (by unfold eN; simp [g0])
      · rw [if_neg (by rw [q0, qle_n (by omega) (by omega)]; omega), liveJ h.1 hI hy hb (fun σ => f_X10_layOut_J179 (fun x6 σ => f_X10_layOut_L71 k61 (yI y) x3 x4 (nI a) n x6 σ) (yI y) x3 x4 (nI a) (nI b) (nI (wN S bt a b)) σ) (fun σ => f_X10_layOut_L71 k61 (yI y) x3 x4 (nI a) n (nI b + 1) σ)]
        by_cases g1 : lvN S y b = true
        · have he : eN S bt y a b = true := by unfold eN; rw [g1, decide_eq_true (show 0 < wN S bt a b by omega)]; rfl
          rw [if_pos g1]
          obtain ⟨τ1, r1, r2, r3⟩ := loRel hI hs ha hb (by omega) he (fun x6 σ => f_X10_layOut_L71 k61 (yI y) x3 x4 (nI a) n x6 σ) (yI y) x3 x4 h hf
          obtain ⟨τ2, A2, B2, c1, c2, c3, c4, c5⟩ := loL71 hI hs ha hy hx k61 x4 d n (b + 1) (k + 1) τ1 _ _ r3 (by omega) (by omega) (by omega)
          have ma : ∀ p, pnu A b (min (A b) (A a + 1)) p ≤ A p := fun p => by
            unfold pnu
            by_cases z : p = b
            · rw [if_pos z, z]; omega
            · rw [if_neg z]; exact Nat.le_refl _
          have mb : ∀ p, pnu B b (min (B b) (B a + wN S bt a b)) p ≤ B p := fun p => by
            unfold pnu
            by_cases z : p = b
            · rw [if_pos z, z]; omega
            · rw [if_neg z]; exact Nat.le_refl _
          refine ⟨τ2, A2, B2, r1.trans c1, fun i h1 h2 => by rw [c2 i h1 h2, r2 i h1 h2], ?_, fun p hp => ?_, fun _ q h1 h2 h3 => ?_⟩
          · rw [show k + (d + 1) = k + 1 + d by omega]; exact c3
          · have := c4 p hp; have := ma p; have := mb p; omega
          · have m1 := ma a
            have m2 := mb a
            by_cases z : q = b
            · have c := c4 b hb
              unfold pnu at c
              rw [if_pos rfl, if_pos rfl] at c
              rw [z]; omega
            · have := c5 (by omega) q (by omega) h2 h3
              omega
        · rw [if_neg g1, nI_1]
          exact no (by unfold eN; rw [Bool.eq_false_iff.mpr g1, Bool.and_false])
    · rw [if_pos (en_m.mpr hf), nI_1]
      exact ⟨τ, A, B, rfl, fun _ _ _ => rfl, lay1 h (d + 1), fun _ _ => ⟨Nat.le_refl _, Nat.le_refl _⟩, fun z => absurd z hf⟩
theorem ds_le {e : Nat → Nat → Bool} {c : Nat → Nat → Nat} {s t : Nat} {L : Nat → Nat} {q : Nat} (h0 : L q ≤ dsN e c s t q) (hi : L q ≤ INF) (h : ∀ a, a < 10 → e a q = true → dsN e c s t a < INF → L q ≤ dsN e c s t a + c a q) : L q ≤ dsN e c s (t + 1) q := by
  rw [dsN]
  have : L q ≤ mnI (rel e c (dsN e c s t) q) 10 := le_mnI hi (fun a ha => by
    unfold rel
    by_cases g : e a q = true ∧ dsN e c s t a < INF
    · rw [if_pos g]; exact h a ha g.1 g.2
    · rw [if_neg g]; exact hi)
  omega
theorem loL61 (hI : Inv S) {bt : Bool} {y : Option Nat} {s : Nat} (hs : s < 10) (hy : ∀ z, y = some z → z ≤ 10000) {x3 : Int32} (hx : (x3 = 0) ↔ bt = false) (k51 : Int32 → zS → Option (Int32 × zS)) (t : Nat) : ∀ (d n a k : Nat) (τ : zS) (A B : Nat → Nat), Lay S bt y s τ A B k → k + 10 * d ≤ 1000 → (∀ p, p < 10 → A p ≤ dsN (eN S bt y) (fun _ _ => 1) s t p ∧ B p ≤ dsN (eN S bt y) (wN S bt) s t p) → (∀ u q, u < a → q < 10 → eN S bt y u q = true → (dsN (eN S bt y) (fun _ _ => 1) s t u < INF → A q ≤ dsN (eN S bt y) (fun _ _ => 1) s t u + 1) ∧ (dsN (eN S bt y) (wN S bt) s t u < INF → B q ≤ dsN (eN S bt y) (wN S bt) s t u + wN S bt u q)) → a + d = 10 → d < n →
    ∃ τ1 A1 B1, f_X10_layOut_L61 k51 (yI y) x3 (nI t) n (nI a) τ = k51 (nI (t + 1)) τ1 ∧ (∀ i, i ≠ 15 → i ≠ 16 → τ1 i = τ i) ∧ Lay S bt y s τ1 A1 B1 (k + 10 * d) ∧ (∀ p, p < 10 → A1 p ≤ dsN (eN S bt y) (fun _ _ => 1) s (t + 1) p ∧ B1 p ≤ dsN (eN S bt y) (wN S bt) s (t + 1) p)
  | 0, n + 1, a, k, τ, A, B, h, hk, hp, hu, hd, _ => by
    refine ⟨τ, A, B, ?_, fun _ _ _ => rfl, h, fun q hq => ?_⟩
    · rw [f_X10_layOut_L61, if_pos (by rw [q10, qle_n (by omega) (by omega)]; omega), nI_1]
    · obtain ⟨_, _, p3, p4, _⟩ := h.2 q hq
      exact ⟨ds_le (hp q hq).1 p3 (fun u hu1 he hf => (hu u q (by omega) hq he).1 hf), ds_le (hp q hq).2 p4 (fun u hu1 he hf => (hu u q (by omega) hq he).2 hf)⟩
  | d + 1, n + 1, a, k, τ, A, B, h, hk, hp, hu, hd, hn => by
    have ha : a < 10 := by omega
    obtain ⟨τ1, A1, B1, c1, c2, c3, c4, c5⟩ := loL71 hI hs ha hy hx (fun x5 σ => f_X10_layOut_L61 k51 (yI y) x3 (nI t) n x5 σ) (nI t) 10 zfu 0 k τ A B h (by omega) (by omega) (zfu_gt (by omega))
    have hpa := hp a ha
    obtain ⟨_, _, _, _, a5, _⟩ := h.2 a ha
    obtain ⟨τ2, A2, B2, e1, e2, e3, e4⟩ := loL61 hI hs hy hx k51 t d n (a + 1) (k + 10) τ1 A1 B1 c3 (by omega) (fun p hp1 => by have := hp p hp1; have := c4 p hp1; omega) (fun u q hu1 hq he => by
      have m := c4 q hq
      by_cases z : u = a
      · subst z
        refine ⟨fun hf => ?_, fun hf => ?_⟩
        · have := c5 (by omega) q (Nat.zero_le q) hq he; omega
        · have := c5 (a5.mpr (by omega)) q (Nat.zero_le q) hq he; omega
      · have g := hu u q (by omega) hq he
        exact ⟨fun hf => by have := g.1 hf; omega, fun hf => by have := g.2 hf; omega⟩) (by omega) (by omega)
    refine ⟨τ2, A2, B2, ?_, fun i h1 h2 => by rw [e2 i h1 h2, c2 i h1 h2], ?_, e4⟩
    · rw [f_X10_layOut_L61, if_neg (by rw [q10, qle_n (by omega) (by omega)]; omega)]
      exact Eq.trans c1 e1
    · rw [show k + 10 * (d + 1) = k + 10 + 10 * d by omega]; exact e3
theorem loL51 (hI : Inv S) {bt : Bool} {y : Option Nat} {s : Nat} (hs : s < 10) (hy : ∀ z, y = some z → z ≤ 10000) {x3 : Int32} (hx : (x3 = 0) ↔ bt = false) : ∀ (d n t : Nat) (τ : zS) (A B : Nat → Nat), Lay S bt y s τ A B (100 * t) → (∀ p, p < 10 → A p ≤ dsN (eN S bt y) (fun _ _ => 1) s t p ∧ B p ≤ dsN (eN S bt y) (wN S bt) s t p) → t + d = 10 → d < n →
    ∃ τ1, f_X10_layOut_L51 (yI y) x3 n (nI t) τ = some (0, τ1) ∧ (∀ i, i ≠ 15 → i ≠ 16 → τ1 i = τ i) ∧ ∀ p, p < 10 → τ1 15 p = en (Dl S bt y s p) ∧ τ1 16 p = en (Dm S bt y s p)
  | 0, n + 1, t, τ, A, B, h, hp, hd, _ => by
    have ht : t = 10 := by omega
    subst ht
    refine ⟨τ, ?_, fun _ _ _ => rfl, fun p hp1 => ?_⟩
    · rw [f_X10_layOut_L51, if_pos (by decide)]
    · obtain ⟨p1, p2, p3, p4, p5, p6, p7, p8⟩ := h.2 p hp1
      have g := hp p hp1
      rw [p1, p2, show A p = Dl S bt y s p from Nat.le_antisymm g.1 p6, show B p = Dm S bt y s p from Nat.le_antisymm g.2 p7]
      exact ⟨rfl, rfl⟩
  | d + 1, n + 1, t, τ, A, B, h, hp, hd, hn => by
    obtain ⟨τ1, A1, B1, c1, c2, c3, c4⟩ := loL61 hI hs hy hx (fun x4 σ => f_X10_layOut_L51 (yI y) x3 n x4 σ) t 10 zfu 0 (100 * t) τ A B h (by omega) hp (fun u q hu => absurd hu (Nat.not_lt_zero u)) (by omega) (zfu_gt (by omega))
    obtain ⟨τ2, e1, e2, e3⟩ := loL51 hI hs hy hx d n (t + 1) τ1 A1 B1 (by rw [show 100 * (t + 1) = 100 * t + 10 * 10 by omega]; exact c3) c4 (by omega) (by omega)
    refine ⟨τ2, ?_, fun i h1 h2 => by rw [e2 i h1 h2, c2 i h1 h2], e3⟩
    rw [f_X10_layOut_L51, if_neg (by rw [q10, qle_n (by omega) (by omega)]; omega)]
    exact Eq.trans c1 e1
theorem loL3 {s : Nat} (hs : s < 10) (x2 x3 : Int32) : ∀ (d n p : Nat) (τ : zS), (∀ q, q < p → τ 15 q = en (if q = s then 0 else INF) ∧ τ 16 q = en (if q = s then 0 else INF)) → p + d = 10 → d < n →
    ∃ τ1, f_X10_layOut_L3 (nI s) x2 x3 n (nI p) τ = f_X10_layOut_L51 x2 x3 zfu 0 τ1 ∧ (∀ i, i ≠ 15 → i ≠ 16 → τ1 i = τ i) ∧ ∀ q, q < 10 → τ1 15 q = en (if q = s then 0 else INF) ∧ τ1 16 q = en (if q = s then 0 else INF)
  | 0, n + 1, p, τ, h, hd, _ => by
    refine ⟨τ, ?_, fun _ _ _ => rfl, fun q hq => h q (by omega)⟩
    rw [f_X10_layOut_L3, if_pos (by rw [q10, qle_n (by omega) (by omega)]; omega)]
  | d + 1, n + 1, p, τ, h, hd, hn => by
    have hp : p < 10 := by omega
    have step : ∀ v : Int32, v = en (if p = s then 0 else INF) → ∃ τ1, f_X10_layOut_J27 (fun x4 σ => f_X10_layOut_L3 (nI s) x2 x3 n x4 σ) (nI s) x2 x3 (nI p) v (nI p) τ = f_X10_layOut_L51 x2 x3 zfu 0 τ1 ∧ (∀ i, i ≠ 15 → i ≠ 16 → τ1 i = τ i) ∧ ∀ q, q < 10 → τ1 15 q = en (if q = s then 0 else INF) ∧ τ1 16 q = en (if q = s then 0 else INF) := by
      intro v hv
      obtain ⟨τ1, a1, a2, a3⟩ := loL3 hs x2 x3 d n (p + 1) (zup (zup τ 15 p v) 16 p v) (fun q hq => by
        by_cases z : q = p
        · rw [z, zup_at, zup_ne (by decide), zup_at]; exact ⟨hv, hv⟩
        · rw [zup_no z, zup_ne (by decide), zup_no z, zup_ne (by decide)]; exact h q (by omega)) (by omega) (by omega)
      refine ⟨τ1, ?_, fun i h1 h2 => by rw [a2 i h1 h2, zup_ne h2, zup_ne h1], a3⟩
      unfold f_X10_layOut_J27
      rw [zwr_n hp (by omega), zrd_n hp (by omega), zup_at, zwr_n hp (by omega), nI_1]
      exact a1
    rw [f_X10_layOut_L3, if_neg (by rw [q10, qle_n (by omega) (by omega)]; omega)]
    by_cases z : p = s
    · rw [if_pos (by rw [z])]
      exact step 0 (by rw [if_pos z]; rfl)
    · rw [if_neg (by rw [qeq_n (by omega) (by omega)]; exact z)]
      exact step (-1) (by rw [if_neg z]; rfl)
theorem layOutB (hI : Inv S) {τ : zS} (hB : RB τ S) {bt : Bool} {y : Option Nat} {s : Nat} (hs : s < 10) (hy : ∀ z, y = some z → z ≤ 10000) {x3 : Int32} (hx : (x3 = 0) ↔ bt = false) : ∃ τ1, f_X10_layOut (nI s) (yI y) x3 τ = some (0, τ1) ∧ RB τ1 S ∧ (∀ i, i ≠ 15 → i ≠ 16 → τ1 i = τ i) ∧ ∀ p, p < 10 → τ1 15 p = en (Dl S bt y s p) ∧ τ1 16 p = en (Dm S bt y s p) := by
  obtain ⟨τ1, a1, a2, a3⟩ := loL3 hs (yI y) x3 10 zfu 0 τ (fun q hq => absurd hq (Nat.not_lt_zero q)) (by omega) (zfu_gt (by omega))
  have hB1 : RB τ1 S := RB_13 hB (fun i hi => a2 i (by omega) (by omega))
  have hv := INFv
  obtain ⟨τ2, b1, b2, b3⟩ := loL51 hI hs hy hx 10 zfu 0 τ1 (fun q => if q = s then 0 else INF) (fun q => if q = s then 0 else INF) ⟨hB1, fun p hp => by
    have d1 := (Dl_stop (S := S) bt y hs).2 0 p hp
    have d2 := (Dm_stop hI bt y hs).2 0 p hp
    refine ⟨(a3 p hp).1, (a3 p hp).2, ?_, ?_, Iff.rfl, d1, d2, fun h => ?_⟩
    · show (if p = s then 0 else INF) ≤ INF; split <;> omega
    · show (if p = s then 0 else INF) ≤ INF; split <;> omega
    · have h' : (if p = s then 0 else INF) < INF := h
      show (if p = s then 0 else INF) ≤ _ ∧ (if p = s then 0 else INF) ≤ _
      by_cases z : p = s
      · rw [if_pos z]; omega
      · rw [if_neg z] at h'; omega⟩ (fun p _ => ⟨Nat.le_refl _, Nat.le_refl _⟩) (by omega) (zfu_gt (by omega))
  refine ⟨τ2, a1.trans b1, RB_13 hB1 (fun i hi => b2 i (by omega) (by omega)), fun i h1 h2 => by rw [b2 i h1 h2, a2 i h1 h2], b3⟩
end LAYB
