/-! PURE: roads, the class: bits -/
theorem bN_tb (p : Nat → Bool) (n i : Nat) : (bN p n).testBit i = (decide (i < n) && p i) := by
  rw [Nat.testBit_eq_decide_div_mod_eq]
  by_cases h : i < n
  · rw [bN_bit p n i h]
    cases p i <;> simp [h]
  · rw [bN_high p (by omega)]
    simp [h]
theorem bN_gb (p : Nat → Bool) {n i : Nat} (hn : n ≤ 12) : (nI (bN p n)).toBitVec.getLsbD i = (decide (i < n) && p i) := by
  show (BitVec.ofNat 32 (bN p n)).getLsbD i = _
  rw [BitVec.getLsbD_ofNat, bN_tb]
  by_cases h : i < n
  · simp [h, show i < 32 by omega]
  · simp [h]
theorem bN_orB (p q : Nat → Bool) {n : Nat} (hn : n ≤ 12) : nI (bN p n) ||| nI (bN q n) = nI (bN (fun i => p i || q i) n) := by
  apply Int32.toBitVec_inj.1
  apply BitVec.eq_of_getLsbD_eq
  intro i _
  have e1 := bN_gb p (i := i) hn
  have e2 := bN_gb q (i := i) hn
  have e3 := bN_gb (fun i => p i || q i) (i := i) hn
  show ((nI (bN p n)).toBitVec ||| (nI (bN q n)).toBitVec).getLsbD i = (nI (bN (fun i => p i || q i) n)).toBitVec.getLsbD i
  rw [BitVec.getLsbD_or, e1, e2, e3]
  cases decide (i < n) <;> simp
theorem bN_andB (p q : Nat → Bool) {n : Nat} (hn : n ≤ 12) : nI (bN p n) &&& nI (bN q n) = nI (bN (fun i => p i && q i) n) := by
  apply Int32.toBitVec_inj.1
  apply BitVec.eq_of_getLsbD_eq
  intro i _
  have e1 := bN_gb p (i := i) hn
  have e2 := bN_gb q (i := i) hn
  have e3 := bN_gb (fun i => p i && q i) (i := i) hn
  show ((nI (bN p n)).toBitVec &&& (nI (bN q n)).toBitVec).getLsbD i = (nI (bN (fun i => p i && q i) n)).toBitVec.getLsbD i
  rw [BitVec.getLsbD_and, e1, e2, e3]
  cases decide (i < n) <;> simp
theorem bN_ann (p q : Nat → Bool) {n : Nat} (hn : n ≤ 12) : nI (bN p n) &&& (nI (bN q n) ^^^ (-1)) = nI (bN (fun i => p i && !q i) n) := by
  apply Int32.toBitVec_inj.1
  apply BitVec.eq_of_getLsbD_eq
  intro i hi
  have e1 := bN_gb p (i := i) hn
  have e2 := bN_gb q (i := i) hn
  have e3 := bN_gb (fun i => p i && !q i) (i := i) hn
  have e4 : (BitVec.allOnes 32).getLsbD i = true := by rw [BitVec.getLsbD_allOnes]; exact decide_eq_true hi
  show ((nI (bN p n)).toBitVec &&& ((nI (bN q n)).toBitVec ^^^ BitVec.allOnes 32)).getLsbD i = (nI (bN (fun i => p i && !q i) n)).toBitVec.getLsbD i
  rw [BitVec.getLsbD_and, BitVec.getLsbD_xor, e1, e2, e3, e4]
  cases decide (i < n) <;> simp
theorem bN_cong {p q : Nat → Bool} : ∀ {n : Nat}, (∀ k, k < n → p k = q k) → bN p n = bN q n
  | 0, _ => rfl
  | n + 1, h => by rw [bN, bN, bN_cong (fun k hk => h k (by omega)), h n (by omega)]
theorem bN_z (p : Nat → Bool) {n : Nat} (hn : n ≤ 12) : nI (bN p n) = 0 ↔ ∀ i, i < n → p i = false := by
  have := bN_31 p hn
  rw [nI_z (by omega)]
  refine ⟨fun h i hi => ?_, fun h => bN_zero h⟩
  have e := bN_bit p n i hi
  rw [h, Nat.zero_div] at e
  cases hp : p i
  · rfl
  · rw [hp] at e; simp at e
theorem bN_one {s n : Nat} (hs : s < n) : bN (fun i => decide (i = s)) n = 2 ^ s := by
  apply Nat.eq_of_testBit_eq
  intro i
  rw [bN_tb, Nat.testBit_two_pow]
  by_cases h : i = s
  · subst h; simp [hs]
  · simp [h, Ne.symm h]
theorem shl_one {s n : Nat} (hs : s < n) (hn : n ≤ 12) : (1 : Int32) <<< (nI s &&& 31) = nI (bN (fun i => decide (i = s)) n) := by
  rw [bN_one hs]; exact shl1N (by omega)
def exN (p : Nat → Bool) : Nat → Bool
  | 0 => false
  | n + 1 => exN p n || p n
theorem exN_iff {p : Nat → Bool} : ∀ {n : Nat}, exN p n = true ↔ ∃ a, a < n ∧ p a = true
  | 0 => ⟨fun h => (by cases h), fun ⟨a, h, _⟩ => absurd h (Nat.not_lt_zero a)⟩
  | n + 1 => by
    rw [exN, Bool.or_eq_true, exN_iff]
    constructor
    · rintro (⟨a, h1, h2⟩ | h)
      · exact ⟨a, by omega, h2⟩
      · exact ⟨n, by omega, h⟩
    · rintro ⟨a, h1, h2⟩
      by_cases z : a = n
      · exact Or.inr (z ▸ h2)
      · exact Or.inl ⟨a, by omega, h2⟩
theorem mnI_ex {f : Nat → Nat} : ∀ {n : Nat}, mnI f n < INF → ∃ u, u < n ∧ f u = mnI f n
  | 0, h => absurd h (Nat.lt_irrefl _)
  | n + 1, h => by
    rw [mnI] at h ⊢
    by_cases g : f n ≤ mnI f n
    · exact ⟨n, by omega, by omega⟩
    · obtain ⟨u, h1, h2⟩ := mnI_ex (f := f) (n := n) (by omega)
      exact ⟨u, by omega, by omega⟩
section UNIT
variable {e : Nat → Nat → Bool} {s : Nat}
abbrev d1 (e : Nat → Nat → Bool) (s k p : Nat) : Nat := dsN e (fun _ _ => 1) s k p
theorem d1_prev {k p : Nat} (h : d1 e s (k + 1) p < INF) : d1 e s (k + 1) p = d1 e s k p ∨ ∃ a, a < 10 ∧ e a p = true ∧ d1 e s k a < INF ∧ d1 e s (k + 1) p = d1 e s k a + 1 := by
  have e0 : d1 e s (k + 1) p = min (d1 e s k p) (mnI (rel e (fun _ _ => 1) (dsN e (fun _ _ => 1) s k) p) 10) := rfl
  by_cases g : d1 e s k p ≤ mnI (rel e (fun _ _ => 1) (dsN e (fun _ _ => 1) s k) p) 10
  · exact Or.inl (by omega)
  · obtain ⟨a, h1, h2⟩ := mnI_ex (f := rel e (fun _ _ => 1) (dsN e (fun _ _ => 1) s k) p) (n := 10) (by omega)
    have h3 : rel e (fun _ _ => 1) (dsN e (fun _ _ => 1) s k) p a < INF := by omega
    have h2 : rel e (fun _ _ => 1) (dsN e (fun _ _ => 1) s k) p a = d1 e s (k + 1) p := by omega
    unfold rel at h2 h3
    by_cases z : e a p = true ∧ dsN e (fun _ _ => 1) s k a < INF
    · rw [if_pos z] at h2 h3
      exact Or.inr ⟨a, h1, z.1, z.2, h2.symm⟩
    · rw [if_neg z] at h3; omega
theorem d1_le : ∀ (k p : Nat), d1 e s k p < INF → d1 e s k p ≤ k
  | 0, p, h => by
    have e0 : d1 e s 0 p = if p = s then 0 else INF := rfl
    rw [e0] at h ⊢
    by_cases z : p = s
    · rw [if_pos z]; exact Nat.le_refl _
    · rw [if_neg z] at h; omega
  | k + 1, p, h => by
    rcases d1_prev h with g | ⟨a, _, _, g2, g3⟩
    · have := d1_le k p (by omega); omega
    · have := d1_le k a g2; omega
theorem d1_at : ∀ (k p v : Nat), d1 e s k p = v → v < INF → d1 e s v p ≤ v
  | 0, p, v, h, hv => by
    have := d1_le (e := e) (s := s) 0 p (by omega)
    have hz : v = 0 := by omega
    rw [hz] at h ⊢; omega
  | k + 1, p, v, h, hv => by
    rcases d1_prev (e := e) (s := s) (k := k) (p := p) (by omega) with g | ⟨a, g1, g2, g3, g4⟩
    · exact d1_at k p v (by omega) hv
    · have i := d1_at k a (d1 e s k a) rfl g3
      have j : d1 e s (d1 e s k a + 1) p ≤ d1 e s (d1 e s k a) a + 1 := dsN_edge (c := fun _ _ => 1) (s := s) (k := d1 e s k a) g1 g2 (Nat.lt_of_le_of_lt i g3)
      rw [show v = d1 e s k a + 1 by omega]
      omega
/-- come to in k steps; in the k-th -/
def rkB (e : Nat → Nat → Bool) (s k p : Nat) : Bool := decide (d1 e s k p < INF)
def ekB (e : Nat → Nat → Bool) (s : Nat) : Nat → Nat → Bool
  | 0, p => rkB e s 0 p
  | k + 1, p => rkB e s (k + 1) p && !rkB e s k p
theorem rkB_i {k p : Nat} : rkB e s k p = true ↔ d1 e s k p < INF := by unfold rkB; simp
theorem rkB_f {k p : Nat} : rkB e s k p = false ↔ ¬ d1 e s k p < INF := by unfold rkB; simp
theorem rkB_s {k p : Nat} (h : rkB e s k p = true) : rkB e s (k + 1) p = true := by
  rw [rkB_i] at h ⊢
  have : d1 e s (k + 1) p ≤ d1 e s k p := dsN_mono
  omega
theorem rkB_e {k a b : Nat} (hk : k ≤ 1000) (ha : a < 10) (he : e a b = true) (h : rkB e s k a = true) : rkB e s (k + 1) b = true := by
  rw [rkB_i] at h ⊢
  have h1 := d1_le k a h
  have h2 : d1 e s (k + 1) b ≤ d1 e s k a + 1 := dsN_edge (c := fun _ _ => 1) (s := s) (k := k) ha he h
  have := INFv
  omega
theorem ekB_n {k b : Nat} (hk : k ≤ 1000) : ekB e s (k + 1) b = true ↔ (∃ a, a < 10 ∧ ekB e s k a = true ∧ e a b = true) ∧ rkB e s k b = false := by
  constructor
  · intro h
    rw [ekB, Bool.and_eq_true] at h
    obtain ⟨h1, h2⟩ := h
    have h3 : rkB e s k b = false := by simpa using h2
    refine ⟨?_, h3⟩
    rw [rkB_i] at h1
    rw [rkB_f] at h3
    rcases d1_prev h1 with g | ⟨a, g1, g2, g3, g4⟩
    · omega
    · refine ⟨a, g1, ?_, g2⟩
      cases k with
      | zero => exact rkB_i.mpr g3
      | succ j =>
        rw [ekB, Bool.and_eq_true]
        refine ⟨rkB_i.mpr g3, ?_⟩
        cases hj : rkB e s j a
        · rfl
        · have := rkB_i.mp (rkB_e (by omega) g1 g2 hj); omega
  · rintro ⟨⟨a, g1, g2, g3⟩, g4⟩
    have ha : rkB e s k a = true := by
      cases k with
      | zero => exact g2
      | succ j => rw [ekB, Bool.and_eq_true] at g2; exact g2.1
    rw [ekB, Bool.and_eq_true, g4]
    exact ⟨rkB_e hk g1 g3 ha, rfl⟩
theorem rkB_0 (hs : s < 10) {k : Nat} : rkB e s k s = true := by
  rw [rkB_i]
  have h : d1 e s (0 + k) s ≤ d1 e s 0 s := dsN_mono2
  rw [Nat.zero_add] at h
  have e0 : d1 e s 0 s = 0 := if_pos rfl
  have := INFv
  omega
/-- first come to in the k-th step -/
theorem d1_first (hs : s < 10) {k g : Nat} (hg : g < 10) (h : rkB e s k g = true) (hn : ∀ j, j < k → rkB e s j g = false) : d1 e s 10 g = k := by
  rw [rkB_i] at h
  have h1 := (dsN_stop (e := e) (c := fun _ _ => 1) (s := s) (fun _ _ _ _ => by omega) hs).2 k g hg
  have h2 := d1_le k g h
  have h3 : d1 e s 10 g ≤ d1 e s k g := h1
  have h4 := d1_at (e := e) (s := s) 10 g _ rfl (by omega)
  by_cases z : d1 e s 10 g < k
  · have := rkB_f.mp (hn _ z); omega
  · omega
/-- nothing new: never -/
theorem d1_none (hs : s < 10) {k g : Nat} (hk : k ≤ 1000) (hg : g < 10) (h : rkB e s k g = false) (hn : ∀ b, b < 10 → ekB e s (k + 1) b = false) : ¬ d1 e s 10 g < INF := by
  have hv := INFv
  have hc : Cld e (fun _ _ => 1) (fun p => if rkB e s k p = true then 0 else INF) := by
    intro a b ha hb he hf
    have h1 : rkB e s k a = true := by
      cases z : rkB e s k a
      · have hf' : (if rkB e s k a = true then 0 else INF) < INF := hf
        rw [z, if_neg (by decide)] at hf'; omega
      · rfl
    have h2 := rkB_e hk ha he h1
    have h3 : rkB e s k b = true := by
      cases z : rkB e s k b
      · have := hn b hb
        rw [ekB, h2, z] at this; cases this
      · rfl
    show (if rkB e s k b = true then 0 else INF) ≤ _
    rw [if_pos h3]; exact Nat.zero_le _
  have := Cld_le (s := s) hc (if_pos (rkB_0 hs)) (fun p _ => by show (if rkB e s k p = true then 0 else INF) ≤ INF; split <;> omega) 10 g hg
  have h2 : (if rkB e s k g = true then 0 else INF) ≤ d1 e s 10 g := this
  rw [h, if_neg (by decide)] at h2
  omega
end UNIT
section RDA
variable {σ : zS} {S : aS}
theorem RA_k {σ1 : zS} (h : RA σ S) (hk : ∀ k, k < 27 ∨ k = 39 ∨ k = 40 → σ1 k = σ k) : RA σ1 S := by
  refine RA_keep h (fun k hm => hk k ?_) (by rw [hk 1 (by omega)])
  have hall : keepA.all (fun k => decide (k < 27 ∨ k = 39 ∨ k = 40)) = true := by decide
  have := List.all_eq_true.mp hall k hm
  simpa using this
theorem liveL (hA : RA σ S) (hI : Inv S) {z : Nat} (hz : z ≤ 10000) : ∀ (d n k : Nat), k + d = 10 → d < n → f_X3_liveIn_L4 (nI z) n (nI (bN (lvN S (some z)) k)) (nI k) σ = some (nI (bN (lvN S (some z)) 10), σ)
  | 0, n + 1, k, h, _ => by
    have hk : k = 10 := by omega
    subst hk
    rw [f_X3_liveIn_L4, if_pos (by decide)]
  | d + 1, n + 1, k, h, hn => by
    have hk : k < 10 := by omega
    have ih := liveL hA hI hz d n (k + 1) (by omega) (by omega)
    have hp := hI.pl hk
    rw [f_X3_liveIn_L4, if_neg (by rw [q10, qle_n (by omega) (by omega)]; omega), zrd_n hk (by omega), zrd_n hk (by omega), hA.row 5 1 10 (by decide) hk, hA.row 6 2 10 (by decide) hk, isWithinA, zbd_s, ifz, qti (by omega), qti (by omega), qti (by omega), nI_1]
    by_cases g : S 1 k ≤ z ∧ z ≤ S 2 k
    · rw [if_pos (by omega), shl1N (by omega), bN_or (by unfold lvN; simp; exact g)]
      exact ih
    · rw [if_neg (by omega)]
      rw [bN_no (by unfold lvN; simp; omega)] at ih
      exact ih
theorem liveA (hA : RA σ S) (hI : Inv S) {z : Nat} (hz : z ≤ 10000) : f_X3_liveIn (nI z) σ = some (nI (bN (lvN S (some z)) 10), σ) := liveL hA hI hz 10 zfu 0 (by omega) (zfu_gt (by omega))
theorem wN_pos {bt : Bool} {a b : Nat} : decide (0 < wN S bt a b) = (decide (0 < S 9 (10 * a + b)) || (bt && decide (0 < S 10 (10 * a + b)))) := by
  have hb : boN S bt (10 * a + b) = if bt then S 10 (10 * a + b) else 0 := rfl
  unfold wN
  cases bt
  · rw [if_neg (by decide)] at hb
    rw [hb]
    by_cases z : S 9 (10 * a + b) = 0
    · rw [if_pos z]; simp [z]
    · rw [if_neg z, if_pos rfl]; simp
  · rw [if_pos rfl] at hb
    rw [hb]
    by_cases z : S 9 (10 * a + b) = 0
    · rw [if_pos z]; simp [z]
    · rw [if_neg z]
      by_cases z2 : S 10 (10 * a + b) = 0
      · rw [if_pos z2]; simp [z2]
      · rw [if_neg z2]
        rw [decide_eq_true (show 0 < min (S 9 (10 * a + b)) (S 10 (10 * a + b)) by omega), decide_eq_true (show 0 < S 9 (10 * a + b) by omega)]; rfl
theorem waysA (hA : RA σ S) {a : Nat} (ha : a < 10) {bt : Bool} {x : Int32} (hx : (x = 0) ↔ bt = false) : f_X3_waysFrom (nI a) x σ = some (nI (bN (fun b => decide (0 < wN S bt a b)) 10), σ) := by
  have w := hA.2.2.2.2 a ha
  have ec : bN (fun b => decide (0 < wN S bt a b)) 10 = bN (fun b => decide (0 < S 9 (10 * a + b)) || (bt && decide (0 < S 10 (10 * a + b)))) 10 := bN_cong (fun b _ => wN_pos)
  unfold f_X3_waysFrom
  rw [ec]
  cases bt
  · rw [if_pos (hx.mpr rfl), zrd_n ha (by omega), w.1]
    congr 4
    funext b
    simp
  · rw [if_neg (fun z => by have := hx.mp z; cases this), zrd_n ha (by omega), zrd_n ha (by omega), w.1, w.2, bN_orB _ _ (by omega)]
    rfl
/-- new on the edge -/
def nEd (S : aS) (bt : Bool) (y : Option Nat) (R E : Nat → Bool) (b : Nat) : Bool := (exN (fun a => E a && decide (0 < wN S bt a b)) 10 && lvN S y b) && !R b
theorem nEd_i {bt : Bool} {y : Option Nat} {R E : Nat → Bool} {b : Nat} : nEd S bt y R E b = true ↔ (∃ a, a < 10 ∧ E a = true ∧ eN S bt y a b = true) ∧ R b = false := by
  unfold nEd eN
  rw [Bool.and_eq_true, Bool.and_eq_true, exN_iff]
  constructor
  · rintro ⟨⟨⟨a, h1, h2⟩, h3⟩, h4⟩
    rw [Bool.and_eq_true] at h2
    exact ⟨⟨a, h1, h2.1, by rw [h2.2, h3]; rfl⟩, by simpa using h4⟩
  · rintro ⟨⟨a, h1, h2, h3⟩, h4⟩
    rw [Bool.and_eq_true] at h3
    exact ⟨⟨⟨a, h1, by rw [h2, h3.1]; rfl⟩, h3.2⟩, by rw [h4]; rfl⟩
theorem flL37 (hA : RA σ S) {bt : Bool} {y : Option Nat} {x4 : Int32} (hx : (x4 = 0) ↔ bt = false) (k12 : Int32 → Int32 → Int32 → zS → Option (Int32 × zS)) (x2 x7 : Int32) (R E : Nat → Bool) : ∀ (d n k : Nat), k + d = 10 → d < n →
    f_X4_fewestLegs_L37 k12 x2 (nI (bN (lvN S y) 10)) x4 (nI (bN R 10)) (nI (bN E 10)) x7 n (nI (bN (fun b => exN (fun a => E a && decide (0 < wN S bt a b)) k) 10)) (nI k) σ = if nI (bN (nEd S bt y R E) 10) = 0 then some (-1, σ) else k12 (nI (bN (fun b => R b || nEd S bt y R E b) 10)) (nI (bN (nEd S bt y R E) 10)) (x7 + 1) σ
  | 0, n + 1, k, h, _ => by
    have hk : k = 10 := by omega
    subst hk
    have e1 : (nI (bN (fun b => exN (fun a => E a && decide (0 < wN S bt a b)) 10) 10) &&& nI (bN (lvN S y) 10)) &&& (nI (bN R 10) ^^^ (-1)) = nI (bN (nEd S bt y R E) 10) := by
      rw [bN_andB _ _ (by omega), bN_ann _ _ (by omega)]
      rfl
    rw [f_X4_fewestLegs_L37, if_pos (by decide), e1, bN_orB _ _ (by omega)]
  | d + 1, n + 1, k, h, hn => by
    have hk : k < 10 := by omega
    have ih := flL37 hA hx k12 x2 x7 R E d n (k + 1) (by omega) (by omega) (y := y)
    rw [f_X4_fewestLegs_L37, if_neg (by rw [q10, qle_n (by omega) (by omega)]; omega), hasBitA _ (by omega) hk, zbd_s, ifz, nI_1]
    by_cases g : E k = true
    · rw [if_pos g, waysA hA hk hx, zbd_s, bN_orB _ _ (by omega)]
      rw [← ih]
      congr 3
      funext b
      rw [exN, g, Bool.true_and]
    · rw [if_neg g, ← ih]
      congr 3
      funext b
      rw [exN, Bool.eq_false_iff.mpr g, Bool.false_and, Bool.or_false]
theorem flL12 (hA : RA σ S) {bt : Bool} {y : Option Nat} {s g : Nat} (hs : s < 10) (hg : g < 10) {x4 : Int32} (hx : (x4 = 0) ↔ bt = false) : ∀ (d n k : Nat), k + d = 10 → d < n → (∀ j, j < k → rkB (eN S bt y) s j g = false) → k + 1 ≤ cN (rkB (eN S bt y) s k) 10 →
    f_X4_fewestLegs_L12 (nI g) (nI (bN (lvN S y) 10)) x4 n (nI (bN (rkB (eN S bt y) s k) 10)) (nI (bN (ekB (eN S bt y) s k) 10)) (nI k) σ = some (en (Dl S bt y s g), σ)
  | 0, n, k, h, _, _, hc => by
    have := cN_le (rkB (eN S bt y) s k) 10
    omega
  | d + 1, n + 1, k, h, hn, hj, hc => by
    have hv := INFv
    rw [f_X4_fewestLegs_L12, if_neg (by rw [q10, qle_n (by omega) (by omega)]; omega), hasBitA _ (by omega) hg, zbd_s, ifz]
    by_cases r : rkB (eN S bt y) s k g = true
    · rw [if_pos r]
      have : Dl S bt y s g = k := d1_first hs hg r hj
      rw [this, en_f (by omega)]
    · rw [if_neg r]
      have r' := Bool.eq_false_iff.mpr r
      have h0 := flL37 hA hx (fun x5 x6 x7 σ => f_X4_fewestLegs_L12 (nI g) (nI (bN (lvN S y) 10)) x4 n x5 x6 x7 σ) (nI g) (nI k) (rkB (eN S bt y) s k) (ekB (eN S bt y) s k) 10 zfu 0 (by omega) (zfu_gt (by omega)) (y := y)
      have ez : nI (bN (fun b => exN (fun a => ekB (eN S bt y) s k a && decide (0 < wN S bt a b)) 0) 10) = 0 := (bN_z _ (by omega)).mpr (fun _ _ => rfl)
      rw [ez] at h0
      refine Eq.trans h0 ?_
      have en1 : nEd S bt y (rkB (eN S bt y) s k) (ekB (eN S bt y) s k) = ekB (eN S bt y) s (k + 1) := funext fun b => by
        rw [Bool.eq_iff_iff, nEd_i, ekB_n (by omega)]
      have en2 : (fun b => rkB (eN S bt y) s k b || ekB (eN S bt y) s (k + 1) b) = rkB (eN S bt y) s (k + 1) := funext fun b => by
        show (rkB (eN S bt y) s k b || (rkB (eN S bt y) s (k + 1) b && !rkB (eN S bt y) s k b)) = _
        cases z : rkB (eN S bt y) s k b
        · simp
        · rw [rkB_s z]; rfl
      rw [en1, en2]
      by_cases z : nI (bN (ekB (eN S bt y) s (k + 1)) 10) = 0
      · rw [if_pos z]
        have := d1_none hs (by omega) hg r' ((bN_z _ (by omega)).mp z)
        rw [en_i this]
      · rw [if_neg z, nI_1]
        refine flL12 hA hs hg hx d n (k + 1) (by omega) (by omega) (fun j hj1 => ?_) ?_
        · by_cases q : j = k
          · rw [q]; exact r'
          · exact hj j (by omega)
        · have : ∃ a, a < 10 ∧ ekB (eN S bt y) s (k + 1) a = true := by
            rw [bN_z _ (by omega)] at z
            refine Classical.byContradiction fun w => z (fun i hi => ?_)
            cases q : ekB (eN S bt y) s (k + 1) i
            · rfl
            · exact absurd ⟨i, hi, q⟩ w
          obtain ⟨a, a1, a2⟩ := this
          rw [ekB, Bool.and_eq_true] at a2
          have := cN_strict (p := rkB (eN S bt y) s k) (q := rkB (eN S bt y) s (k + 1)) (fun _ h => rkB_s h) a1 (by simpa using a2.2) a2.1
          omega
theorem legsA (hA : RA σ S) {bt : Bool} {y : Option Nat} {s g : Nat} (hs : s < 10) (hg : g < 10) {x4 : Int32} (hx : (x4 = 0) ↔ bt = false) : f_X4_fewestLegs (nI s) (nI g) (nI (bN (lvN S y) 10)) x4 σ = some (en (Dl S bt y s g), σ) := by
  have e0 : rkB (eN S bt y) s 0 = fun i => decide (i = s) := funext fun p => by
    unfold rkB
    show decide ((if p = s then 0 else INF) < INF) = _
    by_cases z : p = s
    · rw [if_pos z]; simp [z]
    · rw [if_neg z]; simp [z]
  have e1 : ekB (eN S bt y) s 0 = fun i => decide (i = s) := funext fun p => by rw [ekB, e0]
  have h := flL12 hA hs hg hx 10 zfu 0 (by omega) (zfu_gt (by omega)) (fun j hj => absurd hj (Nat.not_lt_zero j)) (by
    have := cN_strict (p := fun _ => false) (q := rkB (eN S bt y) s 0) (fun _ h => by cases h) hs rfl (rkB_0 hs)
    omega) (y := y) (bt := bt)
  rw [e0, e1, ← shl_one hs (by omega)] at h
  exact h
end RDA
