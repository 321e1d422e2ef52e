/-! PURE: roads, the mathematics: shortest ways from s over the edges e a b (a, b < 10) of cost c a b -/
abbrev INF : Nat := 1000000000
def mnI (f : Nat → Nat) : Nat → Nat
  | 0 => INF
  | n + 1 => min (mnI f n) (f n)
theorem mnI_le {f : Nat → Nat} : ∀ {n u : Nat}, u < n → mnI f n ≤ f u
  | n + 1, u, h => by
    rw [mnI]
    by_cases e : u = n
    · rw [e]; omega
    · have := mnI_le (f := f) (n := n) (u := u) (by omega); omega
theorem le_mnI {f : Nat → Nat} {X : Nat} : ∀ {n : Nat}, X ≤ INF → (∀ u, u < n → X ≤ f u) → X ≤ mnI f n
  | 0, h, _ => h
  | n + 1, h, g => by
    rw [mnI]
    have := le_mnI (f := f) (n := n) h (fun u hu => g u (by omega))
    have := g n (by omega)
    omega
/-- over the edge -/
def rel (e : Nat → Nat → Bool) (c : Nat → Nat → Nat) (f : Nat → Nat) (p a : Nat) : Nat := if e a p = true ∧ f a < INF then f a + c a p else INF
def dsN (e : Nat → Nat → Bool) (c : Nat → Nat → Nat) (s : Nat) : Nat → Nat → Nat
  | 0, p => if p = s then 0 else INF
  | k + 1, p => min (dsN e c s k p) (mnI (rel e c (dsN e c s k) p) 10)
section ROADS
variable {e : Nat → Nat → Bool} {c : Nat → Nat → Nat} {s : Nat}
theorem dsN_mono {k p : Nat} : dsN e c s (k + 1) p ≤ dsN e c s k p := by rw [dsN]; omega
theorem dsN_mono2 {k p : Nat} : ∀ {i : Nat}, dsN e c s (k + i) p ≤ dsN e c s k p
  | 0 => Nat.le_refl _
  | i + 1 => Nat.le_trans (dsN_mono (k := k + i)) dsN_mono2
theorem dsN_edge {k a p : Nat} (ha : a < 10) (he : e a p = true) (hf : dsN e c s k a < INF) : dsN e c s (k + 1) p ≤ dsN e c s k a + c a p := by
  rw [dsN]
  have := mnI_le (f := rel e c (dsN e c s k) p) (n := 10) ha
  rw [rel, if_pos ⟨he, hf⟩] at this
  omega
/-- closed under the edges -/
def Cld (e : Nat → Nat → Bool) (c : Nat → Nat → Nat) (L : Nat → Nat) : Prop := ∀ a b, a < 10 → b < 10 → e a b = true → L a < INF → L b ≤ L a + c a b
theorem Cld_le {L : Nat → Nat} (h : Cld e c L) (hs : L s = 0) (hi : ∀ p, p < 10 → L p ≤ INF) : ∀ k p, p < 10 → L p ≤ dsN e c s k p
  | 0, p, hp => by
    rw [dsN]
    by_cases z : p = s
    · rw [if_pos z, z, hs]; exact Nat.le_refl _
    · rw [if_neg z]; exact hi p hp
  | k + 1, p, hp => by
    rw [dsN]
    have h1 := Cld_le h hs hi k p hp
    have h2 : L p ≤ mnI (rel e c (dsN e c s k) p) 10 := le_mnI (hi p hp) (fun a ha => by
      unfold rel
      by_cases g : e a p = true ∧ dsN e c s k a < INF
      · rw [if_pos g]
        have h3 := Cld_le h hs hi k a ha
        have h4 := h a p ha hp g.1 (by omega)
        omega
      · rw [if_neg g]; exact hi p hp)
    omega
/-- the nearest first: V: gone on from, j of them -/
def DJ (e : Nat → Nat → Bool) (c : Nat → Nat → Nat) (s : Nat) (V : Nat → Bool) (L : Nat → Nat) (j : Nat) : Prop := (L s = 0) ∧ (∀ p, p < 10 → dsN e c s j p ≤ L p) ∧ (∀ p, p < 10 → L p ≤ INF) ∧ (∀ v u, v < 10 → u < 10 → V v = true → V u = false → L v ≤ L u) ∧ (∀ a b, a < 10 → b < 10 → V a = true → e a b = true → L a < INF → L b ≤ L a + c a b) ∧ (∀ p, p < 10 → L p < INF → L p ≤ 999 * j) ∧ (cN V 10 = j)
theorem DJ.st {V : Nat → Bool} {L : Nat → Nat} {j : Nat} (h : DJ e c s V L j) : L s = 0 := h.1
theorem DJ.snd {V : Nat → Bool} {L : Nat → Nat} {j : Nat} (h : DJ e c s V L j) : ∀ p, p < 10 → dsN e c s j p ≤ L p := h.2.1
theorem DJ.inf {V : Nat → Bool} {L : Nat → Nat} {j : Nat} (h : DJ e c s V L j) : ∀ p, p < 10 → L p ≤ INF := h.2.2.1
theorem DJ.ord {V : Nat → Bool} {L : Nat → Nat} {j : Nat} (h : DJ e c s V L j) : ∀ v u, v < 10 → u < 10 → V v = true → V u = false → L v ≤ L u := h.2.2.2.1
theorem DJ.clo {V : Nat → Bool} {L : Nat → Nat} {j : Nat} (h : DJ e c s V L j) : ∀ a b, a < 10 → b < 10 → V a = true → e a b = true → L a < INF → L b ≤ L a + c a b := h.2.2.2.2.1
theorem DJ.bnd {V : Nat → Bool} {L : Nat → Nat} {j : Nat} (h : DJ e c s V L j) : ∀ p, p < 10 → L p < INF → L p ≤ 999 * j := h.2.2.2.2.2.1
theorem DJ.cnt {V : Nat → Bool} {L : Nat → Nat} {j : Nat} (h : DJ e c s V L j) : cN V 10 = j := h.2.2.2.2.2.2
theorem DJ0 (hs : s < 10) : DJ e c s (fun _ => false) (fun p => if p = s then 0 else INF) 0 := by
  refine ⟨if_pos rfl, fun p _ => Nat.le_refl _, fun p _ => ?_, fun _ _ _ _ h => ?_, fun _ _ _ _ h => ?_, fun p _ h => ?_, by decide⟩
  · show (if p = s then 0 else INF) ≤ INF
    split <;> omega
  · cases h
  · cases h
  · have h' : (if p = s then 0 else INF) < INF := h
    show (if p = s then 0 else INF) ≤ 0
    by_cases z : p = s
    · rw [if_pos z]; exact Nat.le_refl _
    · rw [if_neg z] at h'; omega
/-- one goes on from x -/
def djL (e : Nat → Nat → Bool) (c : Nat → Nat → Nat) (V : Nat → Bool) (L : Nat → Nat) (x : Nat) : Nat → Nat := fun u => if (V u = false ∧ u ≠ x) ∧ e x u = true then min (L u) (L x + c x u) else L u
def djV (V : Nat → Bool) (x : Nat) : Nat → Bool := fun u => V u || decide (u = x)
theorem cN_add {V : Nat → Bool} {x : Nat} (hx : V x = false) : ∀ n, cN (djV V x) n = cN V n + (if x < n then 1 else 0)
  | 0 => rfl
  | n + 1 => by
    rw [cN, cN, cN_add hx n]
    unfold djV
    by_cases z : n = x
    · rw [z, hx]; simp
    · have : decide (n = x) = false := by simp [z]
      rw [this, Bool.or_false]
      by_cases g : x < n
      · rw [if_pos g, if_pos (show x < n + 1 by omega)]; omega
      · rw [if_neg g, if_neg (show ¬ x < n + 1 by omega)]; omega
theorem DJ_step {V : Nat → Bool} {L : Nat → Nat} {j x : Nat} (hc : ∀ a b, a < 10 → b < 10 → c a b ≤ 999) (h : DJ e c s V L j) (hj : j < 10) (hx : x < 10) (hv : V x = false) (hf : L x < INF) (hm : ∀ u, u < 10 → V u = false → L x ≤ L u) (hs : s < 10) : DJ e c s (djV V x) (djL e c V L x) (j + 1) := by
  have dle : ∀ u, djL e c V L x u ≤ L u := fun u => by unfold djL; split <;> omega
  have dge : ∀ u, u < 10 → V u = false → L x ≤ djL e c V L x u := fun u hu hvu => by
    have := hm u hu hvu
    unfold djL; split <;> omega
  have dV : ∀ u, djV V x u = true → djL e c V L x u = L u := fun u hu => by
    unfold djV at hu
    simp only [Bool.or_eq_true, decide_eq_true_eq] at hu
    unfold djL
    rw [if_neg]
    rintro ⟨⟨h1, h2⟩, _⟩
    rcases hu with h3 | h3
    · rw [h1] at h3; cases h3
    · exact h2 h3
  have bx := h.bnd x hx hf
  refine ⟨?_, fun p hp => ?_, fun p hp => Nat.le_trans (dle p) (h.inf p hp), fun v u hv1 hu1 h1 h2 => ?_, fun a b ha hb h1 h2 h3 => ?_, fun p hp h1 => ?_, ?_⟩
  · have := dle s; rw [h.st] at this; omega
  · have g1 := h.snd p hp
    have g2 := dsN_mono (e := e) (c := c) (s := s) (k := j) (p := p)
    unfold djL
    by_cases z : (V p = false ∧ p ≠ x) ∧ e x p = true
    · rw [if_pos z]
      have g3 := h.snd x hx
      have g4 := dsN_edge (c := c) (s := s) (k := j) hx z.2 (by omega)
      omega
    · rw [if_neg z]; omega
  · have hu2 : V u = false ∧ u ≠ x := by
      unfold djV at h2
      simp only [Bool.or_eq_false_iff, decide_eq_false_iff_not] at h2
      exact h2
    rw [dV v h1]
    have g1 := dge u hu1 hu2.1
    unfold djV at h1
    simp only [Bool.or_eq_true, decide_eq_true_eq] at h1
    rcases h1 with h3 | h3
    · have := h.ord v x hv1 hx h3 hv; omega
    · rw [h3]; exact g1
  · rw [dV a h1] at h3 ⊢
    unfold djV at h1
    simp only [Bool.or_eq_true, decide_eq_true_eq] at h1
    have g := dle b
    rcases h1 with h4 | h4
    · have := h.clo a b ha hb h4 h2 h3; omega
    · rw [h4] at h2 h3 ⊢
      by_cases z : V b = false ∧ b ≠ x
      · unfold djL
        rw [if_pos ⟨z, h2⟩]; omega
      · by_cases y : b = x
        · rw [y] at g ⊢; omega
        · have vb : V b = true := by
            cases hb2 : V b
            · exact absurd ⟨hb2, y⟩ z
            · rfl
          have := h.ord b x hb hx vb hv
          omega
  · unfold djL at h1 ⊢
    by_cases z : (V p = false ∧ p ≠ x) ∧ e x p = true
    · rw [if_pos z]
      have := hc x p hx hp
      omega
    · rw [if_neg z] at h1 ⊢
      have := h.bnd p hp h1
      omega
  · rw [cN_add hv, h.cnt, if_pos hx]
/-- no one is left to go on from -/
theorem DJ_end {V : Nat → Bool} {L : Nat → Nat} {j : Nat} (h : DJ e c s V L j) (hn : ∀ u, u < 10 → V u = false → L u = INF) : Cld e c L := fun a b ha hb h1 h2 => by
  cases hv : V a
  · rw [hn a ha hv] at h2; omega
  · exact h.clo a b ha hb hv h1 h2
theorem DJ_fin {V : Nat → Bool} {L : Nat → Nat} {j : Nat} (h : DJ e c s V L j) (hj : j ≤ 10) (hn : ∀ u, u < 10 → V u = false → L u = INF) : ∀ p, p < 10 → L p = dsN e c s 10 p := fun p hp => by
  have h1 := Cld_le (DJ_end h hn) h.st h.inf 10 p hp
  have h2 := h.snd p hp
  have h3 := dsN_mono2 (e := e) (c := c) (s := s) (k := j) (p := p) (i := 10 - j)
  rw [show j + (10 - j) = 10 by omega] at h3
  omega
theorem cN_all {V : Nat → Bool} : ∀ {n : Nat}, cN V n = n → ∀ u, u < n → V u = true
  | n + 1, h, u, hu => by
    cases hv : V u
    · have := cN_lt hu hv; omega
    · rfl
/-- the least of those left, if one is left -/
theorem least {V : Nat → Bool} {L : Nat → Nat} : ∀ n, (∀ u, u < n → V u = false → ¬ L u < INF) ∨ ∃ x, x < n ∧ V x = false ∧ L x < INF ∧ ∀ u, u < n → V u = false → L x ≤ L u
  | 0 => Or.inl (fun u hu => absurd hu (Nat.not_lt_zero u))
  | n + 1 => by
    cases hv : V n
    · rcases least (V := V) (L := L) n with h | ⟨x, h1, h2, h3, h4⟩
      · by_cases g : L n < INF
        · refine Or.inr ⟨n, by omega, hv, g, fun u hu hvu => ?_⟩
          by_cases z : u = n
          · rw [z]; exact Nat.le_refl _
          · have := h u (by omega) hvu; omega
        · refine Or.inl (fun u hu hvu => ?_)
          by_cases z : u = n
          · rw [z]; exact g
          · exact h u (by omega) hvu
      · by_cases g : L n < L x
        · refine Or.inr ⟨n, by omega, hv, by omega, fun u hu hvu => ?_⟩
          by_cases z : u = n
          · rw [z]; exact Nat.le_refl _
          · have := h4 u (by omega) hvu; omega
        · refine Or.inr ⟨x, by omega, h2, h3, fun u hu hvu => ?_⟩
          by_cases z : u = n
          · rw [z]; omega
          · exact h4 u (by omega) hvu
    · rcases least (V := V) (L := L) n with h | ⟨x, h1, h2, h3, h4⟩
      · refine Or.inl (fun u hu hvu => ?_)
        by_cases z : u = n
        · rw [z, hv] at hvu; cases hvu
        · exact h u (by omega) hvu
      · refine Or.inr ⟨x, by omega, h2, h3, fun u hu hvu => ?_⟩
        by_cases z : u = n
        · rw [z, hv] at hvu; cases hvu
        · exact h4 u (by omega) hvu
theorem DJ_run (hc : ∀ a b, a < 10 → b < 10 → c a b ≤ 999) (hs : s < 10) : ∀ (d j : Nat) (V : Nat → Bool) (L : Nat → Nat), DJ e c s V L j → j + d = 10 → ∃ L1, Cld e c L1 ∧ L1 s = 0 ∧ (∀ p, p < 10 → L1 p ≤ INF) ∧ ∀ p, p < 10 → L1 p = dsN e c s 10 p
  | 0, j, V, L, h, hd => by
    have hn : ∀ u, u < 10 → V u = false → L u = INF := fun u hu hv => by
      have := cN_all (V := V) (n := 10) (by rw [h.cnt]; omega) u hu
      rw [hv] at this; cases this
    exact ⟨L, DJ_end h hn, h.st, h.inf, DJ_fin h (by omega) hn⟩
  | d + 1, j, V, L, h, hd => by
    rcases least (V := V) (L := L) 10 with g | ⟨x, g1, g2, g3, g4⟩
    · have hn : ∀ u, u < 10 → V u = false → L u = INF := fun u hu hv => by
        have := g u hu hv; have := h.inf u hu; omega
      exact ⟨L, DJ_end h hn, h.st, h.inf, DJ_fin h (by omega) hn⟩
    · exact DJ_run hc hs d (j + 1) _ _ (DJ_step hc h (by omega) g1 g2 g3 g4 hs) (by omega)
/-- ten steps are enough -/
theorem dsN_stop (hc : ∀ a b, a < 10 → b < 10 → c a b ≤ 999) (hs : s < 10) : Cld e c (dsN e c s 10) ∧ ∀ k p, p < 10 → dsN e c s 10 p ≤ dsN e c s k p := by
  obtain ⟨L, h1, h2, h3, h4⟩ := DJ_run hc hs 10 0 _ _ (DJ0 (e := e) (c := c) hs) (by omega)
  refine ⟨fun a b ha hb he hf => ?_, fun k p hp => ?_⟩
  · rw [← h4 a ha] at hf ⊢
    rw [← h4 b hb]
    exact h1 a b ha hb he hf
  · rw [← h4 p hp]; exact Cld_le h1 h2 h3 k p hp
end ROADS
