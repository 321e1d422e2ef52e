/-! PURE: years, the mathematics. P: codes of parents (0: none, q + 1) -/
def frmP (P : Nat → Nat) (o : Nat) : Nat → Nat → Bool
  | 0, _ => false
  | m + 1, c => if c = 0 then false else if c = o + 1 then true else frmP P o m (P (c - 1))
theorem frm_P (S : aS) (o : Nat) : ∀ m c, frm S o m c = frmP (S 20) o m c
  | 0, _ => rfl
  | m + 1, c => by rw [frm, frmP, frm_P S o m]
/-- a forest on n -/
def Fo (P : Nat → Nat) (n : Nat) : Prop := n ≤ 12 ∧ (∀ b, b < n → P b ≤ n) ∧ ∃ rk : Nat → Nat, ∀ b, b < n → rk b < 12 ∧ (0 < P b → rk (P b - 1) < rk b)
theorem Fo_of {S : aS} (h : Inv S) : Fo (S 20) (S 11 3) := ⟨h.n12, h.fl20, h.rk⟩
theorem frmP_fuel {P : Nat → Nat} {n : Nat} {rk : Nat → Nat} (hl : ∀ b, b < n → P b ≤ n) (hr : ∀ b, b < n → 0 < P b → rk (P b - 1) < rk b) (o : Nat) : ∀ (m m2 c : Nat), c ≤ n → (0 < c → rk (c - 1) < m ∧ rk (c - 1) < m2) → frmP P o m c = frmP P o m2 c
  | 0, m2, c, hc, h => by
    have : c = 0 := Nat.eq_zero_of_not_pos (fun z => by have := h z; omega)
    subst this
    cases m2 with
    | zero => rfl
    | succ k => rw [frmP, frmP, if_pos rfl]
  | m + 1, 0, c, hc, h => by
    have : c = 0 := Nat.eq_zero_of_not_pos (fun z => by have := h z; omega)
    subst this
    rw [frmP, frmP, if_pos rfl]
  | m + 1, m2 + 1, c, hc, h => by
    rw [frmP, frmP]
    by_cases e : c = 0
    · rw [if_pos e, if_pos e]
    · rw [if_neg e, if_neg e]
      have hc1 : c - 1 < n := by omega
      rw [frmP_fuel hl hr o m m2 (P (c - 1)) (hl _ hc1) (fun z => by have := hr _ hc1 z; have := h (by omega); omega)]
theorem frmP_lt {P : Nat → Nat} {n : Nat} (hl : ∀ b, b < n → P b ≤ n) {o : Nat} : ∀ {m c : Nat}, c ≤ n → frmP P o m c = true → o < n
  | 0, c, _, h => by rw [frmP] at h; cases h
  | m + 1, c, hc, h => by
    rw [frmP] at h
    by_cases e : c = 0
    · rw [if_pos e] at h; cases h
    · rw [if_neg e] at h
      by_cases e2 : c = o + 1
      · omega
      · rw [if_neg e2] at h
        exact frmP_lt hl (hl _ (by omega)) h
theorem frmP_cat {P : Nat → Nat} {u v : Nat} {k : Nat} : ∀ {m c : Nat}, frmP P u m c = true → frmP P v k (P u) = true → frmP P v (m + k) c = true
  | 0, c, h, _ => by rw [frmP] at h; cases h
  | m + 1, c, h, h2 => by
    rw [frmP] at h
    rw [show m + 1 + k = (m + k) + 1 by omega, frmP]
    by_cases e : c = 0
    · rw [if_pos e] at h; cases h
    · rw [if_neg e] at h ⊢
      by_cases ev : c = v + 1
      · rw [if_pos ev]
      · rw [if_neg ev]
        by_cases e2 : c = u + 1
        · rw [e2, Nat.add_sub_cancel]
          -- more fuel keeps what was found
          have mono : ∀ (j i c : Nat), frmP P v j c = true → frmP P v (i + j) c = true := by
            intro j
            induction j with
            | zero => intro i c h; rw [frmP] at h; cases h
            | succ j ih =>
              intro i c h
              rw [show i + (j + 1) = (i + j) + 1 by omega, frmP]
              rw [frmP] at h
              by_cases a : c = 0
              · rw [if_pos a] at h; cases h
              · rw [if_neg a] at h ⊢
                by_cases b : c = v + 1
                · rw [if_pos b]
                · rw [if_neg b] at h ⊢
                  exact ih i _ h
          exact mono k m _ h2
        · rw [if_neg e2] at h
          exact frmP_cat h h2
/-- u is b, or above it -/
def dn (P : Nat → Nat) (b u : Nat) : Bool := decide (b = u) || frmP P u 12 (P b)
theorem dn_self (P : Nat → Nat) (b : Nat) : dn P b b = true := by simp [dn]
theorem dn_up {P : Nat → Nat} {b p : Nat} (h : P b = p + 1) : dn P b p = true := by
  unfold dn
  rw [show frmP P p 12 (P b) = if P b = 0 then false else if P b = p + 1 then true else frmP P p 11 (P (P b - 1)) from rfl, if_neg (by omega), if_pos h]
  simp
theorem dn_of {P : Nat → Nat} {n b u : Nat} (hF : Fo P n) (hb : b < n) {m : Nat} (h : frmP P u m (P b) = true) : dn P b u = true := by
  obtain ⟨h12, hl, rk, hr⟩ := hF
  -- any fuel that found it: twelve do
  have mono : ∀ (j i c : Nat), frmP P u j c = true → frmP P u (j + i) c = true := by
    intro j
    induction j with
    | zero => intro i c h; rw [frmP] at h; cases h
    | succ j ih =>
      intro i c h
      rw [show j + 1 + i = (j + i) + 1 by omega, frmP]
      rw [frmP] at h
      by_cases a : c = 0
      · rw [if_pos a] at h; cases h
      · rw [if_neg a] at h ⊢
        by_cases b : c = u + 1
        · rw [if_pos b]
        · rw [if_neg b] at h ⊢
          exact ih i _ h
  have h1 := mono m 12 _ h
  have h2 := frmP_fuel hl (fun b hb => (hr b hb).2) u (m + 12) 12 (P b) (hl b hb) (fun z => by have := (hr (P b - 1) (by have := hl b hb; omega)).1; omega)
  unfold dn
  rw [← h2, h1]
  simp
theorem dn_trans {P : Nat → Nat} {n b u v : Nat} (hF : Fo P n) (hb : b < n) (h1 : dn P b u = true) (h2 : dn P u v = true) : dn P b v = true := by
  unfold dn at h1 h2
  simp only [Bool.or_eq_true, decide_eq_true_eq] at h1 h2
  rcases h1 with rfl | h1
  · rcases h2 with rfl | h2
    · exact dn_self P b
    · unfold dn; rw [h2]; simp
  · rcases h2 with rfl | h2
    · unfold dn; rw [h1]; simp
    · exact dn_of hF hb (frmP_cat h1 h2)
theorem dn_lt {P : Nat → Nat} {n b u : Nat} (hF : Fo P n) (hb : b < n) (h : dn P b u = true) : u < n := by
  unfold dn at h
  simp only [Bool.or_eq_true, decide_eq_true_eq] at h
  rcases h with rfl | h
  · exact hb
  · exact frmP_lt hF.2.1 (hF.2.1 b hb) h
/-- greatest and least of some -/
def mxF (p : Nat → Bool) (f : Nat → Nat) : Nat → Nat
  | 0 => 0
  | n + 1 => if p n then max (mxF p f n) (f n) else mxF p f n
def mnF (p : Nat → Bool) (f : Nat → Nat) : Nat → Nat
  | 0 => 9999
  | n + 1 => if p n then min (mnF p f n) (f n) else mnF p f n
theorem mxF_le {p : Nat → Bool} {f : Nat → Nat} {X : Nat} : ∀ {n : Nat}, (∀ u, u < n → p u = true → f u ≤ X) → mxF p f n ≤ X
  | 0, _ => Nat.zero_le X
  | n + 1, h => by
    have ih := mxF_le (n := n) (fun u hu => h u (by omega))
    rw [mxF]
    by_cases hp : p n = true
    · rw [if_pos hp]; have := h n (by omega) hp; omega
    · rw [if_neg hp]; exact ih
theorem le_mxF {p : Nat → Bool} {f : Nat → Nat} : ∀ {n u : Nat}, u < n → p u = true → f u ≤ mxF p f n
  | n + 1, u, hu, hp => by
    rw [mxF]
    by_cases e : u = n
    · subst e; rw [if_pos hp]; omega
    · have ih := le_mxF (p := p) (f := f) (n := n) (u := u) (by omega) hp
      by_cases hq : p n = true
      · rw [if_pos hq]; omega
      · rw [if_neg hq]; exact ih
theorem le_mnF {p : Nat → Bool} {f : Nat → Nat} {X : Nat} : ∀ {n : Nat}, X ≤ 9999 → (∀ u, u < n → p u = true → X ≤ f u) → X ≤ mnF p f n
  | 0, hX, _ => hX
  | n + 1, hX, h => by
    have ih := le_mnF (n := n) hX (fun u hu => h u (by omega))
    rw [mnF]
    by_cases hp : p n = true
    · rw [if_pos hp]; have := h n (by omega) hp; omega
    · rw [if_neg hp]; exact ih
theorem mnF_le {p : Nat → Bool} {f : Nat → Nat} : ∀ {n u : Nat}, u < n → p u = true → mnF p f n ≤ f u
  | n + 1, u, hu, hp => by
    rw [mnF]
    by_cases e : u = n
    · subst e; rw [if_pos hp]; omega
    · have ih := mnF_le (p := p) (f := f) (n := n) (u := u) (by omega) hp
      by_cases hq : p n = true
      · rw [if_pos hq]; omega
      · rw [if_neg hq]; exact ih
theorem mnF_top (p : Nat → Bool) (f : Nat → Nat) : ∀ n, mnF p f n ≤ 9999
  | 0 => Nat.le_refl _
  | n + 1 => by have := mnF_top p f n; rw [mnF]; split <;> omega
theorem mxF_cong {p q : Nat → Bool} {f g : Nat → Nat} : ∀ {n : Nat}, (∀ u, u < n → p u = q u) → (∀ u, u < n → f u = g u) → mxF p f n = mxF q g n
  | 0, _, _ => rfl
  | n + 1, h, k => by rw [mxF, mxF, mxF_cong (fun u hu => h u (by omega)) (fun u hu => k u (by omega)), h n (by omega), k n (by omega)]
/-- the spans: o: own bounds (0 .. 5), el c b: c lies below b -/
def SLv (P : Nat → Nat) (o : aS) (n b : Nat) : Nat := mxF (fun u => dn P b u) (o 0) n
def ALv (P : Nat → Nat) (o : aS) (n b : Nat) : Nat := max (o 2 b) (SLv P o n b)
def LPv (P : Nat → Nat) (o : aS) (n b : Nat) : Nat := max (o 4 b) (ALv P o n b)
def LLv (P : Nat → Nat) (o : aS) (el : Nat → Nat → Bool) (n b : Nat) : Nat := mxF (fun c => decide (c = b) || el c b) (LPv P o n) n
def AHv (o : aS) (b : Nat) : Nat := min (o 3 b) (o 5 b)
def HPv (o : aS) (b : Nat) : Nat := min (o 1 b) (AHv o b)
def SHv (P : Nat → Nat) (o : aS) (n u : Nat) : Nat := mnF (fun c => dn P c u) (HPv o) n
def wayb (P : Nat → Nat) (o : aS) (el : Nat → Nat → Bool) (n b : Nat) : Bool := decide (SLv P o n b ≤ SHv P o n b) && (decide (ALv P o n b ≤ AHv o b) && decide (LLv P o el n b ≤ o 5 b))
def allN (p : Nat → Bool) : Nat → Bool
  | 0 => true
  | n + 1 => allN p n && p n
theorem allN_iff {p : Nat → Bool} : ∀ {n : Nat}, allN p n = true ↔ ∀ b, b < n → p b = true
  | 0 => ⟨fun _ b hb => absurd hb (Nat.not_lt_zero b), fun _ => rfl⟩
  | n + 1 => by
    rw [allN, Bool.and_eq_true, allN_iff]
    constructor
    · rintro ⟨h1, h2⟩ b hb
      by_cases e : b = n
      · rw [e]; exact h2
      · exact h1 b (by omega)
    · intro h
      exact ⟨fun b hb => h b (by omega), h n (by omega)⟩
def wayv (P : Nat → Nat) (o : aS) (el : Nat → Nat → Bool) (n : Nat) : Bool := allN (wayb P o el n) n
section SPANS
variable {P : Nat → Nat} {o : aS} {n : Nat}
theorem SL_own {b : Nat} (hb : b < n) : o 0 b ≤ SLv P o n b := le_mxF (p := fun u => dn P b u) hb (dn_self P b)
theorem SL_dn (hF : Fo P n) {b u : Nat} (hb : b < n) (h : dn P b u = true) : SLv P o n u ≤ SLv P o n b := by
  refine mxF_le (fun v hv hd => ?_)
  exact le_mxF (p := fun u => dn P b u) hv (dn_trans hF hb h hd)
theorem SH_own {b : Nat} (hb : b < n) : SHv P o n b ≤ HPv o b := mnF_le (p := fun c => dn P c b) hb (dn_self P b)
theorem SH_dn (hF : Fo P n) {c u : Nat} (hc : c < n) (h : dn P c u = true) : SHv P o n u ≤ SHv P o n c := by
  refine le_mnF (mnF_top _ _ _) (fun v hv hd => ?_)
  exact mnF_le (p := fun c => dn P c u) hv (dn_trans hF hv hd h)
end SPANS
/-- own bounds out of the abstract state -/
def rF (r w : Nat) : Nat := if r = 0 then 0 else 9999 - (r + 1) * (r + 1) / w
def rL (r w : Nat) : Nat := if r = 0 then 9999 else 9999 - (r - 1) * (r - 1) / w
/-- the least of g where p holds, as a code -/
def foc (p : Nat → Bool) (g : Nat → Nat) : Nat → Nat
  | 0 => 0
  | k + 1 => if p k then (if foc p g k = 0 then g k + 1 else min (foc p g k) (g k + 1)) else foc p g k
def opn (S : aS) (b : Nat) : Nat := foc (cb S b) (S 6) 9 - 1
def ow (S : aS) : aS := fun k b => match k with
  | 0 => max (opn S b) (rF (S 18 b) (S 3 (S 13 b)))
  | 1 => rL (S 18 b) (S 3 (S 13 b))
  | 2 => rF (S 19 b) (S 3 (S 13 b))
  | 3 => rL (S 19 b) (S 3 (S 13 b))
  | 4 => S 1 (S 13 b)
  | _ => S 2 (S 13 b)
def elS (S : aS) (c b : Nat) : Bool := decide (S 13 c = S 13 b) && decide (S 17 b < S 17 c)
theorem rF_le (r w : Nat) : rF r w ≤ 9999 := by
  unfold rF
  split
  · omega
  · exact Nat.sub_le _ _
theorem rL_le (r w : Nat) : rL r w ≤ 9999 := by
  unfold rL
  split
  · omega
  · exact Nat.sub_le _ _
theorem foc_le {p : Nat → Bool} {g : Nat → Nat} {X : Nat} : ∀ {k : Nat}, (∀ f, f < k → g f ≤ X) → foc p g k ≤ X + 1
  | 0, _ => Nat.zero_le _
  | k + 1, h => by
    have ih := foc_le (p := p) (k := k) (fun f hf => h f (by omega))
    have := h k (by omega)
    rw [foc]
    split
    · split <;> omega
    · exact ih
theorem foc_zero {p : Nat → Bool} {g : Nat → Nat} : ∀ {k : Nat}, foc p g k = 0 ↔ ∀ f, f < k → p f = false
  | 0 => ⟨fun _ f hf => absurd hf (Nat.not_lt_zero f), fun _ => rfl⟩
  | k + 1 => by
    have ih := foc_zero (p := p) (g := g) (k := k)
    rw [foc]
    by_cases hp : p k = true
    · rw [if_pos hp]
      constructor
      · intro h
        by_cases h0 : foc p g k = 0
        · rw [if_pos h0] at h; omega
        · rw [if_neg h0] at h; omega
      · intro h
        have := h k (by omega)
        rw [hp] at this; cases this
    · rw [if_neg hp, ih]
      constructor
      · intro h f hf
        by_cases e : f = k
        · rw [e]; simpa using hp
        · exact h f (by omega)
      · intro h f hf
        exact h f (by omega)
theorem ow_le {S : aS} (hI : Inv S) {k b : Nat} (hb : b < S 11 3) : ow S k b ≤ 9999 := by
  have hp := (hI.bl hb).1
  have hpl := hI.pl (p := S 13 b) (by omega)
  have h1 := rF_le (S 18 b) (S 3 (S 13 b))
  have h2 := rL_le (S 18 b) (S 3 (S 13 b))
  have h3 := rF_le (S 19 b) (S 3 (S 13 b))
  have h4 := rL_le (S 19 b) (S 3 (S 13 b))
  have h5 : opn S b ≤ 9999 := by
    have := foc_le (p := cb S b) (g := S 6) (X := 9999) (k := 9) (fun f hf => (hI.fl hf).2.2.1)
    unfold opn; omega
  unfold ow
  split <;> omega
