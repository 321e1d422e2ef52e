/-! PURE: the text: tokens -/
def isL (c : Nat) : Bool := decide (97 ≤ c) && decide (c ≤ 122)
def isD (c : Nat) : Bool := decide (48 ≤ c) && decide (c ≤ 57)
def clsP (c : Nat) : Nat → Bool := if isL c = true then isL else if isD c = true then isD else fun _ => false
/-- on while P, d places at most -/
def runN (P : Nat → Bool) (T : Nat → Nat) (N : Nat) : Nat → Nat → Nat
  | 0, x => x
  | d + 1, x => if x < N ∧ P (T x) = true then runN P T N d (x + 1) else x
def skN (T : Nat → Nat) (N x : Nat) : Nat := runN (fun c => decide (c = 32)) T N (N - x) x
def teN (T : Nat → Nat) (N a : Nat) : Nat := if a < N then runN (clsP (T a)) T N (N - (a + 1)) (a + 1) else N
theorem isL_i {c : Nat} : isL c = true ↔ 97 ≤ c ∧ c ≤ 122 := by unfold isL; simp
theorem isD_i {c : Nat} : isD c = true ↔ 48 ≤ c ∧ c ≤ 57 := by unfold isD; simp
section RUN
variable {P : Nat → Bool} {T : Nat → Nat} {N : Nat}
theorem runN_ge : ∀ (d x : Nat), x ≤ runN P T N d x
  | 0, x => Nat.le_refl _
  | d + 1, x => by
    rw [runN]
    split
    · have := runN_ge d (x + 1); omega
    · exact Nat.le_refl _
theorem runN_le : ∀ (d x : Nat), x ≤ N → runN P T N d x ≤ N
  | 0, x, h => h
  | d + 1, x, h => by
    rw [runN]
    split
    · rename_i z; exact runN_le d (x + 1) (by omega)
    · exact h
theorem runN_in : ∀ (d x i : Nat), x ≤ i → i < runN P T N d x → P (T i) = true
  | 0, x, i, h1, h2 => by rw [runN] at h2; omega
  | d + 1, x, i, h1, h2 => by
    rw [runN] at h2
    split at h2
    · rename_i z
      by_cases e : i = x
      · rw [e]; exact z.2
      · exact runN_in d (x + 1) i (by omega) h2
    · omega
theorem skN_le {x : Nat} (h : x ≤ N) : skN T N x ≤ N := runN_le _ _ h
theorem teN_le {a : Nat} : teN T N a ≤ N := by
  unfold teN
  split
  · exact runN_le _ _ (by omega)
  · exact Nat.le_refl _
theorem teN_gt {a : Nat} (h : a < N) : a + 1 ≤ teN T N a := by unfold teN; rw [if_pos h]; exact runN_ge _ _
theorem teN_end {a : Nat} (h : ¬ a < N) : teN T N a = N := if_neg h
theorem teN_in {a i : Nat} (h : a < N) (h1 : a < i) (h2 : i < teN T N a) : clsP (T a) (T i) = true := by
  unfold teN at h2
  rw [if_pos h] at h2
  exact runN_in _ _ i (by omega) h2
theorem cls_L {c : Nat} (h : isL c = true) : clsP c = isL := if_pos h
theorem cls_D {c : Nat} (h : isD c = true) : clsP c = isD := by
  unfold clsP
  rw [if_neg (fun z => by rw [isL_i] at z; rw [isD_i] at h; omega), if_pos h]
theorem cls_O {c : Nat} (h1 : ¬ isL c = true) (h2 : ¬ isD c = true) : clsP c = fun _ => false := by
  unfold clsP
  rw [if_neg h1, if_neg h2]
theorem te_L {a i : Nat} (h : a < N) (hl : isL (T a) = true) (h1 : a ≤ i) (h2 : i < teN T N a) : isL (T i) = true := by
  by_cases z : i = a
  · rw [z]; exact hl
  · have := teN_in h (show a < i by omega) h2
    rw [cls_L hl] at this; exact this
theorem te_D {a i : Nat} (h : a < N) (hl : isD (T a) = true) (h1 : a ≤ i) (h2 : i < teN T N a) : isD (T i) = true := by
  by_cases z : i = a
  · rw [z]; exact hl
  · have := teN_in h (show a < i by omega) h2
    rw [cls_D hl] at this; exact this
theorem runN_no {d x : Nat} : runN (fun _ => false) T N d x = x := by
  cases d with
  | zero => rfl
  | succ d => rw [runN, if_neg (fun z => by cases z.2)]
theorem te_O {a : Nat} (h : a < N) (h1 : ¬ isL (T a) = true) (h2 : ¬ isD (T a) = true) : teN T N a = a + 1 := by
  unfold teN
  rw [if_pos h, cls_O h1 h2, runN_no]
end RUN
/-- numbers and words, as they are read -/
def nmN (f : Nat → Nat) : Nat → Nat
  | 0 => 0
  | k + 1 => 10 * nmN f k + (f k - 48)
def wdN (f : Nat → Nat) : Nat → Nat
  | 0 => 0
  | k + 1 => 27 * wdN f k + (f k - 96)
theorem nmN_lt {f : Nat → Nat} : ∀ {k : Nat}, (∀ i, i < k → isD (f i) = true) → nmN f k < 10 ^ k
  | 0, _ => by rw [nmN]; decide
  | k + 1, h => by
    have := nmN_lt (f := f) (k := k) (fun i hi => h i (by omega))
    have := isD_i.mp (h k (by omega))
    rw [nmN, Nat.pow_succ]
    omega
theorem wdN_lt {f : Nat → Nat} : ∀ {k : Nat}, (∀ i, i < k → isL (f i) = true) → wdN f k < 27 ^ k
  | 0, _ => by rw [wdN]; decide
  | k + 1, h => by
    have := wdN_lt (f := f) (k := k) (fun i hi => h i (by omega))
    have := isL_i.mp (h k (by omega))
    rw [wdN, Nat.pow_succ]
    omega
theorem wdN_inj {f g : Nat → Nat} : ∀ (L M : Nat), (∀ i, i < L → isL (f i) = true) → (∀ i, i < M → isL (g i) = true) → wdN f L = wdN g M → L = M ∧ ∀ i, i < L → f i = g i
  | 0, 0, _, _, _ => ⟨rfl, fun i hi => absurd hi (Nat.not_lt_zero i)⟩
  | 0, M + 1, _, hg, h => by
    have := isL_i.mp (hg M (by omega))
    rw [wdN, wdN] at h; omega
  | L + 1, 0, hf, _, h => by
    have := isL_i.mp (hf L (by omega))
    rw [wdN, wdN] at h; omega
  | L + 1, M + 1, hf, hg, h => by
    have a1 := isL_i.mp (hf L (by omega))
    have a2 := isL_i.mp (hg M (by omega))
    rw [wdN, wdN] at h
    obtain ⟨e1, e2⟩ := wdN_inj L M (fun i hi => hf i (by omega)) (fun i hi => hg i (by omega)) (by omega)
    subst e1
    refine ⟨rfl, fun i hi => ?_⟩
    by_cases z : i = L
    · rw [z]; omega
    · exact e2 i (by omega)
theorem wdN_cong {f g : Nat → Nat} : ∀ {L : Nat}, (∀ i, i < L → f i = g i) → wdN f L = wdN g L
  | 0, _ => rfl
  | L + 1, h => by rw [wdN, wdN, wdN_cong (fun i hi => h i (by omega)), h L (by omega)]
/-- the words, then the forms -/
def wcL : List (List Nat) := [[112, 108, 97, 99, 101], [102, 108, 111, 119], [108, 97, 110, 100], [98, 111, 97, 116], [110, 101, 97, 114], [102, 97, 114], [80, 89, 90, 87], [70, 80, 89, 65, 66, 67, 83], [80, 81, 77], [78]]
def wl (k : Nat) : Nat := (wcL.getD k []).length
def wc (k i : Nat) : Nat := (wcL.getD k []).getD i 0
theorem wl_ok : ∀ k, k < 10 → zlen.getD k 0 = wl k := by decide
theorem wc_ok : ∀ k, k < 10 → ∀ i, i < 7 → i < wl k → (zbyt.getD k []).getD i 0 = nI (wc k i) := by decide +kernel
theorem wl_7 : ∀ k, k < 10 → wl k ≤ 7 := by decide
theorem wc_L : ∀ k, k < 6 → ∀ i, i < 7 → i < wl k → isL (wc k i) = true := by decide
/-- whether the token from a is the k-th word -/
def tkIs (T : Nat → Nat) (N a k : Nat) : Bool := decide (teN T N a - a = wl k) && allN (fun i => decide (T (a + i) = wc k i)) (wl k)
def numO (T : Nat → Nat) (N a : Nat) : Option Nat := if (a < N ∧ isD (T a) = true) ∧ teN T N a - a ≤ 4 then some (nmN (fun i => T (a + i)) (teN T N a - a)) else none
def tkV (T : Nat → Nat) (N a : Nat) : Int64 := if a < N then (if isL (T a) = true then (if teN T N a - a ≤ 9 then lN (wdN (fun i => T (a + i)) (teN T N a - a)) else -4) else if isD (T a) = true then (if teN T N a - a ≤ 4 then -1 else -4) else if T a = 59 then -3 else -4) else -2
def wdC (k : Nat) : Int64 := match k with
  | 0 => 8740067
  | 1 => 127274
  | 2 => 237307
  | 3 => 50348
  | 4 => 279252
  | _ => 4419
theorem wdC_ok : ∀ k, k < 6 → wdC k = lN (wdN (wc k) (wl k)) := by decide +kernel
theorem wdC_lt : ∀ k, k < 6 → wdN (wc k) (wl k) < 27 ^ 9 := by decide +kernel
theorem lN_neg {n : Nat} (h : n < 27 ^ 9) : ∀ m : Nat, m < 10 → ¬ lN n = -(lN (m + 1)) := by
  intro m hm e
  have h1 := congrArg Int64.toInt e
  rw [pk_lT (Nat.lt_of_lt_of_le h (by decide))] at h1
  have h2 : ∀ m : Nat, m < 10 → (-(lN (m + 1))).toInt = -((m : Int) + 1) := by decide +kernel
  rw [h2 m hm] at h1
  omega
section TOK
variable {T : Nat → Nat} {N : Nat}
theorem tk_wlt {a : Nat} (h : a < N) (hl : isL (T a) = true) (h9 : teN T N a - a ≤ 9) : wdN (fun i => T (a + i)) (teN T N a - a) < 27 ^ 9 :=
  Nat.lt_of_lt_of_le (wdN_lt (fun i hi => te_L h hl (by omega) (by omega))) (Nat.pow_le_pow_right (by omega) h9)
theorem tkV_end {a : Nat} : tkV T N a = -2 ↔ ¬ a < N := by
  unfold tkV
  by_cases h : a < N
  · rw [if_pos h]
    refine ⟨fun z => ?_, fun z => absurd h z⟩
    exfalso
    split at z
    · rename_i hl
      split at z
      · rename_i h9; exact lN_neg (tk_wlt h hl h9) 1 (by omega) z
      · exact absurd z (by decide)
    · split at z
      · split at z
        · exact absurd z (by decide)
        · exact absurd z (by decide)
      · split at z
        · exact absurd z (by decide)
        · exact absurd z (by decide)
  · rw [if_neg h]; exact ⟨fun _ => h, fun _ => rfl⟩
theorem tkV_semi {a : Nat} : tkV T N a = -3 ↔ a < N ∧ T a = 59 := by
  unfold tkV
  by_cases h : a < N
  · rw [if_pos h]
    by_cases hl : isL (T a) = true
    · rw [if_pos hl]
      have := isL_i.mp hl
      refine ⟨fun z => ?_, fun z => by omega⟩
      exfalso
      split at z
      · rename_i h9; exact lN_neg (tk_wlt h hl h9) 2 (by omega) z
      · exact absurd z (by decide)
    · rw [if_neg hl]
      by_cases hd : isD (T a) = true
      · rw [if_pos hd]
        have := isD_i.mp hd
        refine ⟨fun z => ?_, fun z => by omega⟩
        exfalso
        split at z
        · exact absurd z (by decide)
        · exact absurd z (by decide)
      · rw [if_neg hd]
        by_cases h5 : T a = 59
        · rw [if_pos h5]; exact ⟨fun _ => ⟨h, h5⟩, fun _ => rfl⟩
        · rw [if_neg h5]; exact ⟨fun z => absurd z (by decide), fun z => absurd z.2 h5⟩
  · rw [if_neg h]; exact ⟨fun z => absurd z (by decide), fun z => absurd z.1 h⟩
theorem tkV_num {a : Nat} : tkV T N a = -1 ↔ (a < N ∧ isD (T a) = true) ∧ teN T N a - a ≤ 4 := by
  unfold tkV
  by_cases h : a < N
  · rw [if_pos h]
    by_cases hl : isL (T a) = true
    · rw [if_pos hl]
      have := isL_i.mp hl
      refine ⟨fun z => ?_, fun z => by have := isD_i.mp z.1.2; omega⟩
      exfalso
      split at z
      · rename_i h9; exact lN_neg (tk_wlt h hl h9) 0 (by omega) z
      · exact absurd z (by decide)
    · rw [if_neg hl]
      by_cases hd : isD (T a) = true
      · rw [if_pos hd]
        by_cases h4 : teN T N a - a ≤ 4
        · rw [if_pos h4]; exact ⟨fun _ => ⟨⟨h, hd⟩, h4⟩, fun _ => rfl⟩
        · rw [if_neg h4]; exact ⟨fun z => absurd z (by decide), fun z => absurd z.2 h4⟩
      · rw [if_neg hd]
        refine ⟨fun z => ?_, fun z => absurd z.1.2 hd⟩
        exfalso
        split at z
        · exact absurd z (by decide)
        · exact absurd z (by decide)
  · rw [if_neg h]; exact ⟨fun z => absurd z (by decide), fun z => absurd z.1.1 h⟩
theorem tkV_word {a k : Nat} (hk : k < 6) : tkV T N a = wdC k ↔ tkIs T N a k = true := by
  have hw9 : ∀ k, k < 6 → wl k ≤ 9 ∧ 0 < wl k := by decide
  have neg : ∀ k, k < 6 → ¬ wdC k = -1 ∧ ¬ wdC k = -2 ∧ ¬ wdC k = -3 ∧ ¬ wdC k = -4 := by decide +kernel
  obtain ⟨n1, n2, n3, n4⟩ := neg k hk
  have hwk := hw9 k hk
  have w7 := wl_7 k (by omega)
  unfold tkIs
  rw [Bool.and_eq_true, decide_eq_true_eq, allN_iff]
  by_cases hg : (a < N ∧ isL (T a) = true) ∧ teN T N a - a ≤ 9
  · have e : tkV T N a = lN (wdN (fun i => T (a + i)) (teN T N a - a)) := by unfold tkV; rw [if_pos hg.1.1, if_pos hg.1.2, if_pos hg.2]
    have l1 := tk_wlt hg.1.1 hg.1.2 hg.2
    rw [e, wdC_ok k hk, pk_lEQ (Nat.lt_of_lt_of_le l1 (by decide)) (Nat.lt_of_lt_of_le (wdC_lt k hk) (by decide))]
    constructor
    · intro z
      obtain ⟨e1, e2⟩ := wdN_inj _ _ (fun i hi => te_L hg.1.1 hg.1.2 (by omega) (by omega)) (fun i hi => wc_L k hk i (by omega) hi) z
      exact ⟨e1, fun i hi => by rw [decide_eq_true_eq]; exact e2 i (by omega)⟩
    · rintro ⟨e1, e2⟩
      rw [e1]
      exact wdN_cong (fun i hi => by have := e2 i hi; rw [decide_eq_true_eq] at this; exact this)
  · constructor
    · intro z
      exfalso
      unfold tkV at z
      by_cases h1 : a < N
      · rw [if_pos h1] at z
        by_cases h2 : isL (T a) = true
        · rw [if_pos h2, if_neg (fun w => hg ⟨⟨h1, h2⟩, w⟩)] at z; exact n4 z.symm
        · rw [if_neg h2] at z
          split at z
          · split at z
            · exact n1 z.symm
            · exact n4 z.symm
          · split at z
            · exact n3 z.symm
            · exact n4 z.symm
      · rw [if_neg h1] at z; exact n2 z.symm
    · rintro ⟨e1, e2⟩
      exfalso
      have h1 : a < N := by
        have := teN_le (T := T) (N := N) (a := a)
        omega
      have h2 := e2 0 hwk.2
      rw [decide_eq_true_eq, Nat.add_zero] at h2
      exact hg ⟨⟨h1, by rw [h2]; exact wc_L k hk 0 (by omega) hwk.2⟩, by omega⟩
theorem numO_le {a v : Nat} (h : numO T N a = some v) : v ≤ 9999 := by
  unfold numO at h
  split at h
  · rename_i g
    cases h
    have l := nmN_lt (f := fun i => T (a + i)) (k := teN T N a - a) (fun i hi => te_D g.1.1 g.1.2 (by omega) (by omega))
    have : 10 ^ (teN T N a - a) ≤ 10 ^ 4 := Nat.pow_le_pow_right (by omega) g.2
    have e : (10 : Nat) ^ 4 = 10000 := by decide
    omega
  · cases h
end TOK
