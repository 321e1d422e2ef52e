/-! PURE: learnt -/
section LEARNT
variable {S : aS}
def elg (S : aS) (p b : Nat) : Bool := decide (S 13 b = p) && (decide (0 < S 18 b) && decide (0 < S 21 b))
def lsN (S : aS) (b : Nat) : Nat := if S 21 b - 1 = 0 then 1 else (S 18 b - 1) * (S 18 b - 1) / (9999 - (S 21 b - 1) + 1) + 1
def gsN (S : aS) (b : Nat) : Nat := if S 21 b - 1 = 9999 then 999 else (S 18 b + 1) * (S 18 b + 1) / (9999 - (S 21 b - 1))
def okW (S : aS) (w b : Nat) : Bool := decide (9999 - (S 18 b + 1) * (S 18 b + 1) / w ≤ S 21 b - 1) && decide (S 21 b - 1 ≤ 9999 - (S 18 b - 1) * (S 18 b - 1) / w)
theorem okW_i (hI : Inv S) {b w : Nat} (hb : b < S 11 3) (hw : 1 ≤ w ∧ w ≤ 999) : okW S w b = true ↔ lsN S b ≤ w ∧ w ≤ gsN S b := by
  obtain ⟨y, hy⟩ : ∃ y, y = S 21 b - 1 := ⟨_, rfl⟩
  obtain ⟨A, hA⟩ : ∃ A, A = (S 18 b + 1) * (S 18 b + 1) := ⟨_, rfl⟩
  obtain ⟨B, hB⟩ : ∃ B, B = (S 18 b - 1) * (S 18 b - 1) := ⟨_, rfl⟩
  have hy9 : y ≤ 9999 := by have := (hI.bl hb).2.2.2.2.2.2.2.2.2.2.2; omega
  unfold okW lsN gsN
  rw [← hy, ← hA, ← hB, Bool.and_eq_true, decide_eq_true_eq, decide_eq_true_eq]
  have h1 : (9999 - A / w ≤ y) ↔ w ≤ (if y = 9999 then 999 else A / (9999 - y)) := by
    by_cases z : y = 9999
    · rw [if_pos z]; generalize A / w = q; omega
    · rw [if_neg z, Nat.le_div_iff_mul_le (by omega)]
      have : 9999 - y ≤ A / w ↔ (9999 - y) * w ≤ A := Nat.le_div_iff_mul_le (by omega)
      rw [Nat.mul_comm w, ← this]
      omega
  have h2 : (y ≤ 9999 - B / w) ↔ (if y = 0 then 1 else B / (9999 - y + 1) + 1) ≤ w := by
    by_cases z : y = 0
    · rw [if_pos z]; omega
    · rw [if_neg z]
      have e1 : B / w < 9999 - y + 1 ↔ B < (9999 - y + 1) * w := Nat.div_lt_iff_lt_mul (by omega)
      have e2 : B / (9999 - y + 1) < w ↔ B < w * (9999 - y + 1) := Nat.div_lt_iff_lt_mul (by omega)
      rw [Nat.mul_comm w, ← e1] at e2
      omega
  rw [h1, h2]
  exact And.comm
def loN (S : aS) (p : Nat) : Nat → Nat
  | 0 => 1
  | n + 1 => if elg S p n = true then max (loN S p n) (lsN S n) else loN S p n
def hiN (S : aS) (p : Nat) : Nat → Nat
  | 0 => 999
  | n + 1 => if elg S p n = true then min (hiN S p n) (gsN S n) else hiN S p n
def alW (S : aS) (p w : Nat) : Nat → Bool
  | 0 => true
  | n + 1 => alW S p w n && (!elg S p n || okW S w n)
theorem alW_i (hI : Inv S) {p w : Nat} (hw : 1 ≤ w ∧ w ≤ 999) : ∀ n, n ≤ S 11 3 → (alW S p w n = true ↔ loN S p n ≤ w ∧ w ≤ hiN S p n)
  | 0, _ => by rw [alW, loN, hiN]; exact ⟨fun _ => hw, fun _ => rfl⟩
  | n + 1, h => by
    have ih := alW_i hI hw n (by omega) (p := p)
    have ho := okW_i hI (b := n) (by omega) hw
    rw [alW, loN, hiN, Bool.and_eq_true, ih]
    by_cases e : elg S p n = true
    · rw [if_pos e, if_pos e, e, Bool.not_true, Bool.false_or, ho]; omega
    · rw [if_neg e, if_neg e, Bool.eq_false_iff.mpr e, Bool.not_false, Bool.true_or]
      exact ⟨fun z => z.1, fun z => ⟨z, rfl⟩⟩
theorem ls_le (hI : Inv S) {b : Nat} (hb : b < S 11 3) : lsN S b ≤ 1000001 := by
  have h := (hI.bl hb).2.2.2.2.2.2.2.1
  have hs := sq_le (r := S 18 b - 1) (by omega)
  unfold lsN
  split
  · omega
  · have : (S 18 b - 1) * (S 18 b - 1) / (9999 - (S 21 b - 1) + 1) ≤ (S 18 b - 1) * (S 18 b - 1) := Nat.div_le_self _ _
    omega
theorem gs_le (hI : Inv S) {b : Nat} (hb : b < S 11 3) : gsN S b ≤ 1000001 := by
  have h := (hI.bl hb).2.2.2.2.2.2.2.1
  have hs := sq_le (r := S 18 b + 1) (by omega)
  unfold gsN
  split
  · omega
  · have : (S 18 b + 1) * (S 18 b + 1) / (9999 - (S 21 b - 1)) ≤ (S 18 b + 1) * (S 18 b + 1) := Nat.div_le_self _ _
    omega
theorem lo_le (hI : Inv S) {p : Nat} : ∀ n, n ≤ S 11 3 → 1 ≤ loN S p n ∧ loN S p n ≤ 1000001
  | 0, _ => by rw [loN]; omega
  | n + 1, h => by
    have := lo_le hI n (by omega) (p := p)
    have := ls_le hI (b := n) (by omega)
    rw [loN]; split <;> omega
theorem hi_le {p : Nat} : ∀ n, hiN S p n ≤ 999
  | 0 => Nat.le_refl _
  | n + 1 => by
    have := hi_le n (p := p)
    rw [hiN]; split <;> omega
theorem leastA (hI : Inv S) {b : Nat} (hb : b < S 11 3) (h18 : 0 < S 18 b) (σ : zS) : f_X1_leastFor (nI (S 18 b)) (nI (S 21 b - 1)) σ = some (nI (lsN S b), σ) := by
  have h := (hI.bl hb).2.2.2.2.2.2.2.1
  have h21 := (hI.bl hb).2.2.2.2.2.2.2.2.2.2.2
  have hs := sq_le (r := S 18 b - 1) (by omega)
  unfold f_X1_leastFor lsN
  by_cases z : S 21 b - 1 = 0
  · rw [if_pos (by rw [z]; rfl), if_pos z]; rfl
  · rw [if_neg (by rw [q0, qeq_n (by omega) (by omega)]; exact z), if_neg z, nI_sub1 h18, pk_mul, q9999, pk_sub (by omega), nI_1, cutA (by omega) (by omega) (by omega), zbd_s, nI_1]
theorem greatA (hI : Inv S) {b : Nat} (hb : b < S 11 3) (σ : zS) : f_X1_greatestFor (nI (S 18 b)) (nI (S 21 b - 1)) σ = some (nI (gsN S b), σ) := by
  have h := (hI.bl hb).2.2.2.2.2.2.2.1
  have h21 := (hI.bl hb).2.2.2.2.2.2.2.2.2.2.2
  have hs := sq_le (r := S 18 b + 1) (by omega)
  unfold f_X1_greatestFor gsN
  by_cases z : S 21 b - 1 = 9999
  · rw [if_pos (by rw [z]; rfl), if_pos z]; rfl
  · rw [if_neg (by rw [q9999, qeq_n (by omega) (by omega)]; exact z), if_neg z, nI_1, pk_mul, q9999, pk_sub (by omega), cutA (by omega) (by omega) (by omega), zbd_s]
def lrN (S : aS) (p : Nat) (x2 : Int32) : Int32 := if exN (elg S p) (S 11 3) = true ∧ loN S p (S 11 3) ≤ hiN S p (S 11 3) then (if x2 = 0 then nI (loN S p (S 11 3)) else nI (hiN S p (S 11 3))) else -1
theorem lrnL13 {σ : zS} (hA : RA σ S) (hI : Inv S) {p : Nat} (hp : p < 10) (x2 : Int32) : ∀ (d n k : Nat), k + d = S 11 3 → d < n → f_X1_warmthLearnt_L13 (nI p) x2 n (nI (loN S p k)) (nI (hiN S p k)) (if exN (elg S p) k = true then 1 else 0) (nI k) σ = some (lrN S p x2, σ)
  | 0, n + 1, k, h, _ => by
    have hk : k = S 11 3 := by omega
    have l1 := lo_le hI (p := p) (S 11 3) (Nat.le_refl _)
    have l2 := hi_le (S := S) (p := p) (S 11 3)
    rw [f_X1_warmthLearnt_L13, hA.many, hk, if_pos (Int32.le_refl _), ifz]
    unfold lrN
    by_cases e : exN (elg S p) (S 11 3) = true
    · rw [if_pos e]
      by_cases g : loN S p (S 11 3) ≤ hiN S p (S 11 3)
      · rw [if_pos ((qle_n (by omega) (by omega)).mpr g), if_pos (show exN (elg S p) (S 11 3) = true ∧ loN S p (S 11 3) ≤ hiN S p (S 11 3) from ⟨e, g⟩)]
        by_cases z : x2 = 0
        · rw [if_pos z, if_pos z]
        · rw [if_neg z, if_neg z]
      · rw [if_neg (fun z => g ((qle_n (by omega) (by omega)).mp z)), if_neg (show ¬ (exN (elg S p) (S 11 3) = true ∧ loN S p (S 11 3) ≤ hiN S p (S 11 3)) from fun z => g z.2)]
    · rw [if_neg e, if_neg (show ¬ (exN (elg S p) (S 11 3) = true ∧ loN S p (S 11 3) ≤ hiN S p (S 11 3)) from fun z => e z.1)]
  | d + 1, n + 1, k, h, hn => by
    have h12 := hI.n12
    have hk : k < S 11 3 := by omega
    have hb := hI.bl hk
    have l1 := lo_le hI (p := p) k (by omega)
    have l2 := hi_le (S := S) (p := p) k
    have l3 := ls_le hI hk
    have l4 := gs_le hI hk
    have ih := lrnL13 hA hI hp x2 d n (k + 1) (by omega) (by omega)
    rw [loN, hiN, exN] at ih
    have no : elg S p k = false → f_X1_warmthLearnt_L13 (nI p) x2 n (nI (loN S p k)) (nI (hiN S p k)) (if exN (elg S p) k = true then 1 else 0) (nI (k + 1)) σ = some (lrN S p x2, σ) := fun e => by
      rw [e, if_neg (by decide), if_neg (by decide), Bool.or_false] at ih
      exact ih
    rw [f_X1_warmthLearnt_L13, hA.many, if_neg (by rw [qle_n (by omega) (by omega)]; omega), zrd_n (by omega) (by omega), hA.row 18 13 12 (by decide) (by omega), nI_1]
    by_cases c1 : S 13 k = p
    · rw [if_pos (by rw [c1]), zrd_n (by omega) (by omega), hA.row 23 18 12 (by decide) (by omega)]
      by_cases c2 : S 18 k = 0
      · rw [if_pos (by rw [c2]; decide)]
        exact no (by unfold elg; simp [c2])
      · rw [if_neg (by rw [q0, qle_n (by omega) (by omega)]; omega), zrd_n (by omega) (by omega), hA.dt hk]
        by_cases c3 : S 21 k = 0
        · rw [if_pos ((nI_nm1 (by omega)).mpr c3)]
          exact no (by unfold elg; simp [c3])
        · have e : elg S p k = true := by unfold elg; simp [c1]; omega
          rw [e, if_pos rfl, if_pos rfl, Bool.or_true, if_pos rfl] at ih
          rw [if_neg (fun z => c3 ((nI_nm1 (by omega)).mp z)), zrd_n (by omega) (by omega), hA.row 23 18 12 (by decide) (by omega), zrd_n (by omega) (by omega), hA.dt hk, nI_sub1 (by omega), leastA hI hk (by omega), zbd_s, zrd_n (by omega) (by omega), hA.row 23 18 12 (by decide) (by omega), zrd_n (by omega) (by omega), hA.dt hk, nI_sub1 (by omega), greatA hI hk, zbd_s, zmax_n (by omega) (by omega), zmin_n (by omega) (by omega)]
          exact ih
    · rw [if_neg (by rw [qeq_n (by omega) (by omega)]; exact c1)]
      exact no (by unfold elg; simp [c1])
/-! the model -/
theorem lrnL47 {τ : zS} (hB : RB τ S) (hI : Inv S) {p w : Nat} (hp : p < 10) (hw : 1 ≤ w ∧ w ≤ 999) (k30 : Int32 → Int32 → Int32 → zS → Option (Int32 × zS)) (x2 x3 x4 : Int32) : ∀ (d n k : Nat), k + d = S 11 3 → d < n →
    f_X10_learnt_L47 k30 (nI p) x2 x3 x4 (nI w) n (if alW S p w k = true then 1 else 0) (if exN (elg S p) k = true then 1 else 0) (nI k) τ = if alW S p w (S 11 3) = true ∧ exN (elg S p) (S 11 3) = true then k30 (if x3 = -1 then nI w else x3) (nI w) (nI (w + 1)) τ else k30 x3 x4 (nI (w + 1)) τ
  | 0, n + 1, k, h, _ => by
    have hk : k = S 11 3 := by omega
    rw [f_X10_learnt_L47, hB.many, hk, if_pos (Int32.le_refl _), ifz, ifz]
    unfold f_X10_learnt_J176
    rw [ifz, ifz, ifz, ifz, nI_1]
    by_cases a : alW S p w (S 11 3) = true
    · by_cases e : exN (elg S p) (S 11 3) = true
      · rw [if_pos a, if_pos e, if_pos (show alW S p w (S 11 3) = true ∧ exN (elg S p) (S 11 3) = true from ⟨a, e⟩)]
        by_cases z : x3 = -1
        · rw [if_pos z, if_pos z, if_pos a, if_pos e]
        · rw [if_neg z, if_neg z, if_pos a, if_pos e]
      · rw [if_pos a, if_neg e, if_neg (show ¬ (alW S p w (S 11 3) = true ∧ exN (elg S p) (S 11 3) = true) from fun z => e z.2), if_pos a, if_neg e]
    · rw [if_neg a, if_neg (show ¬ (alW S p w (S 11 3) = true ∧ exN (elg S p) (S 11 3) = true) from fun z => a z.1), if_neg a]
  | d + 1, n + 1, k, h, hn => by
    have h12 := hI.n12
    have hk : k < S 11 3 := by omega
    have hb := hI.bl hk
    obtain ⟨b0, _, _, _, _, b7, _, _, b10⟩ := hB.bl hk
    have ih := lrnL47 hB hI hp hw k30 x2 x3 x4 d n (k + 1) (by omega) (by omega)
    rw [alW, exN] at ih
    have no : elg S p k = false → f_X10_learnt_L47 k30 (nI p) x2 x3 x4 (nI w) n (if alW S p w k = true then 1 else 0) (if exN (elg S p) k = true then 1 else 0) (nI (k + 1)) τ = if alW S p w (S 11 3) = true ∧ exN (elg S p) (S 11 3) = true then k30 (if x3 = -1 then nI w else x3) (nI w) (nI (w + 1)) τ else k30 x3 x4 (nI (w + 1)) τ := fun e => by
      rw [e, Bool.or_false, Bool.not_false, Bool.true_or, Bool.and_true] at ih
      exact ih
    rw [f_X10_learnt_L47, hB.many, if_neg (by rw [qle_n (by omega) (by omega)]; omega), atB (x := nI k) (y := 0) (b := k) (k := 0) (by omega) (by omega) rfl rfl, zbd_s, Nat.add_zero, b0, nI_1]
    by_cases c1 : S 13 k = p
    · rw [if_pos (show nI (S 13 k) = nI p by rw [c1]), atB (x := nI k) (y := 7) (b := k) (k := 7) (by omega) (by omega) rfl rfl, zbd_s, b7]
      by_cases c2 : S 18 k = 0
      · rw [if_pos (show nI (S 18 k) ≤ 0 by rw [c2]; decide)]
        exact no (by unfold elg; simp [c2])
      · rw [if_neg (show ¬ nI (S 18 k) ≤ 0 by rw [q0, qle_n (by omega) (by omega)]; omega), atB (x := nI k) (y := 10) (b := k) (k := 10) (by omega) (by omega) rfl rfl, zbd_s, b10]
        by_cases c3 : S 21 k = 0
        · rw [if_pos ((nI_nm1 (by omega)).mpr c3)]
          exact no (by unfold elg; simp [c3])
        · have e : elg S p k = true := by unfold elg; simp [c1]; omega
          rw [e, Bool.not_true, Bool.false_or, Bool.or_true, if_pos (show true = true from rfl)] at ih
          rw [if_neg (fun z => c3 ((nI_nm1 (by omega)).mp z)), ifz]
          by_cases a : alW S p w k = true
          · have hq1 : 9999 - (S 18 k + 1) * (S 18 k + 1) / w ≤ 9999 := Nat.sub_le _ _
            have hq2 : 9999 - (S 18 k - 1) * (S 18 k - 1) / w ≤ 9999 := Nat.sub_le _ _
            rw [if_pos a, atB (x := nI k) (y := 10) (b := k) (k := 10) (by omega) (by omega) rfl rfl, zbd_s, b10, atB (x := nI k) (y := 7) (b := k) (k := 7) (by omega) (by omega) rfl rfl, zbd_s, b7, nI_1, agoB (by omega) hw, zbd_s, atB (x := nI k) (y := 7) (b := k) (k := 7) (by omega) (by omega) rfl rfl, zbd_s, b7, nI_sub1 (show 0 < S 18 k by omega), agoB (by omega) hw, zbd_s, nI_sub1 (show 0 < S 21 k by omega), inB, zbd_s, ifz, qti (by omega), qti (by omega), qti (by omega)]
            rw [a, Bool.true_and] at ih
            by_cases o : okW S w k = true
            · have o' := o
              unfold okW at o'
              rw [Bool.and_eq_true, decide_eq_true_eq, decide_eq_true_eq] at o'
              rw [if_pos (by omega)]
              rw [o, if_pos (show true = true from rfl)] at ih
              exact ih
            · have o' := o
              unfold okW at o'
              rw [Bool.and_eq_true, decide_eq_true_eq, decide_eq_true_eq] at o'
              rw [if_neg (by omega)]
              rw [if_neg o] at ih
              exact ih
          · rw [Bool.eq_false_iff.mpr a, Bool.false_and, if_neg (show ¬ false = true by decide)] at ih
            rw [if_neg a]
            exact ih
    · rw [if_neg (show ¬ nI (S 13 k) = nI p by rw [qeq_n (by omega) (by omega)]; exact c1)]
      exact no (by unfold elg; simp [c1])
def lwE (S : aS) (p w : Nat) : Prop := exN (elg S p) (S 11 3) = true ∧ loN S p (S 11 3) ≤ hiN S p (S 11 3) ∧ loN S p (S 11 3) < w
theorem lrnL30 {τ : zS} (hB : RB τ S) (hI : Inv S) {p : Nat} (hp : p < 10) (x2 : Int32) : ∀ (d n w : Nat) (x3 x4 : Int32), (lwE S p w → x3 = nI (loN S p (S 11 3)) ∧ x4 = nI (min (hiN S p (S 11 3)) (w - 1))) → (¬ lwE S p w → x3 = -1 ∧ x4 = -1) → 1 ≤ w → w + d = 1000 → d < n → f_X10_learnt_L30 (nI p) x2 n x3 x4 (nI w) τ = some (lrN S p x2, τ)
  | 0, n + 1, w, x3, x4, h1, h2, _, h, _ => by
    have l2 := hi_le (S := S) (p := p) (S 11 3)
    rw [f_X10_learnt_L30, if_pos (by rw [q1000, qle_n (by omega) (by omega)]; omega)]
    unfold lrN
    by_cases e : lwE S p w
    · obtain ⟨a1, a2⟩ := h1 e
      rw [if_pos (show exN (elg S p) (S 11 3) = true ∧ loN S p (S 11 3) ≤ hiN S p (S 11 3) from ⟨e.1, e.2.1⟩), a1, a2, Nat.min_eq_left (show hiN S p (S 11 3) ≤ w - 1 by omega)]
      by_cases z : x2 = 0
      · rw [if_pos z, if_pos z]
      · rw [if_neg z, if_neg z]
    · obtain ⟨a1, a2⟩ := h2 e
      rw [if_neg (show ¬ (exN (elg S p) (S 11 3) = true ∧ loN S p (S 11 3) ≤ hiN S p (S 11 3)) from fun z => e ⟨z.1, z.2, by have := z.2; omega⟩), a1, a2]
      by_cases z : x2 = 0
      · rw [if_pos z]
      · rw [if_neg z]
  | d + 1, n + 1, w, x3, x4, h1, h2, hw, h, hn => by
    have h12 := hI.n12
    have l1 := lo_le hI (p := p) (S 11 3) (Nat.le_refl _)
    have l2 := hi_le (S := S) (p := p) (S 11 3)
    have hin := lrnL47 hB hI hp (w := w) (by omega) (fun x3 x4 x5 σ => f_X10_learnt_L30 (nI p) x2 n x3 x4 x5 σ) x2 x3 x4 (S 11 3) zfu 0 (by omega) (zfu_gt (by omega))
    have ha := alW_i hI (p := p) (w := w) (by omega) (S 11 3) (Nat.le_refl _)
    rw [f_X10_learnt_L30, if_neg (by rw [q1000, qle_n (by omega) (by omega)]; omega)]
    refine Eq.trans hin ?_
    rw [ifc (show (alW S p w (S 11 3) = true ∧ exN (elg S p) (S 11 3) = true) ↔ ((loN S p (S 11 3) ≤ w ∧ w ≤ hiN S p (S 11 3)) ∧ exN (elg S p) (S 11 3) = true) by rw [ha])]
    by_cases c : (loN S p (S 11 3) ≤ w ∧ w ≤ hiN S p (S 11 3)) ∧ exN (elg S p) (S 11 3) = true
    · rw [if_pos c]
      have e1 : lwE S p (w + 1) := ⟨c.2, by omega, by omega⟩
      refine lrnL30 hB hI hp x2 d n (w + 1) _ _ (fun _ => ⟨?_, by rw [Nat.add_sub_cancel, Nat.min_eq_right c.1.2]⟩) (fun z => absurd e1 z) (by omega) (by omega) (by omega)
      by_cases e : lwE S p w
      · rw [(h1 e).1, if_neg (nI_nm (by omega))]
      · have : loN S p (S 11 3) = w := by
          by_cases q : loN S p (S 11 3) < w
          · exact absurd ⟨c.2, by omega, q⟩ e
          · omega
        rw [(h2 e).1, if_pos rfl, this]
    · rw [if_neg c]
      refine lrnL30 hB hI hp x2 d n (w + 1) _ _ (fun e => ?_) (fun e => ?_) (by omega) (by omega) (by omega)
      · obtain ⟨e1, e2, e3⟩ := e
        have hw2 : ¬ w ≤ hiN S p (S 11 3) := fun q => c ⟨⟨by omega, q⟩, e1⟩
        have := h1 ⟨e1, e2, by omega⟩
        rw [this.1, this.2]
        exact ⟨rfl, by congr 1; omega⟩
      · refine h2 (fun q => e ⟨q.1, q.2.1, by have := q.2.2; omega⟩)
theorem ag_learnt {σ τ : zS} (hA : RA σ S) (hB : RB τ S) (hI : Inv S) (x1 x2 : Int32) : Ag (f_X9_learnt x1 x2 σ) (f_X10_learnt x1 x2 τ) S := by
  have h12 := hI.n12
  unfold f_X9_learnt f_X10_learnt
  rw [isPlaceA, isPlaceB, zbd_s, zbd_s, ifz, ifz, isWithinA, inB, zbd_s, zbd_s, ifz, ifz, t0, t1]
  by_cases g : vd x1 10
  · rw [if_pos g, if_pos g]
    by_cases k1 : 0 ≤ x2.toInt ∧ x2.toInt ≤ 1
    · rw [if_pos k1, if_pos k1]
      obtain ⟨p, hp, rfl⟩ := vd_of g
      have ha : f_X1_warmthLearnt (nI p) x2 σ = some (lrN S p x2, σ) := lrnL13 hA hI hp x2 (S 11 3) zfu 0 (by omega) (zfu_gt (by omega))
      have l1 := lo_le hI (p := p) (S 11 3) (Nat.le_refl _)
      have hb : f_X10_learnt_L30 (nI p) x2 zfu (-1) (-1) 1 τ = some (lrN S p x2, τ) := lrnL30 hB hI hp x2 999 zfu 1 (-1) (-1) (fun e => by have := e.2.2; omega) (fun _ => ⟨rfl, rfl⟩) (by omega) (by omega) (zfu_gt (by omega))
      rw [ha, zbd_s, hb]
      exact Ag.mk rfl rfl hA hB hI
    · rw [if_neg k1, if_neg k1]; exact Ag.mk rfl rfl hA hB hI
  · rw [if_neg g, if_neg g]; exact Ag.mk rfl rfl hA hB hI
end LEARNT
