/-! PURE: from -/
section FROM0
variable {P0 P1 : Nat → Nat} {n b q : Nat}
theorem frmP_dn (hF : Fo P0 n) {o u : Nat} (ho : o < n) : ∀ {m : Nat}, frmP P0 u m (o + 1) = true → dn P0 o u = true
  | 0, h => by rw [frmP] at h; cases h
  | m + 1, h => by
    rw [frmP, if_neg (by omega), Nat.add_sub_cancel] at h
    by_cases e : o + 1 = u + 1
    · have : o = u := by omega
      rw [this]; exact dn_self P0 u
    · rw [if_neg e] at h
      exact dn_of hF ho h
theorem frmP_10 (hF : Fo P0 n) (hq : q < n) (h1 : P1 b = q + 1) (he : ∀ y, y ≠ b → P1 y = P0 y) (hnd : ¬ dn P0 q b = true) {u : Nat} : ∀ {m c : Nat}, frmP P1 u m c = true → frmP P0 u m c = true ∨ (frmP P0 b m c = true ∧ dn P0 q u = true)
  | 0, c, h => by rw [frmP] at h; cases h
  | m + 1, c, h => by
    rw [frmP] at h
    rw [frmP, frmP]
    by_cases e : c = 0
    · rw [if_pos e] at h; cases h
    · rw [if_neg e] at h
      rw [if_neg e, if_neg e]
      by_cases e2 : c = u + 1
      · rw [if_pos e2]; exact Or.inl rfl
      · rw [if_neg e2] at h
        rw [if_neg e2]
        by_cases e3 : c = b + 1
        · rw [if_pos e3]
          rw [e3, Nat.add_sub_cancel, h1] at h
          right
          refine ⟨rfl, ?_⟩
          rcases frmP_10 hF hq h1 he hnd h with g | g
          · exact frmP_dn hF hq g
          · exact absurd (frmP_dn hF hq g.1) hnd
        · rw [if_neg e3]
          rw [he (c - 1) (by omega)] at h
          exact frmP_10 hF hq h1 he hnd h
theorem frmP_01 (h0 : P0 b = 0) (he : ∀ y, y ≠ b → P1 y = P0 y) {u : Nat} : ∀ {m c : Nat}, frmP P0 u m c = true → frmP P1 u m c = true
  | 0, c, h => by rw [frmP] at h; cases h
  | m + 1, c, h => by
    rw [frmP] at h ⊢
    by_cases e : c = 0
    · rw [if_pos e] at h; cases h
    · rw [if_neg e] at h ⊢
      by_cases e2 : c = u + 1
      · rw [if_pos e2]
      · rw [if_neg e2] at h ⊢
        by_cases e3 : c - 1 = b
        · rw [e3, h0] at h
          cases m with
          | zero => rw [frmP] at h; cases h
          | succ k => rw [frmP, if_pos rfl] at h; cases h
        · rw [he _ e3]
          exact frmP_01 h0 he h
theorem dn_01 (h0 : P0 b = 0) (he : ∀ y, y ≠ b → P1 y = P0 y) {c u : Nat} (h : dn P0 c u = true) : dn P1 c u = true := by
  unfold dn at h ⊢
  simp only [Bool.or_eq_true, decide_eq_true_eq] at h ⊢
  rcases h with h | h
  · exact Or.inl h
  · by_cases e : c = b
    · rw [e, h0, show (12 : Nat) = 11 + 1 from rfl, frmP, if_pos rfl] at h; cases h
    · rw [he c e]; exact Or.inr (frmP_01 h0 he h)
theorem dn_10 (hF : Fo P0 n) (hq : q < n) (h1 : P1 b = q + 1) (he : ∀ y, y ≠ b → P1 y = P0 y) (hnd : ¬ dn P0 q b = true) {c u : Nat} (hc : c < n) (h : dn P1 c u = true) : dn P0 c u = true ∨ (dn P0 c b = true ∧ dn P0 q u = true) := by
  unfold dn at h
  simp only [Bool.or_eq_true, decide_eq_true_eq] at h
  rcases h with h | h
  · rw [h]; exact Or.inl (dn_self P0 u)
  · by_cases e : c = b
    · rw [e, h1] at h
      rcases frmP_10 hF hq h1 he hnd h with g | g
      · rw [e]; exact Or.inr ⟨dn_self P0 b, frmP_dn hF hq g⟩
      · exact absurd (frmP_dn hF hq g.1) hnd
    · rw [he c e] at h
      rcases frmP_10 hF hq h1 he hnd h with g | g
      · exact Or.inl (dn_of hF hc g)
      · exact Or.inr ⟨dn_of hF hc g.1, g.2⟩
theorem wayb_i {P : Nat → Nat} {o : aS} {el : Nat → Nat → Bool} {c : Nat} : wayb P o el n c = true ↔ SLv P o n c ≤ SHv P o n c ∧ ALv P o n c ≤ AHv o c ∧ LLv P o el n c ≤ o 5 c := by
  unfold wayb
  simp only [Bool.and_eq_true, decide_eq_true_eq]
theorem way_from {o : aS} {el : Nat → Nat → Bool} (hF : Fo P0 n) (hF1 : Fo P1 n) (hb : b < n) (hq : q < n) (h0 : P0 b = 0) (h1 : P1 b = q + 1) (he : ∀ y, y ≠ b → P1 y = P0 y) (hnd : ¬ dn P0 q b = true) (hel : ∀ c d, el c d = true → o 5 c = o 5 d) (ho : ∀ k b, b < n → o k b ≤ 9999) :
    wayv P1 o el n = true ↔ wayv P0 o el n = true ∧ SLv P0 o n q ≤ SHv P0 o n b := by
  have sl : ∀ c, SLv P0 o n c ≤ SLv P1 o n c := fun c => mxF_le (fun u hu hd => le_mxF (p := fun u => dn P1 c u) hu (dn_01 h0 he hd))
  have sh : ∀ u, SHv P1 o n u ≤ SHv P0 o n u := fun u => le_mnF (mnF_top _ _ _) (fun c hc hd => mnF_le (p := fun c => dn P1 c u) hc (dn_01 h0 he hd))
  have al : ∀ c, ALv P0 o n c ≤ ALv P1 o n c := fun c => by have := sl c; unfold ALv; omega
  have lp : ∀ c, LPv P0 o n c ≤ LPv P1 o n c := fun c => by have := al c; unfold LPv; omega
  have ll : ∀ c, LLv P0 o el n c ≤ LLv P1 o el n c := fun c => mxF_le (fun u hu hd => Nat.le_trans (lp u) (le_mxF (p := fun d => decide (d = c) || el d c) (f := LPv P1 o n) hu hd))
  unfold wayv
  rw [allN_iff, allN_iff]
  constructor
  · intro h
    refine ⟨fun c hc => ?_, ?_⟩
    · have hw := wayb_i.mp (h c hc)
      have := sl c; have := sh c; have := al c; have := ll c
      exact wayb_i.mpr ⟨by omega, by omega, by omega⟩
    · have hw := (wayb_i.mp (h b hb)).1
      have g1 := SL_dn (o := o) hF1 hb (dn_up h1)
      have := sl q; have := sh b
      omega
  · rintro ⟨h, hx⟩
    -- the new bounds of the strikes
    have s1 : ∀ c, c < n → SLv P1 o n c ≤ SHv P1 o n c := by
      intro c hc
      refine mxF_le (fun u hu hd => ?_)
      refine le_mnF (ho 0 u hu) (fun d hd1 hd2 => ?_)
      have w := (wayb_i.mp (h c hc)).1
      have own : o 0 u ≤ SLv P0 o n u := SL_own hu
      have oh : SHv P0 o n d ≤ HPv o d := SH_own hd1
      rcases dn_10 hF hq h1 he hnd hc hd with a | a
      · have g1 := SL_dn (o := o) hF hc a
        rcases dn_10 hF hq h1 he hnd hd1 hd2 with e | e
        · have g2 := SH_dn (o := o) hF hd1 e
          omega
        · have g2 := SL_dn (o := o) hF hq e.2
          have g3 := SH_dn (o := o) hF hd1 e.1
          omega
      · have g1 := SL_dn (o := o) hF hq a.2
        rcases dn_10 hF hq h1 he hnd hd1 hd2 with e | e
        · have g2 := SH_dn (o := o) hF hd1 e
          have g3 := SH_dn (o := o) hF hc a.1
          omega
        · exact absurd (dn_trans hF hq e.2 a.1) hnd
    have a1 : ∀ c, c < n → ALv P1 o n c ≤ AHv o c := by
      intro c hc
      have w := (wayb_i.mp (h c hc)).2.1
      have g1 := s1 c hc
      have g2 := sh c
      have g3 : SHv P0 o n c ≤ HPv o c := SH_own hc
      unfold HPv at g3
      unfold ALv at w ⊢
      omega
    intro c hc
    refine wayb_i.mpr ⟨s1 c hc, a1 c hc, mxF_le (fun d hd hp => ?_)⟩
    have w := (wayb_i.mp (h c hc)).2.2
    have g1 := a1 d hd
    have g2 : LPv P0 o n d ≤ LLv P0 o el n c := le_mxF (p := fun d => decide (d = c) || el d c) (f := LPv P0 o n) hd hp
    have g3 : o 5 d = o 5 c := by
      simp only [Bool.or_eq_true, decide_eq_true_eq] at hp
      rcases hp with e | e
      · rw [e]
      · exact hel d c e
    unfold LPv at g2 ⊢
    unfold AHv at g1
    omega
end FROM0
section FROM1
variable {σ τ : zS} {S : aS}
theorem Inv_strike (hI : Inv S) {b o : Nat} (hb : b < S 11 3) (ho : o < S 11 3) (hbo : b ≠ o) (hf : ¬ frm S b 12 (S 20 o) = true) : Inv (aup S 20 b (o + 1)) := by
  have hn := hI.n12
  refine Inv_bl hI (aup_lo (by omega)) (fun b1 hb1 => ?_) ?_ ?_
  · have hi := hI.bl hb1
    rw [aup_f (a := 13) (by decide), aup_f (a := 14) (by decide), aup_f (a := 15) (by decide), aup_f (a := 16) (by decide), aup_f (a := 17) (by decide), aup_f (a := 18) (by decide), aup_f (a := 19) (by decide), aup_f (a := 21) (by decide)]
    refine ⟨hi.1, hi.2.1, hi.2.2.1, hi.2.2.2.1, hi.2.2.2.2.1, hi.2.2.2.2.2.1, hi.2.2.2.2.2.2.1, hi.2.2.2.2.2.2.2.1, hi.2.2.2.2.2.2.2.2.1, hi.2.2.2.2.2.2.2.2.2.1, ?_, hi.2.2.2.2.2.2.2.2.2.2.2⟩
    by_cases e : b1 = b
    · rw [e, aup_at]; omega
    · rw [aup_j e]; exact hi.2.2.2.2.2.2.2.2.2.2.1
  · rw [aup_f (a := 18) (by decide), aup_f (a := 19) (by decide)]; exact hI.fr0
  · obtain ⟨rk, hrk⟩ := hI.rk
    have hr : ∀ b, b < S 11 3 → 0 < S 20 b → rk (S 20 b - 1) < rk b := fun b hb => (hrk b hb).2
    refine rank_norm (rk := fun y => if y = b ∨ frm S b 12 (S 20 y) = true then rk y + 12 else rk y) hn (fun b1 hb1 hz => ?_)
    by_cases e1 : b1 = b
    · rw [e1, aup_at]
      refine ⟨by omega, ?_⟩
      show (if o + 1 - 1 = b ∨ frm S b 12 (S 20 (o + 1 - 1)) = true then _ else rk (o + 1 - 1)) < _
      rw [Nat.add_sub_cancel, if_neg (by intro z; rcases z with z | z; exact hbo z.symm; exact hf z), if_pos (Or.inl rfl)]
      have := (hrk o ho).1
      omega
    · rw [aup_j e1] at hz ⊢
      have hp := hI.fl20 b1 hb1
      have hp1 : S 20 b1 - 1 < S 11 3 := by omega
      refine ⟨hp1, ?_⟩
      have hlt := hr b1 hb1 hz
      have key : frm S b 12 (S 20 b1) = true ↔ (S 20 b1 - 1 = b ∨ frm S b 12 (S 20 (S 20 b1 - 1)) = true) := by
        rw [show frm S b 12 (S 20 b1) = if S 20 b1 = 0 then false else if S 20 b1 = b + 1 then true else frm S b 11 (S 20 (S 20 b1 - 1)) from rfl, if_neg (by omega)]
        have hfu : frm S b 11 (S 20 (S 20 b1 - 1)) = frm S b 12 (S 20 (S 20 b1 - 1)) := frm_fuel hr hI.fl20 b 11 12 _ (hI.fl20 _ hp1) (fun z => by have h1 := hr _ hp1 z; have h2 := (hrk _ hb1).1; omega)
        by_cases e2 : S 20 b1 = b + 1
        · rw [if_pos e2]; simp; left; omega
        · rw [if_neg e2, hfu]
          constructor
          · exact Or.inr
          · rintro (z | z)
            · omega
            · exact z
      show (if S 20 b1 - 1 = b ∨ frm S b 12 (S 20 (S 20 b1 - 1)) = true then rk (S 20 b1 - 1) + 12 else rk (S 20 b1 - 1)) < (if b1 = b ∨ frm S b 12 (S 20 b1) = true then rk b1 + 12 else rk b1)
      by_cases hd : S 20 b1 - 1 = b ∨ frm S b 12 (S 20 (S 20 b1 - 1)) = true
      · rw [if_pos hd, if_pos (Or.inr (key.mpr hd))]; omega
      · rw [if_neg hd]
        split <;> omega
/-- going up to b, it does not matter where b itself comes from -/
theorem frmP_w {b : Nat} : ∀ m c, frmP (Pw S (b + 1)) b m c = frmP (S 20) b m c
  | 0, _ => rfl
  | m + 1, c => by
    rw [frmP, frmP]
    by_cases e : c = 0
    · rw [if_pos e, if_pos e]
    · rw [if_neg e, if_neg e]
      by_cases e2 : c = b + 1
      · rw [if_pos e2, if_pos e2]
      · rw [if_neg e2, if_neg e2, frmP_w m, show Pw S (b + 1) (c - 1) = S 20 (c - 1) from if_neg (by omega)]
theorem dn_w {b o : Nat} (hbo : b ≠ o) (hf : ¬ frm S b 12 (S 20 o) = true) : ¬ dn (Pw S (b + 1)) o b = true := by
  unfold dn
  rw [frmP_w, show Pw S (b + 1) o = S 20 o from if_neg (by omega), ← frm_P]
  simp only [Bool.or_eq_true, decide_eq_true_eq]
  rintro (z | z)
  · exact hbo z.symm
  · exact hf z
/-- the flows of both meet, the other is greater, and does not come from it -/
def lik (S : aS) (b q : Nat) : Bool := !decide (nI (bN (cb S b) 9) &&& nI (bN (cb S q) 9) = 0) && (decide (S 16 b < S 16 q) && !frm S b 12 (S 20 q))
def mfr (S : aS) (b q : Nat) : Bool := lik S b q && (wayv (Pw S (b + 1)) (ow S) (elS S) (S 11 3) && decide (SLv (Pw S (b + 1)) (ow S) (S 11 3) q ≤ SHv (Pw S (b + 1)) (ow S) (S 11 3) b))
theorem bN_zero {p : Nat → Bool} : ∀ {n : Nat}, (∀ k, k < n → p k = false) → bN p n = 0
  | 0, _ => rfl
  | n + 1, h => by rw [bN, bN_zero (fun k hk => h k (by omega)), h n (by omega)]; rfl
theorem likelyA (hA : RA σ S) (hI : Inv S) (hO : OB S σ (S 11 3)) {b q : Nat} (hb : b < S 11 3) (hq : q < S 11 3) : f_X5_isLikely (nI b) (nI q) σ = some (if lik S b q = true then 1 else 0, σ) := by
  have h12 := hI.n12
  have s1 := (hI.bl hb).2.2.2.2.2.1
  have s2 := (hI.bl hq).2.2.2.2.2.1
  unfold f_X5_isLikely lik
  rw [zrd_n (by omega) (by omega), zrd_n (by omega) (by omega), (hO b hb).2, (hO q hq).2]
  by_cases e : nI (bN (cb S b) 9) &&& nI (bN (cb S q) 9) = 0
  · rw [if_pos e, if_neg (by simp [e])]
  · rw [if_neg e, zrd_n (by omega) (by omega), zrd_n (by omega) (by omega), hA.row 21 16 12 (by decide) (by omega), hA.row 21 16 12 (by decide) (by omega)]
    by_cases g : S 16 q ≤ S 16 b
    · rw [if_pos ((qle_n (by omega) (by omega)).mpr g), if_neg (by simp; intro _ z; omega)]
    · rw [if_neg (fun z => g ((qle_n (by omega) (by omega)).mp z)), comesFromA hA hI hq (by omega), zbd_s]
      by_cases f : frm S b 12 (S 20 q) = true
      · rw [if_pos f, if_neg (by decide), if_neg (by simp [f])]
      · rw [if_neg f, if_pos rfl, if_pos (by simp [e, f]; omega)]
theorem leavesA (hI : Inv S) {P : Nat → Nat} (hW : WB σ (Fin6 P (ow S) (elS S) (S 11 3)) (S 11 3)) {b q : Nat} (hb : b < S 11 3) (hq : q < S 11 3) : f_X5_leavesWay (nI b) (nI q) σ = some (if SLv P (ow S) (S 11 3) q ≤ SHv P (ow S) (S 11 3) b then 1 else 0, σ) := by
  have h12 := hI.n12
  have ho : ∀ k b, b < S 11 3 → ow S k b ≤ 9999 := fun k b hb => ow_le hI hb
  have g1 : SLv P (ow S) (S 11 3) q ≤ 9999 := SL_le ho
  have g2 : SHv P (ow S) (S 11 3) b ≤ 9999 := mnF_top _ _ _
  have e0 : σ 30 (12 * 0 + q) = nI (SLv P (ow S) (S 11 3) q) := hW 0 q (by omega) hq
  have e1 : σ 30 (12 * 1 + b) = nI (SHv P (ow S) (S 11 3) b) := hW 1 b (by omega) hb
  unfold f_X5_leavesWay
  rw [boundA (x := 0) (k := 0) rfl (by omega) (by omega), zbd_s, boundA (x := 1) (k := 1) rfl (by omega) (by omega), zbd_s, e0, e1]
  by_cases h : SLv P (ow S) (S 11 3) q ≤ SHv P (ow S) (S 11 3) b
  · rw [if_neg (by rw [qlt_n (by omega) (by omega)]; omega), if_pos h]
  · rw [if_pos (by rw [qlt_n (by omega) (by omega)]; omega), if_neg h]
theorem fromAL (hA : RA σ S) (hI : Inv S) (hO : OB S σ (S 11 3)) {b : Nat} (hb : b < S 11 3) (hW : WB σ (Fin6 (Pw S (b + 1)) (ow S) (elS S) (S 11 3)) (S 11 3)) (hy : wayv (Pw S (b + 1)) (ow S) (elS S) (S 11 3) = true) : ∀ (d n q : Nat), q + d = S 11 3 → d < n → f_X5_findMayFrom_L17 (nI b) n (nI (bN (mfr S b) q)) (nI q) σ = some (nI (bN (mfr S b) (S 11 3)), σ)
  | 0, n + 1, q, hd, _ => by
    have h12 := hI.n12
    rw [f_X5_findMayFrom_L17, hA.many, if_pos ((qle_n (by omega) (by omega)).mpr (by omega)), show q = S 11 3 by omega]
  | d + 1, n + 1, q, hd, hn => by
    have h12 := hI.n12
    have hq : q < S 11 3 := by omega
    have ih := fromAL hA hI hO hb hW hy d n (q + 1) (by omega) (by omega)
    rw [f_X5_findMayFrom_L17, hA.many, if_neg (fun z => by have := (qle_n (by omega) (by omega)).mp z; omega), likelyA hA hI hO hb hq, zbd_s, ifz, nI_1]
    by_cases l : lik S b q = true
    · rw [if_pos l, leavesA hI hW hb hq, zbd_s, ifz]
      by_cases g : SLv (Pw S (b + 1)) (ow S) (S 11 3) q ≤ SHv (Pw S (b + 1)) (ow S) (S 11 3) b
      · rw [if_pos g, shl1N (by omega), bN_or (by unfold mfr; simp [l, hy, g])]; exact ih
      · rw [if_neg g, ← bN_no (p := mfr S b) (i := q) (by unfold mfr; simp [g])]; exact ih
    · rw [if_neg l, ← bN_no (p := mfr S b) (i := q) (by unfold mfr; simp [l])]; exact ih
theorem findA (hA : RA σ S) (hI : Inv S) (hO : OB S σ (S 11 3)) {b : Nat} (hb : b < S 11 3) : ∃ σ1, f_X5_findMayFrom (nI b) σ = some (nI (bN (mfr S b) (S 11 3)), σ1) ∧ ∀ k, k ≠ 30 → σ1 k = σ k := by
  have h12 := hI.n12
  obtain ⟨σ2, b1, b2, b3⟩ := settleA hI hA hO (fc := b + 1) (by omega)
  have hA2 : RA σ2 S := RA_29 hA (fun k _ h2 _ => b2 k h2)
  have hO2 : OB S σ2 (S 11 3) := fun c hc => by rw [b2 29 (by decide), b2 31 (by decide)]; exact hO c hc
  rw [nI_pred b] at b1
  refine ⟨σ2, ?_, b2⟩
  unfold f_X5_findMayFrom
  rw [b1, zbd_s, ifz]
  by_cases hy : wayv (Pw S (b + 1)) (ow S) (elS S) (S 11 3) = true
  · have hl := fromAL hA2 hI hO2 hb b3 hy (S 11 3) zfu 0 (by omega) (zfu_gt (by omega))
    rw [if_pos hy]
    exact hl
  · rw [if_neg hy, bN_zero (p := mfr S b) (fun k _ => by unfold mfr; simp [hy])]
    rfl
theorem fromA (hA : RA σ S) (hI : Inv S) {b : Nat} (hb : b < S 11 3) : ∃ σ1, f_X5_mayBeFrom (nI b) σ = some (nI (bN (mfr S b) (S 11 3)), σ1) ∧ RA σ1 S := by
  obtain ⟨σ1, a1, a2, a3⟩ := bbnA hA hI
  have hA1 : RA σ1 S := RA_29 hA (fun k h1 _ h3 => a2 k h1 h3)
  obtain ⟨σ2, b1, b2⟩ := findA hA1 hI a3 hb
  refine ⟨σ2, ?_, RA_29 hA1 (fun k _ h2 _ => b2 k h2)⟩
  unfold f_X5_mayBeFrom
  rw [a1, zbd_s, b1, zbd_s]
theorem aup_back {b v : Nat} : aup (aup S 20 b v) 20 b (S 20 b) = S := by
  funext c j
  by_cases e : c = 20
  · by_cases e2 : j = b
    · rw [e, e2, aup_at]
    · rw [aup_j e2, aup_j e2]
  · rw [aup_c e, aup_c e]
theorem mfr_i (hI : Inv S) {b q : Nat} (hb : b < S 11 3) (hq : q < S 11 3) (l : lik S b q = true) : mfr S b q = true ↔ wayv (aup S 20 b (q + 1) 20) (ow S) (elS S) (S 11 3) = true := by
  have l1 := l
  unfold lik at l1
  simp only [Bool.and_eq_true, decide_eq_true_eq, Bool.not_eq_true'] at l1
  have hbq : b ≠ q := fun z => by have := l1.2.1; rw [z] at this; omega
  have hf : ¬ frm S b 12 (S 20 q) = true := by rw [l1.2.2]; decide
  have hI1 := Inv_strike hI hb hq hbq hf
  have hF1 : Fo (aup S 20 b (q + 1) 20) (S 11 3) := by have := Fo_of hI1; rw [aup_f (a := 11) (by decide)] at this; exact this
  have hw := way_from (o := ow S) (el := elS S) (Fo_w hI (b + 1)) hF1 hb hq (if_pos rfl) aup_at (fun y hy => (aup_j hy).trans (show S 20 y = Pw S (b + 1) y from (if_neg (by omega)).symm)) (dn_w hbq hf) (fun c d hcd => by
    unfold elS at hcd
    simp only [Bool.and_eq_true, decide_eq_true_eq] at hcd
    show S 2 (S 13 c) = S 2 (S 13 d)
    rw [hcd.1]) (fun k b hb => ow_le hI hb)
  rw [hw]
  unfold mfr
  simp [l]
theorem fromBL (hI : Inv S) {b : Nat} (hb : b < S 11 3) : ∀ (d n q : Nat) (τ : zS), RB τ S → q + d = S 11 3 → d < n → ∃ τ1, f_X10_mayBeFrom_L13 (nI b) (nI (S 20 b) - 1) n (nI (bN (mfr S b) q)) (nI q) τ = some (nI (bN (mfr S b) (S 11 3)), τ1) ∧ RB τ1 S ∧ ∀ k, 12 < k → τ1 k = τ k
  | 0, n + 1, q, τ, hB, hd, _ => by
    have h12 := hI.n12
    refine ⟨τ, ?_, hB, fun _ _ => rfl⟩
    rw [f_X10_mayBeFrom_L13, hB.many, if_pos ((qle_n (by omega) (by omega)).mpr (by omega)), show q = S 11 3 by omega]
  | d + 1, n + 1, q, τ, hB, hd, hn => by
    have h12 := hI.n12
    have hq : q < S 11 3 := by omega
    have s1 := (hI.bl hb).2.2.2.2.2.1
    have s2 := (hI.bl hq).2.2.2.2.2.1
    have no : ¬ mfr S b q = true → ∃ τ1, f_X10_mayBeFrom_L13 (nI b) (nI (S 20 b) - 1) n (nI (bN (mfr S b) q)) (nI (q + 1)) τ = some (nI (bN (mfr S b) (S 11 3)), τ1) ∧ RB τ1 S ∧ ∀ k, 12 < k → τ1 k = τ k := fun h => by
      rw [← bN_no (p := mfr S b) (i := q) h]
      exact fromBL hI hb d n (q + 1) τ hB (by omega) (by omega)
    rw [f_X10_mayBeFrom_L13, hB.many, if_neg (fun z => by have := (qle_n (by omega) (by omega)).mp z; omega), nI_1]
    by_cases e : nI q = nI b
    · rw [if_pos e]
      have e1 : q = b := (qeq_n (by omega) (by omega)).mp e
      exact no (by unfold mfr lik; rw [e1]; simp)
    · rw [if_neg e, canB hB hI hb, zbd_s, canB hB hI hq, zbd_s]
      by_cases c : nI (bN (cb S b) 9) &&& nI (bN (cb S q) 9) = 0
      · rw [if_pos c]
        exact no (by unfold mfr lik; simp [c])
      · rw [if_neg c, atB (x := nI q) (y := 5) (b := q) (k := 5) (by omega) (by omega) rfl rfl, zbd_s, atB (x := nI b) (y := 5) (b := b) (k := 5) (by omega) (by omega) rfl rfl, zbd_s, (hB.bl hq).2.2.2.1, (hB.bl hb).2.2.2.1]
        by_cases g : S 16 q ≤ S 16 b
        · rw [if_pos ((qle_n (by omega) (by omega)).mpr g)]
          exact no (by unfold mfr lik; simp [show ¬ S 16 b < S 16 q by omega])
        · rw [if_neg (fun z => g ((qle_n (by omega) (by omega)).mp z)), isFromB hB hI hq (by omega), zbd_s]
          by_cases f : frm S b 12 (S 20 q) = true
          · rw [if_pos f, if_neg (by decide)]
            exact no (by unfold mfr lik; simp [f])
          · rw [if_neg f, if_pos rfl, zwr_i (x := 11 * nI b + 9) (j := 11 * b + 9) (ix1 11 b 9) (by omega) (by omega)]
            have hbq : b ≠ q := fun z => e (by rw [z])
            have l : lik S b q = true := by unfold lik; simp [c, f]; omega
            have hI1 := Inv_strike hI hb hq hbq f
            have hB1 : RB (zup τ 6 (11 * b + 9) (nI q)) (aup S 20 b (q + 1)) := by
              rw [show nI q = nI (q + 1) - 1 from (nI_pred q).symm]
              exact RB_slot hB (by omega) (aup_lo (by omega)) (fun b1 k1 _ hk => bv_20 b1 k1 hk)
            obtain ⟨τ1, y1, y2, y3, y4⟩ := yearsB hI1 hB1
            have ew : wayv (aup S 20 b (q + 1) 20) (ow (aup S 20 b (q + 1))) (elS (aup S 20 b (q + 1))) (aup S 20 b (q + 1) 11 3) = wayv (aup S 20 b (q + 1) 20) (ow S) (elS S) (S 11 3) := rfl
            rw [ew] at y1
            have hB2 : RB (zup τ1 6 (11 * b + 9) (nI (S 20 b) - 1)) S := by
              have := RB_slot (S1 := aup (aup S 20 b (q + 1)) 20 b (S 20 b)) (k := 9) (b := b) (v := nI (S 20 b) - 1) y2 (by omega) (aup_lo (by omega)) (fun b1 k1 _ hk => bv_20 b1 k1 hk)
              rw [aup_back] at this
              exact this
            obtain ⟨τ2, z1, z2, z3⟩ := fromBL hI hb d n (q + 1) _ hB2 (by omega) (by omega)
            refine ⟨τ2, ?_, z2, fun k hk => by rw [z3 k hk, zup_ne (by omega), y3 k (by omega), zup_ne (by omega)]⟩
            rw [y1, zbd_s, ifz]
            unfold f_X10_mayBeFrom_J99
            rw [zwr_i (x := 11 * nI b + 9) (j := 11 * b + 9) (ix1 11 b 9) (by omega) (by omega), zwr_i (x := 11 * nI b + 9) (j := 11 * b + 9) (ix1 11 b 9) (by omega) (by omega), nI_1, or0, shl1N (by omega)]
            by_cases hw : wayv (aup S 20 b (q + 1) 20) (ow S) (elS S) (S 11 3) = true
            · rw [if_pos hw, bN_or ((mfr_i hI hb hq l).mpr hw)]; exact z1
            · rw [if_neg hw, ← bN_no (p := mfr S b) (i := q) (fun z => hw ((mfr_i hI hb hq l).mp z))]; exact z1
theorem fromB (hB : RB τ S) (hI : Inv S) {b : Nat} (hb : b < S 11 3) : ∃ τ1, f_X10_mayBeFrom (nI b) τ = some (nI (bN (mfr S b) (S 11 3)), τ1) ∧ RB τ1 S ∧ ∀ k, 12 < k → τ1 k = τ k := by
  have h12 := hI.n12
  obtain ⟨τ1, b1, b2⟩ := fromBL hI hb (S 11 3) zfu 0 τ hB (by omega) (zfu_gt (by omega))
  refine ⟨τ1, ?_, b2⟩
  unfold f_X10_mayBeFrom
  rw [atB (x := nI b) (y := 9) (b := b) (k := 9) (by omega) (by omega) rfl rfl, zbd_s, (hB.bl hb).2.2.2.2.2.2.2.1]
  exact b1
theorem ag_from (hA : RA σ S) (hB : RB τ S) (hI : Inv S) (x1 : Int32) : Ag (f_X9_from x1 σ) (f_X10_from x1 τ) S := by
  have h12 := hI.n12
  unfold f_X9_from f_X10_from
  rw [hasA hA hI, isBladeB hB hI, zbd_s, zbd_s, ifz, ifz]
  by_cases h : vd x1 (S 11 3)
  · rw [if_pos h, if_pos h]
    obtain ⟨b, hb, rfl⟩ := vd_of h
    obtain ⟨σ1, a1, a2⟩ := fromA hA hI hb
    obtain ⟨τ1, eb, b2, _⟩ := fromB hB hI hb
    rw [a1, eb, zbd_s, zbd_s]
    exact Ag.mk rfl rfl a2 b2 hI
  · rw [if_neg h, if_neg h]; exact Ag.mk rfl rfl hA hB hI
end FROM1
