/-! PURE: years in the model: the beginning -/
theorem agoB {r w : Nat} (hr : r ≤ 1000) (hw : 1 ≤ w ∧ w ≤ 999) (σ : zS) : f_X10_ago (nI r) (nI w) σ = some (nI (9999 - r * r / w), σ) := by
  have hs := sq_le hr
  have hd : r * r / w ≤ 1000000 := Nat.le_trans (Nat.div_le_self _ _) hs
  unfold f_X10_ago
  rw [pk_mul, zdv_n (by rw [nI_z (by omega)]; omega), pk_div (by omega) (by omega) (by omega)]
  by_cases h : r * r / w ≤ 9999
  · rw [if_pos (by rw [q9999, qle_n (by omega) (by omega)]; exact h), q9999, pk_sub h]
  · rw [if_neg (by rw [q9999, qle_n (by omega) (by omega)]; exact h), Nat.sub_eq_zero_of_le (by omega)]
    rfl
theorem zup_c {τ : zS} {k j c a : Nat} {v : Int32} (h : c ≠ j) : zup τ k j v a c = τ a c := by
  by_cases e : a = k
  · rw [e, zup_no h]
  · rw [zup_ne e]
section BEGIN
variable {S : aS}
theorem warmthB {τ : zS} (hB : RB τ S) (hI : Inv S) {b : Nat} (hb : b < S 11 3) : f_X10_warmthOf (nI b) τ = some (nI (S 3 (S 13 b)), τ) := by
  have h12 := hI.n12
  have hp := (hI.bl hb).1
  unfold f_X10_warmthOf
  rw [atB (x := nI b) (y := 0) (b := b) (k := 0) (by omega) (by omega) rfl rfl, zbd_s, Nat.add_zero, (hB.bl hb).1, zrd_i (x := 3 * nI (S 13 b) + 2) (j := 3 * S 13 b + 2) (ix1 3 (S 13 b) 2) (by omega) (by omega), (hB.pl (by omega)).2.2]
theorem reusedB {τ : zS} (hB : RB τ S) (hI : Inv S) {b : Nat} (hb : b < S 11 3) : f_X10_isReused (nI b) τ = some (if 0 < S 19 b then 1 else 0, τ) := by
  have h12 := hI.n12
  have h19 := (hI.bl hb).2.2.2.2.2.2.2.2.1
  unfold f_X10_isReused
  rw [atB (x := nI b) (y := 8) (b := b) (k := 8) (by omega) (by omega) rfl rfl, zbd_s, (hB.bl hb).2.2.2.2.2.2.1]
  by_cases h : 0 < S 19 b
  · rw [if_neg (by rw [q0, qle_n (by omega) (by omega)]; omega), if_pos h]
  · rw [if_pos (by rw [q0, qle_n (by omega) (by omega)]; omega), if_neg h]
theorem RB_712 {τ τ1 : zS} (h : RB τ S) (hk : ∀ k, k < 7 ∨ 12 < k → τ1 k = τ k) : RB τ1 S := by
  refine RB_keep h (fun k hm => hk k ?_) (fun j _ => by rw [hk 0 (by omega)])
  simp only [keepB, List.mem_cons, List.not_mem_nil, or_false] at hm
  omega
theorem beginL {τ : zS} (hB : RB τ S) (hI : Inv S) (x1 : Int32) (p : Nat → Bool) {st : Nat} (hst : ∀ k, k < 9 → p k = true → st = 9999) (hst2 : st ≤ 9999) : ∀ (d n k : Nat), k + d = 9 → f_X10_begin_L21 x1 (nI (bN p 9)) (n + d) (nI (if foc p (S 6) k = 0 then st else foc p (S 6) k - 1)) (nI k) τ = f_X10_begin_L21 x1 (nI (bN p 9)) n (nI (if foc p (S 6) 9 = 0 then st else foc p (S 6) 9 - 1)) (nI 9) τ
  | 0, n, k, h => by
    have hk : k = 9 := by omega
    rw [hk]; rfl
  | d + 1, n, k, h => by
    have hk : k < 9 := by omega
    have ih := beginL hB hI x1 p hst hst2 d n (k + 1) (by omega)
    have h6 := (hI.fl hk).2.2.1
    have hl := foc_le (p := p) (g := S 6) (X := 9999) (k := k) (fun f hf => (hI.fl (by omega)).2.2.1)
    rw [show n + (d + 1) = (n + d) + 1 by omega, f_X10_begin_L21, if_neg (by rw [q9, qle_n (by omega) (by omega)]; omega), bN_test p (by omega) hk, nI_1, ← ih, foc]
    by_cases hp : p k = true
    · rw [if_pos hp, if_pos rfl, if_pos hp, zrd_i (x := 6 * nI k + 1) (j := 6 * k + 1) (ix1 6 k 1) (by omega) (by omega), (hB.fl hk).2.1]
      have hs := hst k hk hp
      by_cases h0 : foc p (S 6) k = 0
      · rw [if_pos h0, if_pos h0, if_neg (show ¬ S 6 k + 1 = 0 by omega), Nat.add_sub_cancel, hs]
        by_cases hc : 9999 ≤ S 6 k
        · rw [if_pos ((qle_n (by omega) (by omega)).mpr hc), show S 6 k = 9999 by omega]
        · rw [if_neg (fun z => hc ((qle_n (by omega) (by omega)).mp z)), zrd_i (x := 6 * nI k + 1) (j := 6 * k + 1) (ix1 6 k 1) (by omega) (by omega), (hB.fl hk).2.1]
      · rw [if_neg h0, if_neg h0, if_neg (show ¬ min (foc p (S 6) k) (S 6 k + 1) = 0 by omega)]
        by_cases hc : foc p (S 6) k - 1 ≤ S 6 k
        · rw [if_pos ((qle_n (by omega) (by omega)).mpr hc), show min (foc p (S 6) k) (S 6 k + 1) - 1 = foc p (S 6) k - 1 by omega]
        · rw [if_neg (fun z => hc ((qle_n (by omega) (by omega)).mp z)), zrd_i (x := 6 * nI k + 1) (j := 6 * k + 1) (ix1 6 k 1) (by omega) (by omega), (hB.fl hk).2.1, show min (foc p (S 6) k) (S 6 k + 1) - 1 = S 6 k by omega]
    · rw [if_neg hp, if_neg (by decide), if_neg hp]
/-- behind the last part: LAID -/
theorem beginJ233 {τ : zS} (hB : RB τ S) (hI : Inv S) {b : Nat} (hb : b < S 11 3) : f_X10_begin_J233 (nI b) τ = some (0, zup (zup τ 11 b (nI (ow S 4 b))) 12 b (nI (ow S 5 b))) := by
  have h12 := hI.n12
  have hp := (hI.bl hb).1
  have hB1 : RB (zup τ 11 b (nI (ow S 4 b))) S := RB_712 hB (fun k hk => zup_ne (by omega))
  have i0 : 3 * nI (S 13 b) = nI (3 * S 13 b) := by rw [q3, pk_mul]
  unfold f_X10_begin_J233
  rw [atB (x := nI b) (y := 0) (b := b) (k := 0) (by omega) (by omega) rfl rfl, zbd_s, Nat.add_zero, (hB.bl hb).1, zrd_i i0 (by omega) (by omega), (hB.pl (by omega)).1, zwr_n (by omega) (by omega)]
  show zbd (f_X10_at (nI b) 0 (zup τ 11 b (nI (ow S 4 b)))) _ = _
  rw [atB (x := nI b) (y := 0) (b := b) (k := 0) (by omega) (by omega) rfl rfl, zbd_s, Nat.add_zero, (hB1.bl hb).1, zrd_i (x := 3 * nI (S 13 b) + 1) (j := 3 * S 13 b + 1) (ix1 3 (S 13 b) 1) (by omega) (by omega), (hB1.pl (by omega)).2.1, zwr_n (by omega) (by omega)]
  rfl
/-- what a beginning leaves: τ1 from τ, for b -/
def Bg (S : aS) (τ τ1 : zS) (b : Nat) : Prop := (∀ k, k < 7 ∨ 12 < k → τ1 k = τ k) ∧ (∀ k c, c ≠ b → τ1 k c = τ k c) ∧ ∀ k, k < 6 → τ1 (7 + k) b = nI (ow S k b)
theorem beginJ179 {τ : zS} (hB : RB τ S) (hI : Inv S) {b : Nat} (hb : b < S 11 3) (h0 : τ 7 b = nI (ow S 0 b)) (h1 : τ 8 b = nI (ow S 1 b)) (h2 : τ 9 b = nI 0) (h3 : τ 10 b = nI 9999) : ∃ τ1, f_X10_begin_J179 (nI b) τ = some (0, τ1) ∧ Bg S τ τ1 b := by
  have h12 := hI.n12
  obtain ⟨c13, -, -, -, -, -, -, c18, c19, -, -, -⟩ := hI.bl hb
  obtain ⟨-, -, p3, p4⟩ := hI.pl (p := S 13 b) (by omega)
  unfold f_X10_begin_J179
  rw [reusedB hB hI hb, zbd_s, ifz]
  by_cases h : 0 < S 19 b
  · rw [if_pos h]
    have e2 : ow S 2 b = 9999 - (S 19 b + 1) * (S 19 b + 1) / S 3 (S 13 b) := by show rF _ _ = _; unfold rF; rw [if_neg (by omega)]
    have e3 : ow S 3 b = 9999 - (S 19 b - 1) * (S 19 b - 1) / S 3 (S 13 b) := by show rL _ _ = _; unfold rL; rw [if_neg (by omega)]
    have hB1 : RB (zup τ 9 b (nI (ow S 2 b))) S := RB_712 hB (fun k hk => zup_ne (by omega))
    have hB2 : RB (zup (zup τ 9 b (nI (ow S 2 b))) 10 b (nI (ow S 3 b))) S := RB_712 hB1 (fun k hk => zup_ne (by omega))
    refine ⟨zup (zup (zup (zup τ 9 b (nI (ow S 2 b))) 10 b (nI (ow S 3 b))) 11 b (nI (ow S 4 b))) 12 b (nI (ow S 5 b)), ?_, ?_, ?_, ?_⟩
    · rw [atB (x := nI b) (y := 8) (b := b) (k := 8) (by omega) (by omega) rfl rfl, zbd_s, (hB.bl hb).2.2.2.2.2.2.1, warmthB hB hI hb, zbd_s, nI_1, agoB (by omega) ⟨p3, p4⟩, zbd_s, ← e2, zwr_n (by omega) (by omega), atB (x := nI b) (y := 8) (b := b) (k := 8) (by omega) (by omega) rfl rfl, zbd_s, (hB1.bl hb).2.2.2.2.2.2.1, warmthB hB1 hI hb, zbd_s, nI_sub1 h, agoB (by omega) ⟨p3, p4⟩, zbd_s, ← e3, zwr_n (by omega) (by omega), beginJ233 hB2 hI hb]
    · intro k hk
      rw [zup_ne (by omega), zup_ne (by omega), zup_ne (by omega), zup_ne (by omega)]
    · intro k c hc
      rw [zup_c hc, zup_c hc, zup_c hc, zup_c hc]
    · intro k hk
      match k, hk with
      | 0, _ => show zup _ _ _ _ 7 b = _; rw [zup_ne (by decide), zup_ne (by decide), zup_ne (by decide), zup_ne (by decide)]; exact h0
      | 1, _ => show zup _ _ _ _ 8 b = _; rw [zup_ne (by decide), zup_ne (by decide), zup_ne (by decide), zup_ne (by decide)]; exact h1
      | 2, _ => show zup _ _ _ _ 9 b = _; rw [zup_ne (by decide), zup_ne (by decide), zup_ne (by decide), zup_at]
      | 3, _ => show zup _ _ _ _ 10 b = _; rw [zup_ne (by decide), zup_ne (by decide), zup_at]
      | 4, _ => show zup _ _ _ _ 11 b = _; rw [zup_ne (by decide), zup_at]
      | 5, _ => show zup _ _ _ _ 12 b = _; rw [zup_at]
      | k + 6, h => omega
  · rw [if_neg h]
    have e2 : ow S 2 b = 0 := by show rF _ _ = _; unfold rF; rw [if_pos (by omega)]
    have e3 : ow S 3 b = 9999 := by show rL _ _ = _; unfold rL; rw [if_pos (by omega)]
    refine ⟨zup (zup τ 11 b (nI (ow S 4 b))) 12 b (nI (ow S 5 b)), beginJ233 hB hI hb, ?_, ?_, ?_⟩
    · intro k hk
      rw [zup_ne (by omega), zup_ne (by omega)]
    · intro k c hc
      by_cases e1 : k = 12
      · rw [e1, zup_no hc, zup_ne (by decide)]
      · rw [zup_ne e1]
        by_cases e2 : k = 11
        · rw [e2, zup_no hc]
        · rw [zup_ne e2]
    · intro k hk
      match k, hk with
      | 0, _ => show zup _ _ _ _ 7 b = _; rw [zup_ne (by decide), zup_ne (by decide)]; exact h0
      | 1, _ => show zup _ _ _ _ 8 b = _; rw [zup_ne (by decide), zup_ne (by decide)]; exact h1
      | 2, _ => show zup _ _ _ _ 9 b = _; rw [zup_ne (by decide), zup_ne (by decide), e2]; exact h2
      | 3, _ => show zup _ _ _ _ 10 b = _; rw [zup_ne (by decide), zup_ne (by decide), e3]; exact h3
      | 4, _ => show zup _ _ _ _ 11 b = _; rw [zup_ne (by decide), zup_at]
      | 5, _ => show zup _ _ _ _ 12 b = _; rw [zup_at]
      | k + 6, h => omega
theorem Bg_pre {τ τ1 τ2 : zS} {b : Nat} (h1 : ∀ k, k < 7 ∨ 12 < k → τ1 k = τ k) (h2 : ∀ k c, c ≠ b → τ1 k c = τ k c) (h : Bg S τ1 τ2 b) : Bg S τ τ2 b :=
  ⟨fun k hk => by rw [h.1 k hk, h1 k hk], fun k c hc => by rw [h.2.1 k c hc, h2 k c hc], h.2.2⟩
theorem beginB {τ : zS} (hB : RB τ S) (hI : Inv S) {b : Nat} (hb : b < S 11 3) : ∃ τ1, f_X10_begin (nI b) τ = some (0, τ1) ∧ Bg S τ τ1 b := by
  have h12 := hI.n12
  obtain ⟨c13, -, -, -, -, -, -, c18, c19, -, -, -⟩ := hI.bl hb
  obtain ⟨-, -, p3, p4⟩ := hI.pl (p := S 13 b) (by omega)
  have ho := ow_le hI (k := 0) hb
  have hopn : opn S b ≤ 9999 := by
    have := foc_le (p := cb S b) (g := S 6) (X := 9999) (k := 9) (fun f hf => (hI.fl hf).2.2.1)
    unfold opn; omega
  -- the end of the first loop
  have fin : ∀ n, ∃ τ1, f_X10_begin_L21 (nI b) (nI (bN (cb S b) 9)) (n + 1) (nI (opn S b)) (nI 9) τ = some (0, τ1) ∧ Bg S τ τ1 b := by
    intro n
    let τ4 : zS := zup (zup (zup (zup τ 7 b (nI (opn S b))) 8 b 9999) 9 b 0) 10 b 9999
    have k4 : ∀ k, k < 7 ∨ 12 < k → τ4 k = τ k := fun k hk => by
      show zup _ _ _ _ k = _
      rw [zup_ne (by omega), zup_ne (by omega), zup_ne (by omega), zup_ne (by omega)]
    have c4 : ∀ k c, c ≠ b → τ4 k c = τ k c := fun k c hc => by
      show zup _ _ _ _ k c = _
      rw [zup_c hc, zup_c hc, zup_c hc, zup_c hc]
    have hB4 : RB τ4 S := RB_712 hB k4
    have v7 : τ4 7 b = nI (opn S b) := by show zup _ _ _ _ 7 b = _; rw [zup_ne (by decide), zup_ne (by decide), zup_ne (by decide), zup_at]
    have v8 : τ4 8 b = nI 9999 := by show zup _ _ _ _ 8 b = _; rw [zup_ne (by decide), zup_ne (by decide), zup_at]; rfl
    have v9 : τ4 9 b = nI 0 := by show zup _ _ _ _ 9 b = _; rw [zup_ne (by decide), zup_at]; rfl
    have v10 : τ4 10 b = nI 9999 := by show zup _ _ _ _ 10 b = _; rw [zup_at]; rfl
    rw [f_X10_begin_L21, if_pos (by decide), zwr_n (by omega) (by omega), zwr_n (by omega) (by omega), zwr_n (by omega) (by omega), zwr_n (by omega) (by omega)]
    show ∃ τ1, zbd (f_X10_at (nI b) 7 τ4) _ = some (0, τ1) ∧ _
    rw [atB (x := nI b) (y := 7) (b := b) (k := 7) (by omega) (by omega) rfl rfl, zbd_s, (hB4.bl hb).2.2.2.2.2.1]
    by_cases hz : S 18 b = 0
    · rw [if_pos (by rw [hz]; decide)]
      have e0 : ow S 0 b = opn S b := by show max _ (rF _ _) = _; unfold rF; rw [if_pos hz]; omega
      have e1 : ow S 1 b = 9999 := by show rL _ _ = _; unfold rL; rw [if_pos hz]
      obtain ⟨τ1, f1, f2⟩ := beginJ179 hB4 hI hb (by rw [v7, e0]) (by rw [v8, e1]) v9 v10
      exact ⟨τ1, f1, Bg_pre k4 c4 f2⟩
    · rw [if_neg (by rw [q0, qle_n (by omega) (by omega)]; omega), atB (x := nI b) (y := 7) (b := b) (k := 7) (by omega) (by omega) rfl rfl, zbd_s, (hB4.bl hb).2.2.2.2.2.1, warmthB hB4 hI hb, zbd_s, nI_1, agoB (by omega) ⟨p3, p4⟩, zbd_s]
      have erF : rF (S 18 b) (S 3 (S 13 b)) = 9999 - (S 18 b + 1) * (S 18 b + 1) / S 3 (S 13 b) := by unfold rF; rw [if_neg hz]
      have e1 : ow S 1 b = 9999 - (S 18 b - 1) * (S 18 b - 1) / S 3 (S 13 b) := by show rL _ _ = _; unfold rL; rw [if_neg hz]
      have lF := rF_le (S 18 b) (S 3 (S 13 b))
      rw [← erF]
      have tail : ∀ s0, s0 = nI (ow S 0 b) → ∃ τ1, f_X10_begin_J155 (nI b) s0 (nI b) τ4 = some (0, τ1) ∧ Bg S τ τ1 b := by
        intro s0 hs
        have hB5 : RB (zup τ4 7 b (nI (ow S 0 b))) S := RB_712 hB4 (fun k hk => zup_ne (by omega))
        have hB6 : RB (zup (zup τ4 7 b (nI (ow S 0 b))) 8 b (nI (ow S 1 b))) S := RB_712 hB5 (fun k hk => zup_ne (by omega))
        obtain ⟨τ1, f1, f2⟩ := beginJ179 hB6 hI hb (by rw [zup_ne (by decide), zup_at]) (by rw [zup_at]) (by rw [zup_ne (by decide), zup_ne (by decide)]; exact v9) (by rw [zup_ne (by decide), zup_ne (by decide)]; exact v10)
        refine ⟨τ1, ?_, Bg_pre (fun k hk => by rw [zup_ne (by omega), zup_ne (by omega), k4 k hk]) (fun k c hc => by rw [zup_c hc, zup_c hc, c4 k c hc]) f2⟩
        unfold f_X10_begin_J155
        rw [hs, zwr_n (by omega) (by omega), atB (x := nI b) (y := 7) (b := b) (k := 7) (by omega) (by omega) rfl rfl, zbd_s, (hB5.bl hb).2.2.2.2.2.1, warmthB hB5 hI hb, zbd_s, nI_sub1 (by omega), agoB (by omega) ⟨p3, p4⟩, zbd_s, ← e1, zwr_n (by omega) (by omega)]
        exact f1
      by_cases hc : rF (S 18 b) (S 3 (S 13 b)) ≤ opn S b
      · rw [if_pos ((qle_n (by omega) (by omega)).mpr hc)]
        exact tail _ (by show _ = nI (max (opn S b) (rF (S 18 b) (S 3 (S 13 b)))); rw [Nat.max_eq_left hc])
      · rw [if_neg (fun z => hc ((qle_n (by omega) (by omega)).mp z))]
        exact tail _ (by show _ = nI (max (opn S b) (rF (S 18 b) (S 3 (S 13 b)))); rw [Nat.max_eq_right (by omega)])
  obtain ⟨τ1, f1, f2⟩ := fin 4086
  refine ⟨τ1, ?_, f2⟩
  unfold f_X10_begin
  rw [canB hB hI hb, zbd_s]
  have hbn := bN_31 (cb S b) (n := 9) (by omega)
  by_cases hz : foc (cb S b) (S 6) 9 = 0
  · have hall := foc_zero.mp hz
    have e0 : bN (cb S b) 9 = 0 := by
      have : ∀ k, k ≤ 9 → bN (cb S b) k = 0 := by
        intro k
        induction k with
        | zero => intro _; rfl
        | succ k ih => intro hk; rw [bN_no (by rw [hall k (by omega)]; decide)]; exact ih (by omega)
      exact this 9 (Nat.le_refl 9)
    have hL := beginL hB hI (nI b) (cb S b) (st := 0) (fun k hk hp => by rw [hall k hk] at hp; cases hp) (by omega) 9 4087 0 (by omega)
    rw [if_pos hz, show (if foc (cb S b) (S 6) 0 = 0 then 0 else foc (cb S b) (S 6) 0 - 1) = 0 from rfl] at hL
    rw [show opn S b = 0 by unfold opn; omega] at f1
    rw [if_pos (by rw [e0]; rfl)]
    exact hL.trans f1
  · have hne : ¬ nI (bN (cb S b) 9) = 0 := by
      rw [nI_z (by omega)]
      intro e0
      refine hz (foc_zero.mpr (fun f hf => ?_))
      have := bN_bit (cb S b) 9 f hf
      rw [e0, Nat.zero_div] at this
      cases hc : cb S b f with
      | false => rfl
      | true => rw [hc] at this; simp at this
    have hL := beginL hB hI (nI b) (cb S b) (st := 9999) (fun _ _ _ => rfl) (by omega) 9 4087 0 (by omega)
    rw [if_neg hz, show (if foc (cb S b) (S 6) 0 = 0 then 9999 else foc (cb S b) (S 6) 0 - 1) = 9999 from rfl] at hL
    rw [if_neg hne]
    exact hL.trans f1
end BEGIN
