/-! PURE: years in the model: a round -/
def MB (τ : zS) (v : aS) (N : Nat) : Prop := ∀ k b, k < 6 → b < N → τ (7 + k) b = nI (v k b)
def Lev (v v1 : aS) : Prop := ∀ k b, (k % 2 = 0 → v k b ≤ v1 k b) ∧ (k % 2 = 1 → v1 k b ≤ v k b)
theorem Lev.rf (v : aS) : Lev v v := fun _ _ => ⟨fun _ => Nat.le_refl _, fun _ => Nat.le_refl _⟩
theorem Lev.tr {a b c : aS} (h1 : Lev a b) (h2 : Lev b c) : Lev a c := fun k x => ⟨fun e => Nat.le_trans ((h1 k x).1 e) ((h2 k x).1 e), fun e => Nat.le_trans ((h2 k x).2 e) ((h1 k x).2 e)⟩
theorem Lev_e {v : aS} {k b x : Nat} (hk : k % 2 = 0) (h : v k b ≤ x) : Lev v (aup v k b x) := by
  intro k1 b1
  unfold aup
  split
  · rename_i e; rw [e.1, e.2]; exact ⟨fun _ => h, fun z => by omega⟩
  · exact ⟨fun _ => Nat.le_refl _, fun _ => Nat.le_refl _⟩
theorem Lev_o {v : aS} {k b x : Nat} (hk : k % 2 = 1) (h : x ≤ v k b) : Lev v (aup v k b x) := by
  intro k1 b1
  unfold aup
  split
  · rename_i e; rw [e.1, e.2]; exact ⟨fun z => by omega, fun _ => h⟩
  · exact ⟨fun _ => Nat.le_refl _, fun _ => Nat.le_refl _⟩
theorem MB_up {τ : zS} {v : aS} {N k b x : Nat} (h : MB τ v N) (hk : k < 6) : MB (zup τ (7 + k) b (nI x)) (aup v k b x) N := by
  intro k1 b1 hk1 hb1
  by_cases e : k1 = k
  · rw [e]
    by_cases e2 : b1 = b
    · rw [e2, zup_at, aup_at]
    · rw [zup_no e2, aup_j e2, ← e]; exact h k1 b1 hk1 hb1
  · rw [zup_ne (by omega), aup_c e]; exact h k1 b1 hk1 hb1
theorem greaterB {a b : Nat} (ha : a < 100000) (hb : b < 100000) (σ : zS) : f_X10_greater (nI a) (nI b) σ = some (nI (max a b), σ) := by
  unfold f_X10_greater
  by_cases h : a ≤ b
  · rw [if_pos ((qle_n (by omega) (by omega)).mpr h), Nat.max_eq_right h]
  · rw [if_neg (fun z => h ((qle_n (by omega) (by omega)).mp z)), Nat.max_eq_left (by omega)]
theorem lesserB {a b : Nat} (ha : a < 100000) (hb : b < 100000) (σ : zS) : f_X10_lesser (nI a) (nI b) σ = some (nI (min a b), σ) := by
  unfold f_X10_lesser
  by_cases h : b ≤ a
  · rw [if_pos ((qle_n (by omega) (by omega)).mpr h), Nat.min_eq_right h]
  · rw [if_neg (fun z => h ((qle_n (by omega) (by omega)).mp z)), Nat.min_eq_left (by omega)]
def Cl (S G : aS) : Prop :=
  (∀ b p, b < S 11 3 → S 20 b = p + 1 → G 0 p ≤ G 0 b ∧ G 1 p ≤ G 1 b) ∧ (∀ c b, c < S 11 3 → b < S 11 3 → elS S c b = true → G 4 c ≤ G 4 b ∧ G 5 c ≤ G 5 b) ∧
  (∀ b, b < S 11 3 → 0 < S 19 b → G 0 b ≤ G 2 b ∧ G 2 b ≤ G 4 b ∧ G 3 b ≤ G 5 b ∧ G 1 b ≤ G 3 b) ∧ (∀ b, b < S 11 3 → S 19 b = 0 → G 0 b ≤ G 4 b ∧ G 1 b ≤ G 5 b)
def Bt (S G v : aS) : Prop := ∀ b, b < S 11 3 → v 0 b ≤ G 0 b ∧ v 4 b ≤ G 4 b ∧ G 1 b ≤ v 1 b ∧ G 5 b ≤ v 5 b ∧ (0 < S 19 b → v 2 b ≤ G 2 b ∧ G 3 b ≤ v 3 b)
/-- what holds of every state on the way -/
def Wy (S : aS) (τ : zS) (v : aS) : Prop := RB τ S ∧ MB τ v (S 11 3) ∧ ∀ k b, b < S 11 3 → v k b ≤ 9999
section ROUND
variable {S : aS}
theorem Wy_up {τ : zS} {v : aS} (h : Wy S τ v) {k b x : Nat} (hk : k < 6) (hx : x ≤ 9999) : Wy S (zup τ (7 + k) b (nI x)) (aup v k b x) :=
  ⟨RB_712 h.1 (fun j hj => zup_ne (by omega)), MB_up h.2.1 hk, fun k1 b1 hb1 => by unfold aup; split; exact hx; exact h.2.2 k1 b1 hb1⟩
theorem isBelowB {τ : zS} (hB : RB τ S) (hI : Inv S) {b o : Nat} (hb : b < S 11 3) (ho : o < S 11 3) : f_X10_isBelow (nI b) (nI o) τ = some (if elS S b o = true then 1 else 0, τ) := by
  have h12 := hI.n12
  have p1 := (hI.bl hb).1
  have p2 := (hI.bl ho).1
  have l1 := (hI.bl hb).2.2.2.2.2.2.1
  have l2 := (hI.bl ho).2.2.2.2.2.2.1
  unfold f_X10_isBelow elS
  rw [atB (x := nI b) (y := 0) (b := b) (k := 0) (by omega) (by omega) rfl rfl, zbd_s, atB (x := nI o) (y := 0) (b := o) (k := 0) (by omega) (by omega) rfl rfl, zbd_s, Nat.add_zero, Nat.add_zero, (hB.bl hb).1, (hB.bl ho).1]
  by_cases e : S 13 b = S 13 o
  · rw [if_pos (by rw [e]), atB (x := nI b) (y := 6) (b := b) (k := 6) (by omega) (by omega) rfl rfl, zbd_s, atB (x := nI o) (y := 6) (b := o) (k := 6) (by omega) (by omega) rfl rfl, zbd_s, (hB.bl hb).2.2.2.2.1, (hB.bl ho).2.2.2.2.1]
    by_cases g : S 17 b ≤ S 17 o
    · rw [if_pos ((qle_n (by omega) (by omega)).mpr g), if_neg (by simp; omega)]
    · rw [if_neg (fun z => g ((qle_n (by omega) (by omega)).mp z)), if_pos (by simp; omega)]
  · rw [if_neg (by rw [qeq_n (by omega) (by omega)]; exact e), if_neg (by simp [e])]
/-- a pair's layers -/
theorem roundJ (hI : Inv S) {b o : Nat} (hb : b < S 11 3) (ho : o < S 11 3) (k12 : Int32 → zS → Option (Int32 × zS)) {τ : zS} {v : aS} (hY : Wy S τ v) :
    ∃ τ1 v1, f_X10_goRound_J73 k12 (nI b) (nI o) τ = k12 (nI (o + 1)) τ1 ∧ Wy S τ1 v1 ∧ (∀ k, k < 7 ∨ 12 < k → τ1 k = τ k) ∧ Lev v v1 ∧ (elS S b o = true → v 4 b ≤ v1 4 o ∧ v1 5 b ≤ v 5 o) ∧ (∀ G, Cl S G → Bt S G v → Bt S G v1) := by
  have h12 := hI.n12
  obtain ⟨hB, hM, hv⟩ := hY
  unfold f_X10_goRound_J73
  rw [isBelowB hB hI hb ho, zbd_s, ifz, nI_1]
  by_cases e : elS S b o = true
  · rw [if_pos e]
    have a4o : τ 11 o = nI (v 4 o) := hM 4 o (by omega) ho
    have a4b : τ 11 b = nI (v 4 b) := hM 4 b (by omega) hb
    have b4o := hv 4 o ho
    have b4b := hv 4 b hb
    have b5b := hv 5 b hb
    have b5o := hv 5 o ho
    have hY1 : Wy S (zup τ (7 + 4) o (nI (max (v 4 o) (v 4 b)))) (aup v 4 o (max (v 4 o) (v 4 b))) := Wy_up ⟨hB, hM, hv⟩ (by omega) (by omega)
    have a5b : zup τ (7 + 4) o (nI (max (v 4 o) (v 4 b))) 12 b = nI (v 5 b) := by rw [zup_ne (by omega)]; exact hM 5 b (by omega) hb
    have a5o : zup τ (7 + 4) o (nI (max (v 4 o) (v 4 b))) 12 o = nI (v 5 o) := by rw [zup_ne (by omega)]; exact hM 5 o (by omega) ho
    have hY2 := Wy_up (k := 5) (b := b) (x := min (v 5 b) (v 5 o)) hY1 (by omega) (by omega)
    refine ⟨_, _, ?_, hY2, fun k hk => by rw [zup_ne (by omega), zup_ne (by omega)], ?_, fun _ => ?_, fun G hG hb1 => ?_⟩
    · rw [zrd_n (by omega) (by omega), zrd_n (by omega) (by omega), a4o, a4b, greaterB (by omega) (by omega), zbd_s, zwr_n (by omega) (by omega), zrd_n (by omega) (by omega), zrd_n (by omega) (by omega)]
      show zbd (f_X10_lesser (zup τ (7 + 4) o (nI (max (v 4 o) (v 4 b))) 12 b) (zup τ (7 + 4) o (nI (max (v 4 o) (v 4 b))) 12 o) _) _ = _
      rw [a5b, a5o, lesserB (by omega) (by omega), zbd_s, zwr_n (by omega) (by omega)]
    · exact (Lev_e (by omega) (by omega)).tr (Lev_o (by omega) (by rw [aup_c (by decide)]; omega))
    · constructor
      · rw [aup_c (by decide), aup_at]; omega
      · rw [aup_at]; omega
    · intro c hc
      obtain ⟨g1, g2, g3, g4, g5⟩ := hb1 c hc
      have hel := hG.2.1 b o hb ho e
      obtain ⟨-, x2, -, x4, -⟩ := hb1 b hb
      obtain ⟨-, y2, -, y4, -⟩ := hb1 o ho
      rw [aup_c (a := 0) (by decide), aup_c (a := 0) (by decide), aup_c (c := 5) (a := 4) (by decide), aup_c (a := 1) (by decide), aup_c (a := 1) (by decide), aup_c (a := 2) (by decide), aup_c (a := 2) (by decide), aup_c (a := 3) (by decide), aup_c (a := 3) (by decide)]
      refine ⟨g1, ?_, g3, ?_, g5⟩
      · by_cases ec : c = o
        · rw [ec, aup_at]; omega
        · rw [aup_j ec]; exact g2
      · by_cases ec : c = b
        · rw [ec, aup_at]; omega
        · rw [aup_j ec, aup_c (by decide)]; exact g4
  · rw [if_neg e]
    exact ⟨τ, v, rfl, ⟨hB, hM, hv⟩, fun _ _ => rfl, Lev.rf v, fun z => absurd z e, fun _ _ h => h⟩
/-- a pair, with its strike -/
theorem roundPair (hI : Inv S) {b o : Nat} (hb : b < S 11 3) (ho : o < S 11 3) (k2 : Int32 → zS → Option (Int32 × zS)) (n : Nat) {τ : zS} {v : aS} (hY : Wy S τ v) :
    ∃ τ1 v1, f_X10_goRound_L12 k2 (nI b) (n + 1) (nI o) τ = f_X10_goRound_L12 k2 (nI b) n (nI (o + 1)) τ1 ∧ Wy S τ1 v1 ∧ (∀ k, k < 7 ∨ 12 < k → τ1 k = τ k) ∧ Lev v v1 ∧ (S 20 b = o + 1 → v 0 o ≤ v1 0 b ∧ v1 1 o ≤ v 1 b) ∧ (elS S b o = true → v 4 b ≤ v1 4 o ∧ v1 5 b ≤ v 5 o) ∧ (∀ G, Cl S G → Bt S G v → Bt S G v1) := by
  have h12 := hI.n12
  have h20 := hI.fl20 b hb
  obtain ⟨hB, hM, hv⟩ := id hY
  rw [f_X10_goRound_L12, hB.many, if_neg (by rw [qle_n (by omega) (by omega)]; omega), atB (x := nI b) (y := 9) (b := b) (k := 9) (by omega) (by omega) rfl rfl, zbd_s, (hB.bl hb).2.2.2.2.2.2.2.1]
  by_cases e : S 20 b = o + 1
  · rw [if_pos (by rw [e, nI_pred])]
    have a0b : τ 7 b = nI (v 0 b) := hM 0 b (by omega) hb
    have a0o : τ 7 o = nI (v 0 o) := hM 0 o (by omega) ho
    have b0b := hv 0 b hb
    have b0o := hv 0 o ho
    have b1b := hv 1 b hb
    have b1o := hv 1 o ho
    have hY1 : Wy S (zup τ (7 + 0) b (nI (max (v 0 b) (v 0 o)))) (aup v 0 b (max (v 0 b) (v 0 o))) := Wy_up hY (by omega) (by omega)
    have a1o : zup τ (7 + 0) b (nI (max (v 0 b) (v 0 o))) 8 o = nI (v 1 o) := by rw [zup_ne (by omega)]; exact hM 1 o (by omega) ho
    have a1b : zup τ (7 + 0) b (nI (max (v 0 b) (v 0 o))) 8 b = nI (v 1 b) := by rw [zup_ne (by omega)]; exact hM 1 b (by omega) hb
    have hY2 := Wy_up (k := 1) (b := o) (x := min (v 1 o) (v 1 b)) hY1 (by omega) (by omega)
    obtain ⟨τ1, v1, e1, e2, e3, e4, e5, e6⟩ := roundJ hI hb ho (fun x2 σ => f_X10_goRound_L12 k2 (nI b) n x2 σ) hY2
    have l1 : Lev v (aup (aup v 0 b (max (v 0 b) (v 0 o))) 1 o (min (v 1 o) (v 1 b))) := (Lev_e (by omega) (by omega)).tr (Lev_o (by omega) (by rw [aup_c (by decide)]; omega))
    refine ⟨τ1, v1, ?_, e2, fun k hk => by rw [e3 k hk, zup_ne (by omega), zup_ne (by omega)], l1.tr e4, fun _ => ?_, fun hel => ?_, fun G hG hb1 => e6 G hG ?_⟩
    · rw [zrd_n (by omega) (by omega), zrd_n (by omega) (by omega), a0b, a0o, greaterB (by omega) (by omega), zbd_s, zwr_n (by omega) (by omega), zrd_n (by omega) (by omega), zrd_n (by omega) (by omega)]
      show zbd (f_X10_lesser (zup τ (7 + 0) b (nI (max (v 0 b) (v 0 o))) 8 o) (zup τ (7 + 0) b (nI (max (v 0 b) (v 0 o))) 8 b) _) _ = _
      rw [a1o, a1b, lesserB (by omega) (by omega), zbd_s, zwr_n (by omega) (by omega)]
      exact e1
    · constructor
      · have := (e4 0 b).1 rfl
        rw [aup_c (by decide), aup_at] at this
        omega
      · have := (e4 1 o).2 rfl
        rw [aup_at] at this
        omega
    · obtain ⟨x1, x2⟩ := e5 hel
      rw [aup_c (by decide), aup_c (by decide)] at x1
      rw [aup_c (by decide), aup_c (by decide)] at x2
      exact ⟨x1, x2⟩
    · intro c hc
      obtain ⟨g1, g2, g3, g4, g5⟩ := hb1 c hc
      have hp := hG.1 b o hb e
      obtain ⟨x1, -, x3, -, -⟩ := hb1 b hb
      obtain ⟨y1, -, y3, -, -⟩ := hb1 o ho
      rw [aup_c (c := 1) (a := 0) (by decide), aup_c (a := 4) (by decide), aup_c (a := 4) (by decide), aup_c (a := 5) (by decide), aup_c (a := 5) (by decide), aup_c (a := 2) (by decide), aup_c (a := 2) (by decide), aup_c (a := 3) (by decide), aup_c (a := 3) (by decide)]
      refine ⟨?_, g2, ?_, g4, g5⟩
      · by_cases ec : c = b
        · rw [ec, aup_at]; omega
        · rw [aup_j ec]; exact g1
      · by_cases ec : c = o
        · rw [ec, aup_at]; omega
        · rw [aup_j ec, aup_c (by decide)]; exact g3
  · rw [if_neg (by rw [qeq, nI_m1 (by omega), qti (by omega)]; omega)]
    obtain ⟨τ1, v1, e1, e2, e3, e4, e5, e6⟩ := roundJ hI hb ho (fun x2 σ => f_X10_goRound_L12 k2 (nI b) n x2 σ) hY
    exact ⟨τ1, v1, e1, e2, e3, e4, fun z => absurd z e, e5, e6⟩
/-- a blade by itself -/
theorem roundSelf (hI : Inv S) {b : Nat} (hb : b < S 11 3) (k2 : Int32 → zS → Option (Int32 × zS)) (n : Nat) {τ : zS} {v : aS} (hY : Wy S τ v) :
    ∃ τ1 v1, f_X10_goRound_L12 k2 (nI b) (n + 1) (nI (S 11 3)) τ = k2 (nI (b + 1)) τ1 ∧ Wy S τ1 v1 ∧ (∀ k, k < 7 ∨ 12 < k → τ1 k = τ k) ∧ Lev v v1 ∧ (0 < S 19 b → v 0 b ≤ v1 2 b ∧ v 2 b ≤ v1 4 b ∧ v1 3 b ≤ v 5 b ∧ v1 1 b ≤ v 3 b) ∧ (S 19 b = 0 → v 0 b ≤ v1 4 b ∧ v1 1 b ≤ v 5 b) ∧ (∀ G, Cl S G → Bt S G v → Bt S G v1) := by
  have h12 := hI.n12
  obtain ⟨hB, hM, hv⟩ := id hY
  have b0 := hv 0 b hb; have b1 := hv 1 b hb; have b2 := hv 2 b hb; have b3 := hv 3 b hb; have b4 := hv 4 b hb; have b5 := hv 5 b hb
  rw [f_X10_goRound_L12, hB.many, if_pos (Int32.le_refl _), reusedB hB hI hb, zbd_s, ifz, nI_1]
  by_cases e : 0 < S 19 b
  · rw [if_pos e]
    have a2 : τ 9 b = nI (v 2 b) := hM 2 b (by omega) hb
    have a0 : τ 7 b = nI (v 0 b) := hM 0 b (by omega) hb
    obtain ⟨x2, hx2⟩ : ∃ x, x = max (v 2 b) (v 0 b) := ⟨_, rfl⟩
    obtain ⟨x4, hx4⟩ : ∃ x, x = max (v 4 b) x2 := ⟨_, rfl⟩
    obtain ⟨x3, hx3⟩ : ∃ x, x = min (v 3 b) (v 5 b) := ⟨_, rfl⟩
    obtain ⟨x1, hx1⟩ : ∃ x, x = min (v 1 b) x3 := ⟨_, rfl⟩
    have hY1 := Wy_up (k := 2) (b := b) (x := x2) hY (by omega) (by omega)
    have hY2 := Wy_up (k := 4) (b := b) (x := x4) hY1 (by omega) (by omega)
    have hY3 := Wy_up (k := 3) (b := b) (x := x3) hY2 (by omega) (by omega)
    have hY4 := Wy_up (k := 1) (b := b) (x := x1) hY3 (by omega) (by omega)
    refine ⟨_, _, ?_, hY4, fun k hk => by rw [zup_ne (by omega), zup_ne (by omega), zup_ne (by omega), zup_ne (by omega)], ?_, fun _ => ?_, fun z => by omega, fun G hG hb1 => ?_⟩
    · have r4 : zup τ (7 + 2) b (nI x2) 11 b = nI (v 4 b) := by rw [zup_ne (by omega)]; exact hM 4 b (by omega) hb
      have r2 : zup τ (7 + 2) b (nI x2) 9 b = nI x2 := zup_at
      have r3 : zup (zup τ (7 + 2) b (nI x2)) (7 + 4) b (nI x4) 10 b = nI (v 3 b) := by rw [zup_ne (by omega), zup_ne (by omega)]; exact hM 3 b (by omega) hb
      have r5 : zup (zup τ (7 + 2) b (nI x2)) (7 + 4) b (nI x4) 12 b = nI (v 5 b) := by rw [zup_ne (by omega), zup_ne (by omega)]; exact hM 5 b (by omega) hb
      have r1 : zup (zup (zup τ (7 + 2) b (nI x2)) (7 + 4) b (nI x4)) (7 + 3) b (nI x3) 8 b = nI (v 1 b) := by rw [zup_ne (by omega), zup_ne (by omega), zup_ne (by omega)]; exact hM 1 b (by omega) hb
      have r3b : zup (zup (zup τ (7 + 2) b (nI x2)) (7 + 4) b (nI x4)) (7 + 3) b (nI x3) 10 b = nI x3 := zup_at
      rw [zrd_n (by omega) (by omega), zrd_n (by omega) (by omega), a2, a0, greaterB (by omega) (by omega), zbd_s, ← hx2, zwr_n (by omega) (by omega), zrd_n (by omega) (by omega), zrd_n (by omega) (by omega)]
      show zbd (f_X10_greater (zup τ (7 + 2) b (nI x2) 11 b) (zup τ (7 + 2) b (nI x2) 9 b) _) _ = _
      rw [r4, r2, greaterB (by omega) (by omega), zbd_s, ← hx4, zwr_n (by omega) (by omega), zrd_n (by omega) (by omega), zrd_n (by omega) (by omega)]
      show zbd (f_X10_lesser (zup (zup τ (7 + 2) b (nI x2)) (7 + 4) b (nI x4) 10 b) (zup (zup τ (7 + 2) b (nI x2)) (7 + 4) b (nI x4) 12 b) _) _ = _
      rw [r3, r5, lesserB (by omega) (by omega), zbd_s, ← hx3, zwr_n (by omega) (by omega), zrd_n (by omega) (by omega), zrd_n (by omega) (by omega)]
      show zbd (f_X10_lesser (zup (zup (zup τ (7 + 2) b (nI x2)) (7 + 4) b (nI x4)) (7 + 3) b (nI x3) 8 b) (zup (zup (zup τ (7 + 2) b (nI x2)) (7 + 4) b (nI x4)) (7 + 3) b (nI x3) 10 b) _) _ = _
      rw [r1, r3b, lesserB (by omega) (by omega), zbd_s, ← hx1, zwr_n (by omega) (by omega)]
    · exact (((Lev_e (by omega) (by omega)).tr (Lev_e (by omega) (by rw [aup_c (by decide)]; omega))).tr (Lev_o (by omega) (by rw [aup_c (by decide), aup_c (by decide)]; omega))).tr (Lev_o (by omega) (by rw [aup_c (by decide), aup_c (by decide), aup_c (by decide)]; omega))
    · refine ⟨?_, ?_, ?_, ?_⟩
      · rw [aup_c (by decide), aup_c (by decide), aup_c (by decide), aup_at]; omega
      · rw [aup_c (by decide), aup_c (by decide), aup_at]; omega
      · rw [aup_c (by decide), aup_at]; omega
      · rw [aup_at]; omega
    · intro c hc
      obtain ⟨g1, g2, g3, g4, g5⟩ := hb1 c hc
      rw [aup_c (a := 0) (by decide), aup_c (a := 0) (by decide), aup_c (a := 0) (by decide), aup_c (a := 0) (by decide), aup_c (c := 1) (a := 4) (by decide), aup_c (c := 3) (a := 4) (by decide), aup_c (a := 5) (by decide), aup_c (a := 5) (by decide), aup_c (a := 5) (by decide), aup_c (a := 5) (by decide), aup_c (c := 1) (a := 2) (by decide), aup_c (c := 3) (a := 2) (by decide), aup_c (c := 4) (a := 2) (by decide), aup_c (c := 1) (a := 3) (by decide)]
      by_cases ec : c = b
      · rw [ec] at g1 g2 g3 g4 g5 ⊢
        obtain ⟨y1, y2, y3, y4⟩ := hG.2.2.1 b hb e
        have g6 := g5 e
        rw [aup_at, aup_at, aup_at, aup_at]
        exact ⟨g1, by omega, by omega, g4, fun _ => by omega⟩
      · simp only [aup_j ec]
        exact ⟨g1, g2, g3, g4, g5⟩
  · rw [if_neg e]
    have a4 : τ 11 b = nI (v 4 b) := hM 4 b (by omega) hb
    have a0 : τ 7 b = nI (v 0 b) := hM 0 b (by omega) hb
    obtain ⟨x4, hx4⟩ : ∃ x, x = max (v 4 b) (v 0 b) := ⟨_, rfl⟩
    obtain ⟨x1, hx1⟩ : ∃ x, x = min (v 1 b) (v 5 b) := ⟨_, rfl⟩
    have hY1 := Wy_up (k := 4) (b := b) (x := x4) hY (by omega) (by omega)
    have hY2 := Wy_up (k := 1) (b := b) (x := x1) hY1 (by omega) (by omega)
    refine ⟨_, _, ?_, hY2, fun k hk => by rw [zup_ne (by omega), zup_ne (by omega)], ?_, fun z => absurd z e, fun _ => ?_, fun G hG hb1 => ?_⟩
    · have r1 : zup τ (7 + 4) b (nI x4) 8 b = nI (v 1 b) := by rw [zup_ne (by omega)]; exact hM 1 b (by omega) hb
      have r5 : zup τ (7 + 4) b (nI x4) 12 b = nI (v 5 b) := by rw [zup_ne (by omega)]; exact hM 5 b (by omega) hb
      rw [zrd_n (by omega) (by omega), zrd_n (by omega) (by omega), a4, a0, greaterB (by omega) (by omega), zbd_s, ← hx4, zwr_n (by omega) (by omega), zrd_n (by omega) (by omega), zrd_n (by omega) (by omega)]
      show zbd (f_X10_lesser (zup τ (7 + 4) b (nI x4) 8 b) (zup τ (7 + 4) b (nI x4) 12 b) _) _ = _
      rw [r1, r5, lesserB (by omega) (by omega), zbd_s, ← hx1, zwr_n (by omega) (by omega)]
    · exact (Lev_e (by omega) (by omega)).tr (Lev_o (by omega) (by rw [aup_c (by decide)]; omega))
    · constructor
      · rw [aup_c (by decide), aup_at]; omega
      · rw [aup_at]; omega
    · intro c hc
      obtain ⟨g1, g2, g3, g4, g5⟩ := hb1 c hc
      rw [aup_c (a := 0) (by decide), aup_c (a := 0) (by decide), aup_c (c := 1) (a := 4) (by decide), aup_c (a := 5) (by decide), aup_c (a := 5) (by decide), aup_c (a := 2) (by decide), aup_c (a := 2) (by decide), aup_c (a := 3) (by decide), aup_c (a := 3) (by decide)]
      by_cases ec : c = b
      · rw [ec] at g1 g2 g3 g4 g5 ⊢
        obtain ⟨y1, y2⟩ := hG.2.2.2 b hb (by omega)
        rw [aup_at, aup_at]
        exact ⟨g1, by omega, by omega, g4, g5⟩
      · rw [aup_j ec, aup_j ec, aup_c (a := 1) (by decide)]
        exact ⟨g1, g2, g3, g4, g5⟩
/-- all pairs of one blade, and itself -/
theorem roundL12 (hI : Inv S) {b : Nat} (hb : b < S 11 3) (k2 : Int32 → zS → Option (Int32 × zS)) : ∀ (d n o : Nat) (τ : zS) (v : aS), Wy S τ v → o + d = S 11 3 → d < n →
    ∃ τ1 v1, f_X10_goRound_L12 k2 (nI b) n (nI o) τ = k2 (nI (b + 1)) τ1 ∧ Wy S τ1 v1 ∧ (∀ k, k < 7 ∨ 12 < k → τ1 k = τ k) ∧ Lev v v1 ∧ (∀ u, o ≤ u → u < S 11 3 → (S 20 b = u + 1 → v 0 u ≤ v1 0 b ∧ v1 1 u ≤ v 1 b) ∧ (elS S b u = true → v 4 b ≤ v1 4 u ∧ v1 5 b ≤ v 5 u)) ∧
      (0 < S 19 b → v 0 b ≤ v1 2 b ∧ v 2 b ≤ v1 4 b ∧ v1 3 b ≤ v 5 b ∧ v1 1 b ≤ v 3 b) ∧ (S 19 b = 0 → v 0 b ≤ v1 4 b ∧ v1 1 b ≤ v 5 b) ∧ (∀ G, Cl S G → Bt S G v → Bt S G v1)
  | 0, n + 1, o, τ, v, hY, h, _ => by
    have ho : o = S 11 3 := by omega
    rw [ho]
    obtain ⟨τ1, v1, e1, e2, e3, e4, e5, e6, e7⟩ := roundSelf hI hb k2 n hY
    exact ⟨τ1, v1, e1, e2, e3, e4, fun u h1 h2 => by omega, e5, e6, e7⟩
  | d + 1, n + 1, o, τ, v, hY, h, hn => by
    have ho : o < S 11 3 := by omega
    obtain ⟨τ1, v1, e1, e2, e3, e4, e5, e6, e7⟩ := roundPair hI hb ho k2 n hY
    obtain ⟨τ2, v2, f1, f2, f3, f4, f5, f6, f7, f8⟩ := roundL12 hI hb k2 d n (o + 1) τ1 v1 e2 (by omega) (by omega)
    refine ⟨τ2, v2, e1.trans f1, f2, fun k hk => by rw [f3 k hk, e3 k hk], e4.tr f4, fun u h1 h2 => ⟨fun hu => ?_, fun hu => ?_⟩, fun z => ?_, fun z => ?_, fun G hG hb1 => f8 G hG (e7 G hG hb1)⟩
    · by_cases eu : u = o
      · rw [eu] at hu ⊢
        have := e5 hu
        have := (f4 0 b).1 rfl
        have := (f4 1 o).2 rfl
        omega
      · have := (f5 u (by omega) h2).1 hu
        have := (e4 0 u).1 rfl
        have := (e4 1 b).2 rfl
        omega
    · by_cases eu : u = o
      · rw [eu] at hu ⊢
        have := e6 hu
        have := (f4 4 o).1 rfl
        have := (f4 5 b).2 rfl
        omega
      · have := (f5 u (by omega) h2).2 hu
        have := (e4 4 b).1 rfl
        have := (e4 5 u).2 rfl
        omega
    · have := f6 z
      have := (e4 0 b).1 rfl; have := (e4 2 b).1 rfl; have := (e4 5 b).2 rfl; have := (e4 3 b).2 rfl
      omega
    · have := f7 z
      have := (e4 0 b).1 rfl; have := (e4 5 b).2 rfl
      omega
/-- what a round does -/
def Rd (S v v1 : aS) (m : Nat) : Prop := ∀ b, m ≤ b → b < S 11 3 → (∀ u, u < S 11 3 → (S 20 b = u + 1 → v 0 u ≤ v1 0 b ∧ v1 1 u ≤ v 1 b) ∧ (elS S b u = true → v 4 b ≤ v1 4 u ∧ v1 5 b ≤ v 5 u)) ∧
      (0 < S 19 b → v 0 b ≤ v1 2 b ∧ v 2 b ≤ v1 4 b ∧ v1 3 b ≤ v 5 b ∧ v1 1 b ≤ v 3 b) ∧ (S 19 b = 0 → v 0 b ≤ v1 4 b ∧ v1 1 b ≤ v 5 b)
theorem roundL2 (hI : Inv S) : ∀ (d n b : Nat) (τ : zS) (v : aS), Wy S τ v → b + d = S 11 3 → d < n →
    ∃ τ1 v1, f_X10_goRound_L2 n (nI b) τ = some (0, τ1) ∧ Wy S τ1 v1 ∧ (∀ k, k < 7 ∨ 12 < k → τ1 k = τ k) ∧ Lev v v1 ∧ Rd S v v1 b ∧ (∀ G, Cl S G → Bt S G v → Bt S G v1)
  | 0, n + 1, b, τ, v, hY, h, _ => by
    have hb : b = S 11 3 := by omega
    refine ⟨τ, v, ?_, hY, fun _ _ => rfl, Lev.rf v, fun c h1 h2 => by omega, fun _ _ h => h⟩
    rw [f_X10_goRound_L2, hY.1.many, hb, if_pos (Int32.le_refl _)]
  | d + 1, n + 1, b, τ, v, hY, h, hn => by
    have h12 := hI.n12
    have hb : b < S 11 3 := by omega
    obtain ⟨τ1, v1, e1, e2, e3, e4, e5, e6, e7, e8⟩ := roundL12 hI hb (fun x1 σ => f_X10_goRound_L2 n x1 σ) (S 11 3) zfu 0 τ v hY (by omega) (zfu_gt (by omega))
    obtain ⟨τ2, v2, f1, f2, f3, f4, f5, f6⟩ := roundL2 hI d n (b + 1) τ1 v1 e2 (by omega) (by omega)
    refine ⟨τ2, v2, ?_, f2, fun k hk => by rw [f3 k hk, e3 k hk], e4.tr f4, fun c h1 h2 => ?_, fun G hG hb1 => f6 G hG (e8 G hG hb1)⟩
    · rw [f_X10_goRound_L2, hY.1.many, if_neg (by rw [qle_n (by omega) (by omega)]; omega)]
      exact e1.trans f1
    · by_cases ec : c = b
      · rw [ec]
        refine ⟨fun u hu => ⟨fun z => ?_, fun z => ?_⟩, fun z => ?_, fun z => ?_⟩
        · have := (e5 u (Nat.zero_le _) hu).1 z
          have := (f4 0 b).1 rfl; have := (f4 1 u).2 rfl
          omega
        · have := (e5 u (Nat.zero_le _) hu).2 z
          have := (f4 4 u).1 rfl; have := (f4 5 b).2 rfl
          omega
        · have := e6 z
          have := (f4 2 b).1 rfl; have := (f4 4 b).1 rfl; have := (f4 3 b).2 rfl; have := (f4 1 b).2 rfl
          omega
        · have := e7 z
          have := (f4 4 b).1 rfl; have := (f4 1 b).2 rfl
          omega
      · obtain ⟨g1, g2, g3⟩ := f5 c (by omega) h2
        refine ⟨fun u hu => ⟨fun z => ?_, fun z => ?_⟩, fun z => ?_, fun z => ?_⟩
        · have := (g1 u hu).1 z
          have := (e4 0 u).1 rfl; have := (e4 1 c).2 rfl
          omega
        · have := (g1 u hu).2 z
          have := (e4 4 c).1 rfl; have := (e4 5 u).2 rfl
          omega
        · have := g2 z
          have := (e4 0 c).1 rfl; have := (e4 2 c).1 rfl; have := (e4 5 c).2 rfl; have := (e4 3 c).2 rfl
          omega
        · have := g3 z
          have := (e4 0 c).1 rfl; have := (e4 5 c).2 rfl
          omega
theorem roundB (hI : Inv S) {τ : zS} {v : aS} (hY : Wy S τ v) : ∃ τ1 v1, f_X10_goRound τ = some (0, τ1) ∧ Wy S τ1 v1 ∧ (∀ k, k < 7 ∨ 12 < k → τ1 k = τ k) ∧ Lev v v1 ∧ Rd S v v1 0 ∧ (∀ G, Cl S G → Bt S G v → Bt S G v1) := by
  have h12 := hI.n12
  exact roundL2 hI (S 11 3) zfu 0 τ v hY (by omega) (zfu_gt (by omega))
end ROUND
