/-! PURE: land -/
theorem nil_of {l : List Nat} (h : l.length = 0) : l = [] := List.eq_nil_of_length_eq_zero h
def okLn (q : Nat × List Nat) : Prop :=
  (q.1 = 0 ∧ ∃ p y z w, q.2 = [p, y, z, w] ∧ p < 10 ∧ y ≤ z ∧ z ≤ 9999 ∧ 1 ≤ w ∧ w ≤ 999) ∨
  (q.1 = 1 ∧ ∃ f p y a b c s, q.2 = [f, p, y, a, b, c, s] ∧ f < 9 ∧ p < 10 ∧ y ≤ 9999 ∧ a ≤ 999 ∧ b ≤ 999 ∧ c ≤ 999 ∧ s ≤ 99) ∨
  ((q.1 = 2 ∨ q.1 = 3) ∧ ∃ a b m, q.2 = [a, b, m] ∧ a < 10 ∧ b < 10 ∧ a ≠ b ∧ m ≤ 999) ∨
  ((q.1 = 4 ∨ q.1 = 5) ∧ ∃ v, q.2 = [v] ∧ v ≤ 999)
section OKL
variable {T : Nat → Nat} {N : Nat}
theorem okWay {x y : Nat} {l : List Nat} (h : rdI T N (wc 8) (2 + 1) 0 0 x = .inr (y, l)) : ∃ a b m, l = [a, b, m] ∧ a < 10 ∧ b < 10 ∧ a ≠ b ∧ m ≤ 999 := by
  obtain ⟨v0, q0, c0, _, h1, e0⟩ := rdI_inv h
  obtain ⟨v1, q1, c1, _, h2, e1⟩ := rdI_inv h1
  obtain ⟨v2, q2, c2, _, h3, e2⟩ := rdI_inv h2
  have n3 := nil_of (rdI_len h3)
  have c0 : cst 80 v0 0 = true := c0
  have c1 : cst 81 v1 v0 = true := c1
  have c2 : cst 77 v2 v1 = true := c2
  rw [cP, decide_eq_true_eq] at c0
  rw [cQ, Bool.and_eq_true, decide_eq_true_eq] at c1
  rw [cM (by omega), decide_eq_true_eq] at c2
  have el : l = v0 :: q0.2 := congrArg Prod.snd e0
  refine ⟨v0, v1, v2, ?_, c0, c1.1, fun z => ?_, c2⟩
  · rw [el, e1, e2, n3]
  · have := c1.2
    rw [z] at this
    simp at this
theorem okOne {k x y : Nat} (hk : wc k 0 = 78) {l : List Nat} (h : rdI T N (wc k) (0 + 1) 0 0 x = .inr (y, l)) : ∃ v, l = [v] ∧ v ≤ 999 := by
  obtain ⟨v0, q0, c0, _, h1, e0⟩ := rdI_inv h
  have n1 := nil_of (rdI_len h1)
  rw [hk, cM (by omega), decide_eq_true_eq] at c0
  have el : l = v0 :: q0.2 := congrArg Prod.snd e0
  exact ⟨v0, by rw [el, n1], c0⟩
theorem okLine {k x y : Nat} {l : List Nat} (hk : k < 6) (h : rdI T N (wc (fk k)) (wl (fk k)) 0 0 x = .inr (y, l)) : okLn (k, l) := by
  match k, hk with
  | 0, _ =>
    have h : rdI T N (wc 6) (3 + 1) 0 0 x = .inr (y, l) := h
    obtain ⟨v0, q0, c0, _, h1, e0⟩ := rdI_inv h
    obtain ⟨v1, q1, c1, _, h2, e1⟩ := rdI_inv h1
    obtain ⟨v2, q2, c2, _, h3, e2⟩ := rdI_inv h2
    obtain ⟨v3, q3, c3, _, h4, e3⟩ := rdI_inv h3
    have n4 := nil_of (rdI_len h4)
    have c0 : cst 80 v0 0 = true := c0
    have c2 : cst 90 v2 v1 = true := c2
    have c3 : cst 87 v3 v2 = true := c3
    rw [cP, decide_eq_true_eq] at c0
    rw [cZ, Bool.and_eq_true, decide_eq_true_eq, decide_eq_true_eq] at c2
    rw [cW, Bool.and_eq_true, decide_eq_true_eq, decide_eq_true_eq] at c3
    have el : l = v0 :: q0.2 := congrArg Prod.snd e0
    exact Or.inl ⟨rfl, v0, v1, v2, v3, by rw [el, e1, e2, e3, n4], c0, c2.1, c2.2, c3.1, c3.2⟩
  | 1, _ =>
    have h : rdI T N (wc 7) (6 + 1) 0 0 x = .inr (y, l) := h
    obtain ⟨v0, q0, c0, _, h1, e0⟩ := rdI_inv h
    obtain ⟨v1, q1, c1, _, h2, e1⟩ := rdI_inv h1
    obtain ⟨v2, q2, c2, _, h3, e2⟩ := rdI_inv h2
    obtain ⟨v3, q3, c3, _, h4, e3⟩ := rdI_inv h3
    obtain ⟨v4, q4, c4, _, h5, e4⟩ := rdI_inv h4
    obtain ⟨v5, q5, c5, _, h6, e5⟩ := rdI_inv h5
    obtain ⟨v6, q6, c6, _, h7, e6⟩ := rdI_inv h6
    have n7 := nil_of (rdI_len h7)
    have c0 : cst 70 v0 0 = true := c0
    have c1 : cst 80 v1 v0 = true := c1
    have c2 : cst 89 v2 v1 = true := c2
    have c3 : cst 65 v3 v2 = true := c3
    have c4 : cst 66 v4 v3 = true := c4
    have c5 : cst 67 v5 v4 = true := c5
    have c6 : cst 83 v6 v5 = true := c6
    rw [cF, decide_eq_true_eq] at c0
    rw [cP, decide_eq_true_eq] at c1
    rw [cY, decide_eq_true_eq] at c2
    rw [cM (by omega), decide_eq_true_eq] at c3 c4 c5
    rw [cS, decide_eq_true_eq] at c6
    have el : l = v0 :: q0.2 := congrArg Prod.snd e0
    exact Or.inr (Or.inl ⟨rfl, v0, v1, v2, v3, v4, v5, v6, by rw [el, e1, e2, e3, e4, e5, e6, n7], c0, c1, c2, c3, c4, c5, c6⟩)
  | 2, _ => exact Or.inr (Or.inr (Or.inl ⟨Or.inl rfl, okWay h⟩))
  | 3, _ => exact Or.inr (Or.inr (Or.inl ⟨Or.inr rfl, okWay h⟩))
  | 4, _ => exact Or.inr (Or.inr (Or.inr ⟨Or.inl rfl, okOne (k := 9) rfl h⟩))
  | 5, _ => exact Or.inr (Or.inr (Or.inr ⟨Or.inr rfl, okOne (k := 9) rfl h⟩))
  | k + 6, h => omega
theorem okAll : ∀ {d x : Nat} {l : List (Nat × List Nat)}, rdL T N d x = .inr l → ∀ q ∈ l, okLn q
  | 0, x, l, h, q, hq => by rw [rdL] at h; cases h; cases hq
  | d + 1, x, l, h, q, hq => by
    cases e : lnR T N x with
    | inl a => rw [rdL_f e] at h; cases h
    | inr p =>
      obtain ⟨hk, hr⟩ := lnR_inv e
      have hp : okLn (p.2.1, p.2.2) := okLine hk hr
      rw [rdL_s e] at h
      split at h
      · split at h
        · split at h
          · cases h
          · cases e2 : rdL T N d (teN T N (skN T N p.1)) with
            | inl a => rw [e2] at h; cases h
            | inr m =>
              rw [e2] at h
              cases h
              rcases List.mem_cons.mp hq with z | z
              · rw [z]; exact hp
              · exact okAll e2 q z
        · cases h
      · cases h
        rcases List.mem_cons.mp hq with z | z
        · rw [z]; exact hp
        · cases z
theorem rdL_len : ∀ {d x : Nat} {l : List (Nat × List Nat)}, rdL T N d x = .inr l → l.length ≤ d
  | 0, x, l, h => by rw [rdL] at h; cases h; exact Nat.le_refl _
  | d + 1, x, l, h => by
    cases e : lnR T N x with
    | inl a => rw [rdL_f e] at h; cases h
    | inr p =>
      rw [rdL_s e] at h
      split at h
      · split at h
        · split at h
          · cases h
          · cases e2 : rdL T N d (teN T N (skN T N p.1)) with
            | inl a => rw [e2] at h; cases h
            | inr m =>
              rw [e2] at h
              cases h
              have := rdL_len e2
              rw [List.length_cons]; omega
        · cases h
      · cases h
        rw [List.length_cons, List.length_nil]; omega
end OKL
section TELL
variable {S : aS} {σ τ : zS}
/-- what a told line does on both sides -/
def Told (σ τ : zS) (w : Nat) : Prop := ∃ S1 σ1 τ1, f_X3_tell (nI w) σ = some (0, σ1) ∧ f_X10_doLine (nI w) τ = some (0, τ1) ∧ RA σ1 S1 ∧ RB τ1 S1 ∧ Inv S1 ∧ σ1 3 = σ 3 ∧ τ1 5 = τ 5 ∧ τ1 0 14 = τ 0 14
theorem RB_pl {τ1 : zS} {p y z w : Nat} (hB : RB τ S) (hp : p < 10) (hz : ∀ k, k ≠ 1 → τ1 k = τ k) (h0 : τ1 1 (3 * p) = nI y) (h1 : τ1 1 (3 * p + 1) = nI z) (h2 : τ1 1 (3 * p + 2) = nI w) (ho : ∀ q, q < 10 → q ≠ p → τ1 1 (3 * q) = τ 1 (3 * q) ∧ τ1 1 (3 * q + 1) = τ 1 (3 * q + 1) ∧ τ1 1 (3 * q + 2) = τ 1 (3 * q + 2)) : RB τ1 (aup (aup (aup S 1 p y) 2 p z) 3 p w) := by
  have hr : ∀ c, (c ≠ 1 ∧ c ≠ 2 ∧ c ≠ 3) → aup (aup (aup S 1 p y) 2 p z) 3 p w c = S c := fun c h => by rw [aup_f h.2.2, aup_f h.2.1, aup_f h.1]
  obtain ⟨a, b, c, ⟨d1, d2, d3, d4, d5⟩, e, f, g⟩ := hB
  refine ⟨?_, ?_, ?_, ⟨?_, ?_, ?_, ?_, ?_⟩, ?_, ?_, ?_⟩
  · intro q hq
    rw [aup_f (c := 3) (a := 1) (by decide), aup_f (c := 2) (a := 1) (by decide), aup_f (c := 3) (a := 2) (by decide)]
    by_cases e2 : q = p
    · rw [e2, aup_at, aup_at, aup_at]; exact ⟨h0, h1, h2⟩
    · simp only [aup_j e2]
      rw [(ho q hq e2).1, (ho q hq e2).2.1, (ho q hq e2).2.2]; exact a q hq
  · rw [hz 3 (by decide), hr 5 (by decide), hr 6 (by decide), hr 7 (by decide), hr 8 (by decide)]; exact b
  · rw [hz 2 (by decide), hr 9 (by decide), hr 10 (by decide)]; exact c
  · rw [hz 0 (by decide), hr 4 (by decide)]; exact d1
  · rw [hz 0 (by decide), hr 11 (by decide)]; exact d2
  · rw [hz 0 (by decide), hr 11 (by decide)]; exact d3
  · rw [hz 0 (by decide), hr 11 (by decide)]; exact d4
  · rw [hz 0 (by decide), hr 11 (by decide)]; exact d5
  · rw [hz 4 (by decide), hr 11 (by decide), hr 12 (by decide)]; exact e
  · rw [hz 6 (by decide), hr 11 (by decide), hr 13 (by decide), hr 14 (by decide), hr 15 (by decide), hr 16 (by decide), hr 17 (by decide), hr 18 (by decide), hr 19 (by decide), hr 20 (by decide), hr 21 (by decide)]; exact f
  · rw [hz 17 (by decide), hz 18 (by decide), hr 22 (by decide), hr 23 (by decide)]; exact g
theorem Inv_pl {p y z w : Nat} (hI : Inv S) (hyz : y ≤ z) (hz9 : z ≤ 9999) (hw : 1 ≤ w ∧ w ≤ 999) : Inv (aup (aup (aup S 1 p y) 2 p z) 3 p w) := by
  have hr : ∀ c, (c ≠ 1 ∧ c ≠ 2 ∧ c ≠ 3) → aup (aup (aup S 1 p y) 2 p z) 3 p w c = S c := fun c h => by rw [aup_f h.2.2, aup_f h.2.1, aup_f h.1]
  obtain ⟨i1, i2, i3, i4, i5, i6, i7, i8, i9⟩ := hI
  refine ⟨?_, ?_, ?_, ?_, ?_, ?_, ?_, ?_, ?_⟩
  · intro q hq
    rw [aup_f (c := 3) (a := 1) (by decide), aup_f (c := 2) (a := 1) (by decide), aup_f (c := 3) (a := 2) (by decide)]
    by_cases e2 : q = p
    · rw [e2, aup_at, aup_at, aup_at]; exact ⟨hyz, hz9, hw⟩
    · simp only [aup_j e2]
      exact i1 q hq
  · rw [hr 4 (by decide), hr 5 (by decide), hr 6 (by decide), hr 7 (by decide), hr 8 (by decide)]; exact i2
  · rw [hr 9 (by decide), hr 10 (by decide)]; exact i3
  · rw [hr 11 (by decide)]; exact i4
  · rw [hr 11 (by decide), hr 12 (by decide)]; exact i5
  · rw [hr 11 (by decide), hr 13 (by decide), hr 14 (by decide), hr 15 (by decide), hr 16 (by decide), hr 17 (by decide), hr 18 (by decide), hr 19 (by decide), hr 20 (by decide), hr 21 (by decide)]; exact i6
  · rw [hr 11 (by decide), hr 18 (by decide), hr 19 (by decide)]; exact i7
  · rw [hr 22 (by decide), hr 23 (by decide)]; exact i8
  · rw [hr 11 (by decide), hr 20 (by decide)]; exact i9
theorem told0 (hA : RA σ S) (hB : RB τ S) (hI : Inv S) {w0 p y z w : Nat} (hw0 : w0 + 8 ≤ 64) (hp : p < 10) (hyz : y ≤ z) (hz9 : z ≤ 9999) (hw : 1 ≤ w ∧ w ≤ 999) (a0 : σ 3 w0 = nI 0) (a1 : σ 3 (w0 + 1) = nI p) (a2 : σ 3 (w0 + 2) = nI y) (a3 : σ 3 (w0 + 3) = nI z) (a4 : σ 3 (w0 + 4) = nI w) (b0 : τ 5 w0 = nI 0) (b1 : τ 5 (w0 + 1) = nI p) (b2 : τ 5 (w0 + 2) = nI y) (b3 : τ 5 (w0 + 3) = nI z) (b4 : τ 5 (w0 + 4) = nI w) : Told σ τ w0 := by
  obtain ⟨σ1, e1⟩ : ∃ σ1, σ1 = zup (zup (zup σ 5 p (nI y)) 6 p (nI z)) 7 p (nI w) := ⟨_, rfl⟩
  obtain ⟨τ1, e2⟩ : ∃ τ1, τ1 = zup (zup (zup τ 1 (3 * p + 0) (nI y)) 1 (3 * p + 1) (nI z)) 1 (3 * p + 2) (nI w) := ⟨_, rfl⟩
  have step : ∀ (τ : zS) (n i v : Nat), i < 3 → τ 5 (w0 + 2 + i) = nI v → f_X10_doLine_L63 (nI w0) (nI p) (n + 1) (nI i) τ = f_X10_doLine_L63 (nI w0) (nI p) n (nI (i + 1)) (zup τ 1 (3 * p + i) (nI v)) := by
    intro τ n i v hi hv
    rw [f_X10_doLine_L63, if_neg (by rw [q3, qle_n (by omega) (by omega)]; omega), zrd_i (x := nI w0 + 2 + nI i) (j := w0 + 2 + i) (by rw [q2, nI_add, nI_add]) (by omega) (by omega), hv, zwr_i (x := 3 * nI p + nI i) (j := 3 * p + i) (ix1 3 p i) (by omega) (by omega), nI_1]
  refine ⟨aup (aup (aup S 1 p y) 2 p z) 3 p w, σ1, τ1, ?_, ?_, ?_, ?_, Inv_pl hI hyz hz9 hw, ?_, ?_, ?_⟩
  · unfold f_X3_tell
    rw [zrd_i (x := nI w0 + 1) (j := w0 + 1) (by rw [nI_1]) (by omega) (by omega), a1, zrd_n (by omega) (by omega), a0, if_pos (show nI 0 = 0 from rfl), zrd_i (x := nI w0 + 2) (j := w0 + 2) (by rw [q2, nI_add]) (by omega) (by omega), a2, zwr_n hp (by omega), zrd_i (x := nI w0 + 3) (j := w0 + 3) (by rw [q3, nI_add]) (by omega) (by omega), zup_ne (by decide), a3, zwr_n hp (by omega), zrd_i (x := nI w0 + 4) (j := w0 + 4) (by rw [q4, nI_add]) (by omega) (by omega), zup_ne (by decide), zup_ne (by decide), a4, zwr_n hp (by omega), ← e1]
  · unfold f_X10_doLine
    rw [zrd_i (x := nI w0 + 1) (j := w0 + 1) (by rw [nI_1]) (by omega) (by omega), b1, zrd_i (x := nI w0 + 2) (j := w0 + 2) (by rw [q2, nI_add]) (by omega) (by omega), b2, zrd_n (by omega) (by omega), b0, if_pos (show nI 0 = 0 from rfl)]
    show f_X10_doLine_L63 (nI w0) (nI p) (4092 + 1 + 1 + 1 + 1) (nI 0) τ = _
    rw [step τ _ 0 y (by omega) b2, step _ _ 1 z (by omega) (by rw [zup_ne (by decide)]; exact b3), step _ _ 2 w (by omega) (by rw [zup_ne (by decide), zup_ne (by decide)]; exact b4), f_X10_doLine_L63, if_pos (by decide), ← e2]
  · rw [e1]
    exact RA_up (RA_up (RA_up hA 5 1 p y (by decide) (by decide) (by decide)) 6 2 p z (by decide) (by decide) (by decide)) 7 3 p w (by decide) (by decide) (by decide)
  · refine RB_pl hB hp (fun k hk => by rw [e2, zup_ne hk, zup_ne hk, zup_ne hk]) ?_ ?_ ?_ (fun q hq hqp => ⟨?_, ?_, ?_⟩)
    · rw [e2, zup_no (by omega), zup_no (by omega)]; exact zup_at
    · rw [e2, zup_no (by omega), zup_at]
    · rw [e2, zup_at]
    · rw [e2, zup_no (by omega), zup_no (by omega), zup_no (by omega)]
    · rw [e2, zup_no (by omega), zup_no (by omega), zup_no (by omega)]
    · rw [e2, zup_no (by omega), zup_no (by omega), zup_no (by omega)]
  · rw [e1, zup_ne (by decide), zup_ne (by decide), zup_ne (by decide)]
  · rw [e2, zup_ne (by decide), zup_ne (by decide), zup_ne (by decide)]
  · rw [e2, zup_ne (by decide), zup_ne (by decide), zup_ne (by decide)]
theorem told4 (hA : RA σ S) (hB : RB τ S) (hI : Inv S) {w0 v : Nat} (hw0 : w0 + 8 ≤ 64) (hv : v ≤ 999) (a0 : σ 3 w0 = nI 4) (a1 : σ 3 (w0 + 1) = nI v) (b0 : τ 5 w0 = nI 4) (b1 : τ 5 (w0 + 1) = nI v) : Told σ τ w0 := by
  have hr : ∀ c, c ≠ 11 → aup S 11 0 v c = S c := fun c h => aup_f h
  have h3 : aup S 11 0 v 11 3 = S 11 3 := aup_j (by decide)
  have h2 : aup S 11 0 v 11 2 = S 11 2 := aup_j (by decide)
  have ho : aup S 11 0 v 11 1 = S 11 1 := aup_j (by decide)
  have hj : aup S 11 0 v 11 0 = v := aup_at
  have hz : ∀ k, k ≠ 0 → zup τ 0 4 (nI v) k = τ k := fun k h => zup_ne h
  have hz0 : ∀ i, i ≠ 4 → zup τ 0 4 (nI v) 0 i = τ 0 i := fun i h => zup_no h
  refine ⟨aup S 11 0 v, zup σ 4 12 (nI v), zup τ 0 4 (nI v), ?_, ?_, ?_, ?_, ?_, zup_ne (by decide), zup_ne (by decide), zup_no (by decide)⟩
  · unfold f_X3_tell
    rw [zrd_i (x := nI w0 + 1) (j := w0 + 1) (by rw [nI_1]) (by omega) (by omega), a1, zrd_n (by omega) (by omega), a0, if_neg (by decide), if_neg (by decide), if_neg (by decide), if_neg (by decide), if_pos (by decide), zst_s]
  · unfold f_X10_doLine
    rw [zrd_i (x := nI w0 + 1) (j := w0 + 1) (by rw [nI_1]) (by omega) (by omega), b1, zrd_i (x := nI w0 + 2) (j := w0 + 2) (by rw [q2, nI_add]) (by omega) (by omega), zrd_n (by omega) (by omega), b0, if_neg (by decide), if_neg (by decide), if_neg (by decide), if_neg (by decide), if_pos (by decide), zst_s]
  · obtain ⟨r, ⟨n1, n2, n3, n4⟩, t, f, w⟩ := hA
    refine ⟨fun q hq j hj => ?_, ⟨?_, ?_, ?_, ?_⟩, ?_, ?_, ?_⟩
    · have hall : rowsA.all (fun q => decide (q.1 ≠ 4 ∧ q.2.1 ≠ 11)) = true := by decide
      have e := of_decide_eq_true (List.all_eq_true.mp hall q hq)
      rw [zup_ne e.1, aup_c e.2]; exact r q hq j hj
    · rw [zup_at, hj]
    · rw [zup_no (by decide), ho]; exact n2
    · rw [zup_ne (by decide), h2]; exact n3
    · rw [zup_ne (by decide), h3]; exact n4
    · rw [zup_ne (by decide), h2, hr 12 (by decide)]; exact t
    · rw [zup_ne (by decide), zup_ne (by decide), h3, hr 20 (by decide), hr 21 (by decide)]; exact f
    · rw [zup_ne (by decide), zup_ne (by decide), hr 9 (by decide), hr 10 (by decide)]; exact w
  · obtain ⟨a, b, c, ⟨d1, d2, d3, d4, d5⟩, e, f, g⟩ := hB
    refine ⟨?_, ?_, ?_, ⟨?_, ?_, ?_, ?_, ?_⟩, ?_, ?_, ?_⟩
    · rw [hz 1 (by decide), hr 1 (by decide), hr 2 (by decide), hr 3 (by decide)]; exact a
    · rw [hz 3 (by decide), hr 5 (by decide), hr 6 (by decide), hr 7 (by decide), hr 8 (by decide)]; exact b
    · rw [hz 2 (by decide), hr 9 (by decide), hr 10 (by decide)]; exact c
    · rw [hz0 3 (by decide), hr 4 (by decide)]; exact d1
    · rw [zup_at, hj]
    · rw [hz0 5 (by decide), ho]; exact d3
    · rw [hz0 6 (by decide), h2]; exact d4
    · rw [hz0 16 (by decide), h3]; exact d5
    · rw [hz 4 (by decide), h2, hr 12 (by decide)]; exact e
    · rw [hz 6 (by decide), h3, hr 13 (by decide), hr 14 (by decide), hr 15 (by decide), hr 16 (by decide), hr 17 (by decide), hr 18 (by decide), hr 19 (by decide), hr 20 (by decide), hr 21 (by decide)]; exact f
    · rw [hz 17 (by decide), hz 18 (by decide), hr 22 (by decide), hr 23 (by decide)]; exact g
  · obtain ⟨i1, i2, i3, i4, i5, i6, i7, i8, i9⟩ := hI
    refine ⟨?_, ?_, ?_, ?_, ?_, ?_, ?_, ?_, ?_⟩
    · rw [hr 1 (by decide), hr 2 (by decide), hr 3 (by decide)]; exact i1
    · rw [hr 4 (by decide), hr 5 (by decide), hr 6 (by decide), hr 7 (by decide), hr 8 (by decide)]; exact i2
    · rw [hr 9 (by decide), hr 10 (by decide)]; exact i3
    · rw [hj, ho, h2, h3]; exact ⟨hv, i4.2.1, i4.2.2.1, i4.2.2.2⟩
    · rw [h2, hr 12 (by decide)]; exact i5
    · rw [h3, hr 13 (by decide), hr 14 (by decide), hr 15 (by decide), hr 16 (by decide), hr 17 (by decide), hr 18 (by decide), hr 19 (by decide), hr 20 (by decide), hr 21 (by decide)]; exact i6
    · rw [h3, hr 18 (by decide), hr 19 (by decide)]; exact i7
    · rw [hr 22 (by decide), hr 23 (by decide)]; exact i8
    · rw [h3, hr 20 (by decide)]; exact i9
theorem told5 (hA : RA σ S) (hB : RB τ S) (hI : Inv S) {w0 v : Nat} (hw0 : w0 + 8 ≤ 64) (hv : v ≤ 999) (a0 : σ 3 w0 = nI 5) (a1 : σ 3 (w0 + 1) = nI v) (b0 : τ 5 w0 = nI 5) (b1 : τ 5 (w0 + 1) = nI v) : Told σ τ w0 := by
  have hr : ∀ c, c ≠ 11 → aup S 11 1 v c = S c := fun c h => aup_f h
  have h3 : aup S 11 1 v 11 3 = S 11 3 := aup_j (by decide)
  have h2 : aup S 11 1 v 11 2 = S 11 2 := aup_j (by decide)
  have ho : aup S 11 1 v 11 0 = S 11 0 := aup_j (by decide)
  have hj : aup S 11 1 v 11 1 = v := aup_at
  have hz : ∀ k, k ≠ 0 → zup τ 0 5 (nI v) k = τ k := fun k h => zup_ne h
  have hz0 : ∀ i, i ≠ 5 → zup τ 0 5 (nI v) 0 i = τ 0 i := fun i h => zup_no h
  refine ⟨aup S 11 1 v, zup σ 4 13 (nI v), zup τ 0 5 (nI v), ?_, ?_, ?_, ?_, ?_, zup_ne (by decide), zup_ne (by decide), zup_no (by decide)⟩
  · unfold f_X3_tell
    rw [zrd_i (x := nI w0 + 1) (j := w0 + 1) (by rw [nI_1]) (by omega) (by omega), a1, zrd_n (by omega) (by omega), a0, if_neg (by decide), if_neg (by decide), if_neg (by decide), if_neg (by decide), if_neg (by decide), zst_s]
  · unfold f_X10_doLine
    rw [zrd_i (x := nI w0 + 1) (j := w0 + 1) (by rw [nI_1]) (by omega) (by omega), b1, zrd_i (x := nI w0 + 2) (j := w0 + 2) (by rw [q2, nI_add]) (by omega) (by omega), zrd_n (by omega) (by omega), b0, if_neg (by decide), if_neg (by decide), if_neg (by decide), if_neg (by decide), if_neg (by decide), zst_s]
  · obtain ⟨r, ⟨n1, n2, n3, n4⟩, t, f, w⟩ := hA
    refine ⟨fun q hq j hj => ?_, ⟨?_, ?_, ?_, ?_⟩, ?_, ?_, ?_⟩
    · have hall : rowsA.all (fun q => decide (q.1 ≠ 4 ∧ q.2.1 ≠ 11)) = true := by decide
      have e := of_decide_eq_true (List.all_eq_true.mp hall q hq)
      rw [zup_ne e.1, aup_c e.2]; exact r q hq j hj
    · rw [zup_no (by decide), ho]; exact n1
    · rw [zup_at, hj]
    · rw [zup_ne (by decide), h2]; exact n3
    · rw [zup_ne (by decide), h3]; exact n4
    · rw [zup_ne (by decide), h2, hr 12 (by decide)]; exact t
    · rw [zup_ne (by decide), zup_ne (by decide), h3, hr 20 (by decide), hr 21 (by decide)]; exact f
    · rw [zup_ne (by decide), zup_ne (by decide), hr 9 (by decide), hr 10 (by decide)]; exact w
  · obtain ⟨a, b, c, ⟨d1, d2, d3, d4, d5⟩, e, f, g⟩ := hB
    refine ⟨?_, ?_, ?_, ⟨?_, ?_, ?_, ?_, ?_⟩, ?_, ?_, ?_⟩
    · rw [hz 1 (by decide), hr 1 (by decide), hr 2 (by decide), hr 3 (by decide)]; exact a
    · rw [hz 3 (by decide), hr 5 (by decide), hr 6 (by decide), hr 7 (by decide), hr 8 (by decide)]; exact b
    · rw [hz 2 (by decide), hr 9 (by decide), hr 10 (by decide)]; exact c
    · rw [hz0 3 (by decide), hr 4 (by decide)]; exact d1
    · rw [hz0 4 (by decide), ho]; exact d2
    · rw [zup_at, hj]
    · rw [hz0 6 (by decide), h2]; exact d4
    · rw [hz0 16 (by decide), h3]; exact d5
    · rw [hz 4 (by decide), h2, hr 12 (by decide)]; exact e
    · rw [hz 6 (by decide), h3, hr 13 (by decide), hr 14 (by decide), hr 15 (by decide), hr 16 (by decide), hr 17 (by decide), hr 18 (by decide), hr 19 (by decide), hr 20 (by decide), hr 21 (by decide)]; exact f
    · rw [hz 17 (by decide), hz 18 (by decide), hr 22 (by decide), hr 23 (by decide)]; exact g
  · obtain ⟨i1, i2, i3, i4, i5, i6, i7, i8, i9⟩ := hI
    refine ⟨?_, ?_, ?_, ?_, ?_, ?_, ?_, ?_, ?_⟩
    · rw [hr 1 (by decide), hr 2 (by decide), hr 3 (by decide)]; exact i1
    · rw [hr 4 (by decide), hr 5 (by decide), hr 6 (by decide), hr 7 (by decide), hr 8 (by decide)]; exact i2
    · rw [hr 9 (by decide), hr 10 (by decide)]; exact i3
    · rw [hj, ho, h2, h3]; exact ⟨i4.1, hv, i4.2.2.1, i4.2.2.2⟩
    · rw [h2, hr 12 (by decide)]; exact i5
    · rw [h3, hr 13 (by decide), hr 14 (by decide), hr 15 (by decide), hr 16 (by decide), hr 17 (by decide), hr 18 (by decide), hr 19 (by decide), hr 20 (by decide), hr 21 (by decide)]; exact i6
    · rw [h3, hr 18 (by decide), hr 19 (by decide)]; exact i7
    · rw [hr 22 (by decide), hr 23 (by decide)]; exact i8
    · rw [h3, hr 20 (by decide)]; exact i9
theorem told_bits {f : Nat} (hf : f < 9) : nI (bN (fun g => decide (0 < S 4 g)) 9) ||| ((1 : Int32) <<< (nI f &&& 31)) = nI (bN (fun g => decide (0 < aup S 4 f 1 4 g)) 9) := by
  rw [shl_one hf (by omega), bN_orB _ _ (by omega)]
  congr 1
  refine bN_cong (fun g _ => ?_)
  by_cases e : g = f
  · rw [e, aup_at]; simp
  · rw [aup_j e]; simp [e]
def flS (S : aS) (f p y a b c s : Nat) : aS := aup (aup (aup (aup (aup (aup (aup S 4 f 1) 5 f p) 6 f y) 7 (3 * f + 0) a) 7 (3 * f + 1) b) 7 (3 * f + 2) c) 8 f s
section FLS
variable {f p y a b c s : Nat}
theorem flS_f {i : Nat} (h : i ≠ 4 ∧ i ≠ 5 ∧ i ≠ 6 ∧ i ≠ 7 ∧ i ≠ 8) : flS S f p y a b c s i = S i := by
  unfold flS
  rw [aup_f h.2.2.2.2, aup_f h.2.2.2.1, aup_f h.2.2.2.1, aup_f h.2.2.2.1, aup_f h.2.2.1, aup_f h.2.1, aup_f h.1]
theorem flS_4 : flS S f p y a b c s 4 = aup S 4 f 1 4 := by
  unfold flS
  rw [aup_f (by decide), aup_f (by decide), aup_f (by decide), aup_f (by decide), aup_f (by decide), aup_f (by decide)]
theorem flS_5 : flS S f p y a b c s 5 = aup S 5 f p 5 := by
  unfold flS
  rw [aup_f (by decide), aup_f (by decide), aup_f (by decide), aup_f (by decide), aup_f (by decide)]
  funext j
  by_cases e : j = f
  · rw [e, aup_at, aup_at]
  · simp only [aup_j e]
theorem flS_6 : flS S f p y a b c s 6 = aup S 6 f y 6 := by
  unfold flS
  rw [aup_f (by decide), aup_f (by decide), aup_f (by decide), aup_f (by decide)]
  funext j
  by_cases e : j = f
  · rw [e, aup_at, aup_at]
  · simp only [aup_j e]
theorem flS_8 : flS S f p y a b c s 8 = aup S 8 f s 8 := by
  unfold flS
  funext j
  by_cases e : j = f
  · rw [e, aup_at, aup_at]
  · rw [aup_j e, aup_j e, aup_f (by decide), aup_f (by decide), aup_f (by decide), aup_f (by decide), aup_f (by decide), aup_f (by decide)]
theorem flS_7 {g i : Nat} (hi : i < 3) : flS S f p y a b c s 7 (3 * g + i) = if g = f then (if i = 0 then a else if i = 1 then b else c) else S 7 (3 * g + i) := by
  unfold flS
  rw [aup_f (a := 7) (c := 8) (by decide)]
  by_cases e : g = f
  · rw [if_pos e, e]
    rcases (show i = 0 ∨ i = 1 ∨ i = 2 by omega) with z | z | z
    · rw [z, if_pos rfl, aup_j (by omega), aup_j (by omega), aup_at]
    · rw [z, if_neg (by decide), if_pos rfl, aup_j (by omega), aup_at]
    · rw [z, if_neg (by decide), if_neg (by decide), aup_at]
  · rw [if_neg e, aup_j (by omega), aup_j (by omega), aup_j (by omega), aup_f (by decide), aup_f (by decide), aup_f (by decide)]
end FLS
theorem told1 (hA : RA σ S) (hB : RB τ S) (hI : Inv S) {w0 f p y a b c s : Nat} (hw0 : w0 + 8 ≤ 64) (hf : f < 9) (hp : p < 10) (hy : y ≤ 9999) (ha : a ≤ 999) (hb : b ≤ 999) (hc : c ≤ 999) (hs : s ≤ 99)
    (a0 : σ 3 w0 = nI 1) (aa : ∀ i, i < 7 → σ 3 (w0 + 1 + i) = nI ([f, p, y, a, b, c, s].getD i 0)) (b0 : τ 5 w0 = nI 1) (bb : ∀ i, i < 7 → τ 5 (w0 + 1 + i) = nI ([f, p, y, a, b, c, s].getD i 0)) : Told σ τ w0 := by
  obtain ⟨σ1, e1⟩ : ∃ σ1, σ1 = zup (zup (zup (zup (zup (zup (zup σ 8 f 1) 9 f (nI p)) 10 f (nI y)) 11 (3 * f + 0) (nI a)) 11 (3 * f + 1) (nI b)) 11 (3 * f + 2) (nI c)) 12 f (nI s) := ⟨_, rfl⟩
  obtain ⟨τ1, e2⟩ : ∃ τ1, τ1 = zup (zup (zup (zup (zup (zup (zup τ 0 3 (nI (bN (fun g => decide (0 < aup S 4 f 1 4 g)) 9))) 3 (6 * f + 0) (nI p)) 3 (6 * f + 1) (nI y)) 3 (6 * f + 2) (nI a)) 3 (6 * f + 3) (nI b)) 3 (6 * f + 4) (nI c)) 3 (6 * f + 5) (nI s) := ⟨_, rfl⟩
  have stepB : ∀ (τ : zS) (n i v : Nat), i < 6 → τ 5 (w0 + 2 + i) = nI v → f_X10_doLine_L115 (nI w0) (nI f) (n + 1) (nI i) τ = f_X10_doLine_L115 (nI w0) (nI f) n (nI (i + 1)) (zup τ 3 (6 * f + i) (nI v)) := by
    intro τ n i v hi hv
    rw [f_X10_doLine_L115, if_neg (by rw [q6, qle_n (by omega) (by omega)]; omega), zrd_i (x := nI w0 + 2 + nI i) (j := w0 + 2 + i) (by rw [q2, nI_add, nI_add]) (by omega) (by omega), hv, zwr_i (x := 6 * nI f + nI i) (j := 6 * f + i) (ix1 6 f i) (by omega) (by omega), nI_1]
  have stepA : ∀ (σ : zS) (n i v : Nat), i < 3 → σ 3 (w0 + 2 + 2 + i) = nI v → f_X3_tellFlow_L30 (nI f) (nI (w0 + 2)) (n + 1) (nI i) σ = f_X3_tellFlow_L30 (nI f) (nI (w0 + 2)) n (nI (i + 1)) (zup σ 11 (3 * f + i) (nI v)) := by
    intro σ n i v hi hv
    rw [f_X3_tellFlow_L30, if_neg (by rw [q3, qle_n (by omega) (by omega)]; omega), zrd_i (x := nI (w0 + 2) + 2 + nI i) (j := w0 + 2 + 2 + i) (by rw [q2, nI_add, nI_add]) (by omega) (by omega), hv, zwr_i (x := nI f * 3 + nI i) (j := 3 * f + i) (by rw [q3, pk_mul, nI_add, Nat.mul_comm]) (by omega) (by omega), nI_1]
  have b2 : ∀ i, i < 6 → τ 5 (w0 + 2 + i) = nI ([p, y, a, b, c, s].getD i 0) := fun i hi => by
    have := bb (i + 1) (by omega)
    rw [show w0 + 2 + i = w0 + 1 + (i + 1) by omega, this]; rfl
  have a2 : ∀ i, i < 6 → σ 3 (w0 + 2 + i) = nI ([p, y, a, b, c, s].getD i 0) := fun i hi => by
    have := aa (i + 1) (by omega)
    rw [show w0 + 2 + i = w0 + 1 + (i + 1) by omega, this]; rfl
  have af : σ 3 (w0 + 1) = nI f := aa 0 (by omega)
  have bf : τ 5 (w0 + 1) = nI f := bb 0 (by omega)
  have hz : ∀ k, k ≠ 0 → k ≠ 3 → τ1 k = τ k := fun k h0 h3 => by rw [e2, zup_ne h3, zup_ne h3, zup_ne h3, zup_ne h3, zup_ne h3, zup_ne h3, zup_ne h0]
  have hz0 : ∀ j, j ≠ 3 → τ1 0 j = τ 0 j := fun j h => by rw [e2, zup_ne (by decide), zup_ne (by decide), zup_ne (by decide), zup_ne (by decide), zup_ne (by decide), zup_ne (by decide), zup_no h]
  have hz3 : τ1 0 3 = nI (bN (fun g => decide (0 < aup S 4 f 1 4 g)) 9) := by rw [e2, zup_ne (by decide), zup_ne (by decide), zup_ne (by decide), zup_ne (by decide), zup_ne (by decide), zup_ne (by decide), zup_at]
  have hf3 : ∀ i, i < 6 → τ1 3 (6 * f + i) = nI ([p, y, a, b, c, s].getD i 0) := fun i hi => by
    rw [e2]
    rcases (show i = 0 ∨ i = 1 ∨ i = 2 ∨ i = 3 ∨ i = 4 ∨ i = 5 by omega) with z | z | z | z | z | z
    · rw [z, zup_no (by omega), zup_no (by omega), zup_no (by omega), zup_no (by omega), zup_no (by omega), zup_at]; rfl
    · rw [z, zup_no (by omega), zup_no (by omega), zup_no (by omega), zup_no (by omega), zup_at]; rfl
    · rw [z, zup_no (by omega), zup_no (by omega), zup_no (by omega), zup_at]; rfl
    · rw [z, zup_no (by omega), zup_no (by omega), zup_at]; rfl
    · rw [z, zup_no (by omega), zup_at]; rfl
    · rw [z, zup_at]; rfl
  have ho3 : ∀ g i, g ≠ f → i < 6 → τ1 3 (6 * g + i) = τ 3 (6 * g + i) := fun g i hg hi => by
    rw [e2, zup_no (by omega), zup_no (by omega), zup_no (by omega), zup_no (by omega), zup_no (by omega), zup_no (by omega), zup_ne (by decide)]
  refine ⟨flS S f p y a b c s, σ1, τ1, ?_, ?_, ?_, ?_, ?_, ?_, ?_, ?_⟩
  · unfold f_X3_tell f_X3_tellFlow
    rw [zrd_i (x := nI w0 + 1) (j := w0 + 1) (by rw [nI_1]) (by omega) (by omega), af, zrd_n (by omega) (by omega), a0, if_neg (by decide), if_pos (by decide), show nI w0 + 2 = nI (w0 + 2) by rw [q2, nI_add], zwr_n hf (by omega), zrd_n (by omega) (by omega), zup_ne (by decide), a2 0 (by omega), zwr_n hf (by omega), zrd_i (x := nI (w0 + 2) + 1) (j := w0 + 2 + 1) (by rw [nI_1]) (by omega) (by omega), zup_ne (by decide), zup_ne (by decide), a2 1 (by omega), zwr_n hf (by omega)]
    have hl : f_X3_tellFlow_L30 (nI f) (nI (w0 + 2)) zfu 0 (zup (zup (zup σ 8 f 1) 9 f (nI p)) 10 f (nI y)) = some (0, σ1) := by
      show f_X3_tellFlow_L30 (nI f) (nI (w0 + 2)) (4092 + 1 + 1 + 1 + 1) (nI 0) _ = _
      rw [stepA _ _ 0 a (by omega) (by rw [zup_ne (by decide), zup_ne (by decide), zup_ne (by decide)]; exact a2 2 (by omega)), stepA _ _ 1 b (by omega) (by rw [zup_ne (by decide), zup_ne (by decide), zup_ne (by decide), zup_ne (by decide)]; exact a2 3 (by omega)), stepA _ _ 2 c (by omega) (by rw [zup_ne (by decide), zup_ne (by decide), zup_ne (by decide), zup_ne (by decide), zup_ne (by decide)]; exact a2 4 (by omega)), f_X3_tellFlow_L30, if_pos (by decide), zrd_i (x := nI (w0 + 2) + 2 + 3) (j := w0 + 2 + 5) (by rw [q2, q3, nI_add, nI_add]) (by omega) (by omega), zup_ne (by decide), zup_ne (by decide), zup_ne (by decide), zup_ne (by decide), zup_ne (by decide), zup_ne (by decide), a2 5 (by omega), zwr_n hf (by omega), e1]
      rfl
    have hl2 : f_X3_tellFlow_L30 (nI f) (nI (w0 + 2)) zfu 0 (zup (zup (zup σ 8 f 1) 9 f (nI ([p, y, a, b, c, s].getD 0 0))) 10 f (nI ([p, y, a, b, c, s].getD 1 0))) = some (0, σ1) := hl
    rw [hl2, zbd_s]
  · unfold f_X10_doLine
    rw [zrd_i (x := nI w0 + 1) (j := w0 + 1) (by rw [nI_1]) (by omega) (by omega), bf, zrd_i (x := nI w0 + 2) (j := w0 + 2) (by rw [q2, nI_add]) (by omega) (by omega), zrd_n (by omega) (by omega), b0, if_neg (by decide), if_pos (by decide), zst_s, hB.told, told_bits hf]
    show f_X10_doLine_L115 (nI w0) (nI f) (4089 + 1 + 1 + 1 + 1 + 1 + 1 + 1) (nI 0) _ = _
    have k5 : ∀ (τ : zS) (i : Nat) (v : Int32), zup τ 3 i v 5 = τ 5 := fun _ _ _ => zup_ne (by decide)
    have k50 : ∀ (v : Int32), zup τ 0 3 v 5 = τ 5 := fun _ => zup_ne (by decide)
    rw [stepB _ _ 0 p (by omega) (by rw [k50]; exact b2 0 (by omega)), stepB _ _ 1 y (by omega) (by rw [k5, k50]; exact b2 1 (by omega)), stepB _ _ 2 a (by omega) (by rw [k5, k5, k50]; exact b2 2 (by omega)), stepB _ _ 3 b (by omega) (by rw [k5, k5, k5, k50]; exact b2 3 (by omega)), stepB _ _ 4 c (by omega) (by rw [k5, k5, k5, k5, k50]; exact b2 4 (by omega)), stepB _ _ 5 s (by omega) (by rw [k5, k5, k5, k5, k5, k50]; exact b2 5 (by omega)), f_X10_doLine_L115, if_pos (by decide), ← e2]
  · rw [e1]
    unfold flS
    exact RA_up (RA_up (RA_up (RA_up (RA_up (RA_up (RA_up hA 8 4 f 1 (by decide) (by decide) (by decide)) 9 5 f p (by decide) (by decide) (by decide)) 10 6 f y (by decide) (by decide) (by decide)) 11 7 (3 * f + 0) a (by decide) (by decide) (by decide)) 11 7 (3 * f + 1) b (by decide) (by decide) (by decide)) 11 7 (3 * f + 2) c (by decide) (by decide) (by decide)) 12 8 f s (by decide) (by decide) (by decide)
  · obtain ⟨a', b', c', ⟨d1, d2, d3, d4, d5⟩, e', f', g'⟩ := hB
    refine ⟨?_, ?_, ?_, ⟨?_, ?_, ?_, ?_, ?_⟩, ?_, ?_, ?_⟩
    · rw [hz 1 (by decide) (by decide), flS_f (by decide), flS_f (by decide), flS_f (by decide)]; exact a'
    · intro g hg
      rw [flS_5, flS_6, flS_8]
      by_cases e : g = f
      · rw [e, aup_at, aup_at, aup_at]
        refine ⟨hf3 0 (by omega), hf3 1 (by omega), fun i hi => ?_, hf3 5 (by omega)⟩
        rw [flS_7 hi, if_pos rfl]
        rcases (show i = 0 ∨ i = 1 ∨ i = 2 by omega) with z | z | z
        · rw [z, if_pos rfl]; exact hf3 2 (by omega)
        · rw [z, if_neg (by decide), if_pos rfl]; exact hf3 3 (by omega)
        · rw [z, if_neg (by decide), if_neg (by decide)]; exact hf3 4 (by omega)
      · rw [aup_j e, aup_j e, aup_j e]
        obtain ⟨x1, x2, x3, x4⟩ := b' g hg
        refine ⟨(ho3 g 0 e (by omega)).trans x1, (ho3 g 1 e (by omega)).trans x2, fun i hi => ?_, (ho3 g 5 e (by omega)).trans x4⟩
        rw [flS_7 hi, if_neg e, Nat.add_assoc, ho3 g (2 + i) e (by omega), ← Nat.add_assoc]; exact x3 i hi
    · rw [hz 2 (by decide) (by decide), flS_f (by decide), flS_f (by decide)]; exact c'
    · rw [hz3, flS_4]
    · rw [hz0 4 (by decide), flS_f (by decide)]; exact d2
    · rw [hz0 5 (by decide), flS_f (by decide)]; exact d3
    · rw [hz0 6 (by decide), flS_f (by decide)]; exact d4
    · rw [hz0 16 (by decide), flS_f (by decide)]; exact d5
    · rw [hz 4 (by decide) (by decide), flS_f (i := 11) (by decide), flS_f (i := 12) (by decide)]; exact e'
    · rw [hz 6 (by decide) (by decide), flS_f (i := 11) (by decide), flS_f (i := 13) (by decide), flS_f (i := 14) (by decide), flS_f (i := 15) (by decide), flS_f (i := 16) (by decide), flS_f (i := 17) (by decide), flS_f (i := 18) (by decide), flS_f (i := 19) (by decide), flS_f (i := 20) (by decide), flS_f (i := 21) (by decide)]; exact f'
    · rw [hz 17 (by decide) (by decide), hz 18 (by decide) (by decide), flS_f (i := 22) (by decide), flS_f (i := 23) (by decide)]; exact g'
  · obtain ⟨i1, i2, i3, i4, i5, i6, i7, i8, i9⟩ := hI
    refine ⟨?_, ?_, ?_, ?_, ?_, ?_, ?_, ?_, ?_⟩
    · rw [flS_f (i := 1) (by decide), flS_f (i := 2) (by decide), flS_f (i := 3) (by decide)]; exact i1
    · intro g hg
      rw [flS_4, flS_5, flS_6, flS_8]
      obtain ⟨x1, x2, x3, x4, x5⟩ := i2 g hg
      by_cases e : g = f
      · rw [e, aup_at, aup_at, aup_at, aup_at]
        refine ⟨by omega, by omega, hy, fun i hi => ?_, hs⟩
        rw [flS_7 hi, if_pos rfl]
        split
        · exact ha
        · split
          · exact hb
          · exact hc
      · rw [aup_j e, aup_j e, aup_j e, aup_j e]
        exact ⟨x1, x2, x3, fun i hi => by rw [flS_7 hi, if_neg e]; exact x4 i hi, x5⟩
    · rw [flS_f (i := 9) (by decide), flS_f (i := 10) (by decide)]; exact i3
    · rw [flS_f (i := 11) (by decide)]; exact i4
    · rw [flS_f (i := 11) (by decide), flS_f (i := 12) (by decide)]; exact i5
    · rw [flS_f (i := 11) (by decide), flS_f (i := 13) (by decide), flS_f (i := 14) (by decide), flS_f (i := 15) (by decide), flS_f (i := 16) (by decide), flS_f (i := 17) (by decide), flS_f (i := 18) (by decide), flS_f (i := 19) (by decide), flS_f (i := 20) (by decide), flS_f (i := 21) (by decide)]; exact i6
    · rw [flS_f (i := 11) (by decide), flS_f (i := 18) (by decide), flS_f (i := 19) (by decide)]; exact i7
    · rw [flS_f (i := 22) (by decide), flS_f (i := 23) (by decide)]; exact i8
    · rw [flS_f (i := 11) (by decide), flS_f (i := 20) (by decide)]; exact i9
  · rw [e1, zup_ne (by decide), zup_ne (by decide), zup_ne (by decide), zup_ne (by decide), zup_ne (by decide), zup_ne (by decide), zup_ne (by decide)]
  · exact hz 5 (by decide) (by decide)
  · exact hz0 14 (by decide)
end TELL
