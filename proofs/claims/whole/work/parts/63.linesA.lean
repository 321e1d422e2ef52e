/-! PURE: the text: lines, the class -/
section LNA
variable {T : Nat → Nat} {N : Nat}
def rcs (v : Nat) (r : Nat ⊕ (Nat × List Nat)) : Nat ⊕ (Nat × List Nat) := match r with
  | .inl a => .inl a
  | .inr q => .inr (q.1, v :: q.2)
/-- numbers of a form, from its i-th on: where it fails, or where it ends and which they are -/
def rdI (T : Nat → Nat) (N : Nat) (g : Nat → Nat) : Nat → Nat → Nat → Nat → Nat ⊕ (Nat × List Nat)
  | 0, _, _, x => .inr (x, [])
  | d + 1, i, bf, x => match numO T N (skN T N x) with
    | none => .inl (skN T N x)
    | some v => if cst (g i) v bf = true then rcs v (rdI T N g d (i + 1) v (teN T N (skN T N x))) else .inl (skN T N x)
theorem rdI_n {g : Nat → Nat} {d i bf x : Nat} (h : numO T N (skN T N x) = none) : rdI T N g (d + 1) i bf x = .inl (skN T N x) := by
  rw [rdI, h]
theorem rdI_f {g : Nat → Nat} {d i bf x v : Nat} (h : numO T N (skN T N x) = some v) (hc : ¬ cst (g i) v bf = true) : rdI T N g (d + 1) i bf x = .inl (skN T N x) := by
  rw [rdI, h]
  show (if cst (g i) v bf = true then _ else _) = _
  rw [if_neg hc]
theorem rdI_s {g : Nat → Nat} {d i bf x v : Nat} (h : numO T N (skN T N x) = some v) (hc : cst (g i) v bf = true) : rdI T N g (d + 1) i bf x = rcs v (rdI T N g d (i + 1) v (teN T N (skN T N x))) := by
  rw [rdI, h]
  show (if cst (g i) v bf = true then _ else _) = _
  rw [if_pos hc]
theorem rdI_inv {g : Nat → Nat} {d i bf x : Nat} {q : Nat × List Nat} (h : rdI T N g (d + 1) i bf x = .inr q) : ∃ v q1, cst (g i) v bf = true ∧ v ≤ 9999 ∧ rdI T N g d (i + 1) v (teN T N (skN T N x)) = .inr q1 ∧ q = (q1.1, v :: q1.2) := by
  cases e : numO T N (skN T N x) with
  | none => rw [rdI_n e] at h; cases h
  | some v =>
    by_cases c : cst (g i) v bf = true
    · rw [rdI_s e c] at h
      cases e2 : rdI T N g d (i + 1) v (teN T N (skN T N x)) with
      | inl a => rw [e2] at h; cases h
      | inr q1 => rw [e2] at h; cases h; exact ⟨v, q1, c, numO_le e, e2, rfl⟩
    · rw [rdI_f e c] at h; cases h
theorem rdI_len {g : Nat → Nat} : ∀ {d i bf x : Nat} {q : Nat × List Nat}, rdI T N g d i bf x = .inr q → q.2.length = d
  | 0, i, bf, x, q, h => by rw [rdI] at h; cases h; rfl
  | d + 1, i, bf, x, q, h => by
    obtain ⟨v, q1, _, _, h3, h4⟩ := rdI_inv h
    rw [h4, List.length_cons, rdI_len h3]
theorem rdI_le {g : Nat → Nat} : ∀ {d i bf x : Nat} {q : Nat × List Nat}, x ≤ N → rdI T N g d i bf x = .inr q → q.1 ≤ N
  | 0, i, bf, x, q, hx, h => by rw [rdI] at h; cases h; exact hx
  | d + 1, i, bf, x, q, hx, h => by
    obtain ⟨v, q1, _, _, h3, h4⟩ := rdI_inv h
    rw [h4]
    show q1.1 ≤ N
    exact rdI_le (q := q1) teN_le h3
def KL (σ σ1 : zS) : Prop := (∀ k, k ≠ 1 → k ≠ 3 → σ1 k = σ k) ∧ ∀ j, j ≠ 4 → j ≠ 5 → σ1 1 j = σ 1 j
theorem KL.rf (σ : zS) : KL σ σ := ⟨fun _ _ _ => rfl, fun _ _ _ => rfl⟩
theorem KL.tr {a b c : zS} (h1 : KL a b) (h2 : KL b c) : KL a c := ⟨fun k hk h3 => by rw [h2.1 k hk h3, h1.1 k hk h3], fun j h4 h5 => by rw [h2.2 j h4 h5, h1.2 j h4 h5]⟩
theorem KL_t {σ σ1 : zS} (h : KT σ σ1) : KL σ σ1 := ⟨fun k hk _ => h.1 k hk, h.2⟩
theorem KL_3 {σ : zS} {j : Nat} {v : Int32} : KL σ (zup σ 3 j v) := ⟨fun k _ h3 => zup_ne h3, fun i _ _ => by rw [zup_ne (by decide)]⟩
theorem TA_l {σ σ1 : zS} (h : TA T N σ) (hk : KL σ σ1) : TA T N σ1 := ⟨h.1, by rw [hk.2 1 (by decide) (by decide)]; exact h.2.1, fun j hj => by rw [hk.1 2 (by decide) (by decide)]; exact h.2.2 j hj⟩
def OutA (res : Option (Int32 × zS)) (r : Nat ⊕ (Nat × List Nat)) (σ : zS) (w : Nat) : Prop := match r with
  | .inl a => ∃ σ1, res = some (0, σ1) ∧ KL σ σ1 ∧ σ1 1 4 = nI a
  | .inr q => ∃ σ1, res = some (1, σ1) ∧ KL σ σ1 ∧ σ1 1 5 = nI q.1 ∧ (∀ j, j < q.2.length → σ1 3 (w + j) = nI (q.2.getD j 0)) ∧ ∀ j, j < w → σ1 3 j = σ 3 j
theorem wc_255 : ∀ k, k < 10 → ∀ i, i < 7 → wc k i ≤ 255 := by decide
theorem rlL34 {fi at0 : Nat} (hfi : fi < 10) (hat : at0 + 8 ≤ 64) : ∀ (d n i bf x : Nat) (σ : zS), TA T N σ → σ 1 5 = nI x → x ≤ N → bf ≤ 9999 → i + d = wl fi → d < n → OutA (f_X7_readLine_L34 (nI at0) (nI fi) n (nI bf) (nI i) σ) (rdI T N (wc fi) d i bf x) σ (at0 + 1 + i)
  | 0, n + 1, i, bf, x, σ, hT, h5, hx, hb, h, _ => by
    have h7 := wl_7 fi hfi
    refine ⟨σ, ?_, KL.rf σ, h5, fun j hj => absurd hj (Nat.not_lt_zero j), fun _ _ => rfl⟩
    rw [f_X7_readLine_L34, lenJ hfi, zbd_s, if_pos ((qle_n (by omega) (by omega)).mpr (by omega))]
  | d + 1, n + 1, i, bf, x, σ, hT, h5, hx, hb, h, hn => by
    have h7 := wl_7 fi hfi
    obtain ⟨σ1, a1, a2, a3, a4⟩ := takeA hT h5 hx
    have hT1 := TA_k hT a2
    have hs : skN T N x ≤ N := skN_le hx
    rw [f_X7_readLine_L34, lenJ hfi, zbd_s, if_neg (by rw [qle_n (by omega) (by omega)]; omega), a1, zbd_s, numberA hT1 a3 a4 hs, zbd_s]
    cases e : numO T N (skN T N x) with
    | none =>
      rw [rdI_n e, if_pos (show eO none = -1 from rfl)]
      exact ⟨σ1, rfl, KL_t a2, a3⟩
    | some v =>
      have hv := numO_le e
      have hw := wc_255 fi hfi i (by omega)
      rw [show eO (some v) = nI v from rfl, if_neg (nI_nm (by omega)), chaJ hfi (by omega), zbd_s, canA2 hw hv hb, zbd_s, ifz]
      by_cases c : cst (wc fi i) v bf = true
      · rw [if_pos c, rdI_s e c, zwr_i (x := nI at0 + 1 + nI i) (j := at0 + 1 + i) (by rw [nI_1, nI_add]) (by omega) (by omega), nI_1]
        have k1 : KL σ (zup σ1 3 (at0 + 1 + i) (nI v)) := (KL_t a2).tr KL_3
        have ih := rlL34 hfi hat d n (i + 1) v (teN T N (skN T N x)) (zup σ1 3 (at0 + 1 + i) (nI v)) (TA_l hT k1) (by rw [zup_ne (by decide)]; exact a4) teN_le hv (by omega) (by omega)
        cases e2 : rdI T N (wc fi) d (i + 1) v (teN T N (skN T N x)) with
        | inl a =>
          rw [e2] at ih
          obtain ⟨σ2, b1, b2, b3⟩ := ih
          exact ⟨σ2, b1, k1.tr b2, b3⟩
        | inr q =>
          rw [e2] at ih
          obtain ⟨σ2, b1, b2, b3, b4, b5⟩ := ih
          refine ⟨σ2, b1, k1.tr b2, b3, fun j hj => ?_, fun j hj => ?_⟩
          · cases j with
            | zero => rw [Nat.add_zero, b5 _ (by omega), zup_at]; rfl
            | succ j =>
              have hj' : j < q.2.length := Nat.lt_of_succ_lt_succ hj
              have := b4 j hj'
              rw [show at0 + 1 + i + (j + 1) = at0 + 1 + (i + 1) + j by omega, this]; rfl
          · rw [b5 j (by omega), zup_no (by omega), a2.1 3 (by decide)]
      · rw [if_neg c, rdI_f e c]
        exact ⟨σ1, rfl, KL_t a2, a3⟩
/-- the form of a kind -/
def fk (k : Nat) : Nat := match k with
  | 0 => 6
  | 1 => 7
  | 2 => 8
  | 3 => 8
  | _ => 9
theorem fk_lt : ∀ k, k < 6 → fk k < 10 := by decide
theorem formA {k : Nat} (hk : k < 6) (σ : zS) : f_X7_formOf (nI k) σ = some (nI (fk k), σ) := by
  unfold f_X7_formOf
  match k, hk with
  | 0, _ => rw [if_pos (by decide)]; rfl
  | 1, _ => rw [if_neg (by decide), if_pos (by decide)]; rfl
  | 2, _ => rw [if_neg (by decide), if_neg (by decide), if_pos (by decide)]; rfl
  | 3, _ => rw [if_neg (by decide), if_neg (by decide), if_neg (by decide), if_pos (by decide)]; rfl
  | 4, _ => rw [if_neg (by decide), if_neg (by decide), if_neg (by decide), if_neg (by decide)]; rfl
  | 5, _ => rw [if_neg (by decide), if_neg (by decide), if_neg (by decide), if_neg (by decide)]; rfl
  | k + 6, h => omega
theorem kdF_lt {a : Nat} : ∀ {d k m : Nat}, kdF T N a d k = some m → m < k + d
  | 0, k, m, h => by rw [kdF] at h; cases h
  | d + 1, k, m, h => by
    rw [kdF] at h
    split at h
    · cases h; omega
    · have := kdF_lt h; omega
def lnC (k : Nat) (r : Nat ⊕ (Nat × List Nat)) : Nat ⊕ (Nat × Nat × List Nat) := match r with
  | .inl a => .inl a
  | .inr q => .inr (q.1, k, q.2)
/-- a line: where it fails, or its end, kind and numbers -/
def lnR (T : Nat → Nat) (N x : Nat) : Nat ⊕ (Nat × Nat × List Nat) := match kdF T N (skN T N x) 6 0 with
  | none => .inl (skN T N x)
  | some k => lnC k (rdI T N (wc (fk k)) (wl (fk k)) 0 0 (teN T N (skN T N x)))
theorem lnR_n {x : Nat} (h : kdF T N (skN T N x) 6 0 = none) : lnR T N x = .inl (skN T N x) := by unfold lnR; rw [h]
theorem lnR_s {x k : Nat} (h : kdF T N (skN T N x) 6 0 = some k) : lnR T N x = lnC k (rdI T N (wc (fk k)) (wl (fk k)) 0 0 (teN T N (skN T N x))) := by unfold lnR; rw [h]
theorem lnR_inv {x : Nat} {q : Nat × Nat × List Nat} (h : lnR T N x = .inr q) : q.2.1 < 6 ∧ rdI T N (wc (fk q.2.1)) (wl (fk q.2.1)) 0 0 (teN T N (skN T N x)) = .inr (q.1, q.2.2) := by
  cases e : kdF T N (skN T N x) 6 0 with
  | none => rw [lnR_n e] at h; cases h
  | some k =>
    rw [lnR_s e] at h
    have hk := kdF_lt e
    cases e2 : rdI T N (wc (fk k)) (wl (fk k)) 0 0 (teN T N (skN T N x)) with
    | inl a => rw [e2] at h; cases h
    | inr p => rw [e2] at h; cases h; exact ⟨by omega, e2⟩
def OutLA (res : Option (Int32 × zS)) (r : Nat ⊕ (Nat × Nat × List Nat)) (σ : zS) (w : Nat) : Prop := match r with
  | .inl a => ∃ σ1, res = some (0, σ1) ∧ KL σ σ1 ∧ σ1 1 4 = nI a
  | .inr q => ∃ σ1, res = some (1, σ1) ∧ KL σ σ1 ∧ σ1 1 5 = nI q.1 ∧ σ1 3 w = nI q.2.1 ∧ (∀ j, j < q.2.2.length → σ1 3 (w + 1 + j) = nI (q.2.2.getD j 0)) ∧ ∀ j, j < w → σ1 3 j = σ 3 j
theorem readLineA {at0 x : Nat} (hat : at0 + 8 ≤ 64) {σ : zS} (hT : TA T N σ) (h5 : σ 1 5 = nI x) (hx : x ≤ N) : OutLA (f_X7_readLine (nI at0) σ) (lnR T N x) σ at0 := by
  obtain ⟨σ1, a1, a2, a3, a4⟩ := takeA hT h5 hx
  have hT1 := TA_k hT a2
  have hs : skN T N x ≤ N := skN_le hx
  unfold f_X7_readLine
  rw [a1, zbd_s, kindA hT1 a3 a4 hs, zbd_s]
  cases e : kdF T N (skN T N x) 6 0 with
  | none =>
    rw [lnR_n e, if_pos (show eO none = -1 from rfl)]
    exact ⟨σ1, rfl, KL_t a2, a3⟩
  | some k =>
    have hk := kdF_lt e
    rw [lnR_s e, show eO (some k) = nI k from rfl, if_neg (nI_nm (by omega)), zwr_n (by omega) (by omega), formA (by omega), zbd_s]
    have k1 : KL σ (zup σ1 3 at0 (nI k)) := (KL_t a2).tr KL_3
    have h := rlL34 (T := T) (N := N) (fk_lt k (by omega)) hat (wl (fk k)) zfu 0 0 (teN T N (skN T N x)) (zup σ1 3 at0 (nI k)) (TA_l hT k1) (by rw [zup_ne (by decide)]; exact a4) teN_le (by omega) (by omega) (zfu_gt (by have := wl_7 (fk k) (fk_lt k (by omega)); omega))
    have h : OutA (f_X7_readLine_L34 (nI at0) (nI (fk k)) zfu 0 0 (zup σ1 3 at0 (nI k))) (rdI T N (wc (fk k)) (wl (fk k)) 0 0 (teN T N (skN T N x))) (zup σ1 3 at0 (nI k)) (at0 + 1) := h
    cases e2 : rdI T N (wc (fk k)) (wl (fk k)) 0 0 (teN T N (skN T N x)) with
    | inl a =>
      rw [e2] at h
      obtain ⟨σ2, b1, b2, b3⟩ := h
      exact ⟨σ2, b1, k1.tr b2, b3⟩
    | inr q =>
      rw [e2] at h
      obtain ⟨σ2, b1, b2, b3, b4, b5⟩ := h
      refine ⟨σ2, b1, k1.tr b2, b3, ?_, b4, fun j hj => ?_⟩
      · rw [b5 _ (by omega), zup_at]
      · rw [b5 j (by omega), zup_no (by omega), a2.1 3 (by decide)]
/-- all lines, d at most -/
def rdC (q : Nat × List Nat) (r : Nat ⊕ List (Nat × List Nat)) : Nat ⊕ List (Nat × List Nat) := match r with
  | .inl a => .inl a
  | .inr l => .inr (q :: l)
def rdL (T : Nat → Nat) (N : Nat) : Nat → Nat → Nat ⊕ List (Nat × List Nat)
  | 0, _ => .inr []
  | d + 1, x => match lnR T N x with
    | .inl a => .inl a
    | .inr q => if skN T N q.1 < N then (if T (skN T N q.1) = 59 then (if d = 0 then .inl (skN T N q.1) else rdC (q.2.1, q.2.2) (rdL T N d (teN T N (skN T N q.1)))) else .inl (skN T N q.1)) else .inr [(q.2.1, q.2.2)]
theorem rdL_f {d x a : Nat} (h : lnR T N x = .inl a) : rdL T N (d + 1) x = .inl a := by rw [rdL, h]
theorem rdL_s {d x : Nat} {q : Nat × Nat × List Nat} (h : lnR T N x = .inr q) : rdL T N (d + 1) x = if skN T N q.1 < N then (if T (skN T N q.1) = 59 then (if d = 0 then .inl (skN T N q.1) else rdC (q.2.1, q.2.2) (rdL T N d (teN T N (skN T N q.1)))) else .inl (skN T N q.1)) else .inr [(q.2.1, q.2.2)] := by rw [rdL, h]
def Lns (c : Nat → Int32) : Nat → List (Nat × List Nat) → Prop
  | _, [] => True
  | k, q :: l => (c (8 * k) = nI q.1 ∧ ∀ j, j < q.2.length → c (8 * k + 1 + j) = nI (q.2.getD j 0)) ∧ Lns c (k + 1) l
def KR (σ σ1 : zS) : Prop := (∀ k, k ≠ 1 → k ≠ 3 → σ1 k = σ k) ∧ σ1 1 1 = σ 1 1
theorem KR.tr {a b c : zS} (h1 : KR a b) (h2 : KR b c) : KR a c := ⟨fun k hk h3 => by rw [h2.1 k hk h3, h1.1 k hk h3], by rw [h2.2, h1.2]⟩
theorem KR_l {σ σ1 : zS} (h : KL σ σ1) : KR σ σ1 := ⟨h.1, h.2 1 (by decide) (by decide)⟩
def OutRA (res : Option (Int32 × zS)) (r : Nat ⊕ List (Nat × List Nat)) (σ : zS) (k : Nat) : Prop := match r with
  | .inl a => ∃ σ1, res = some (nI a, σ1) ∧ KR σ σ1
  | .inr l => ∃ σ1, res = some (-1, σ1) ∧ KR σ σ1 ∧ σ1 1 3 = nI (k + l.length) ∧ Lns (σ1 3) k l ∧ ∀ j, j < 8 * k → σ1 3 j = σ 3 j
theorem readStep {d : Nat} (ih : ∀ d1, d = d1 + 1 → ∀ (n k x : Nat) (σ : zS), TA T N σ → σ 1 5 = nI x → x ≤ N → σ 1 3 = nI k → k + (d1 + 1) = 8 → d1 + 1 < n → OutRA (f_X7_read_L12 n (nI k) σ) (rdL T N (d1 + 1) x) σ k) (n k x : Nat) (σ : zS) (hT : TA T N σ) (h5 : σ 1 5 = nI x) (hx : x ≤ N) (h3 : σ 1 3 = nI k) (hk : k + (d + 1) = 8) (hn : d + 1 < n) : OutRA (f_X7_read_L12 n (nI k) σ) (rdL T N (d + 1) x) σ k := by
  have h200 := hT.1.1
  obtain ⟨n, rfl⟩ : ∃ m, n = m + 1 := ⟨n - 1, by omega⟩
  have hl := readLineA (at0 := 8 * k) (by omega) hT h5 hx
  rw [f_X7_read_L12, if_neg (by rw [q8, qle_n (by omega) (by omega)]; omega), show nI k * 8 = nI (8 * k) by rw [q8, pk_mul, Nat.mul_comm]]
  cases e : lnR T N x with
  | inl a =>
    rw [e] at hl
    obtain ⟨σ1, b1, b2, b3⟩ := hl
    rw [rdL_f e, b1, zbd_s, if_pos rfl, b3]
    exact ⟨σ1, rfl, KR_l b2⟩
  | inr q =>
    rw [e] at hl
    obtain ⟨σ1, b1, b2, b3, b4, b5, b6⟩ := hl
    obtain ⟨hq6, hqr⟩ := lnR_inv e
    have hlen : q.2.2.length ≤ 7 := by rw [rdI_len hqr]; exact wl_7 _ (fk_lt _ hq6)
    have hq1 : q.1 ≤ N := rdI_le (q := (q.1, q.2.2)) teN_le hqr
    rw [rdL_s e, b1, zbd_s, if_neg (by decide), zst_s, b2.2 3 (by decide) (by decide), h3, nI_1]
    have kr : KR σ (zup σ1 1 3 (nI (k + 1))) := (KR_l b2).tr ⟨fun k hk _ => zup_ne hk, zup_no (by decide)⟩
    have hT2 : TA T N (zup σ1 1 3 (nI (k + 1))) := ⟨hT.1, by rw [kr.2]; exact hT.2.1, fun j hj => by rw [kr.1 2 (by decide) (by decide)]; exact hT.2.2 j hj⟩
    obtain ⟨σ3, c1, c2, c3, c4⟩ := takeA hT2 (x := q.1) (by rw [zup_no (by decide)]; exact b3) hq1
    have hT3 := TA_k hT2 c2
    have hs : skN T N q.1 ≤ N := skN_le hq1
    have kr3 : KR σ σ3 := kr.tr (KR_l (KL_t c2))
    have e13 : σ3 1 3 = nI (k + 1) := by rw [c2.2 3 (by decide) (by decide), zup_at]
    have e3 : ∀ j, σ3 3 j = σ1 3 j := fun j => by rw [c2.1 3 (by decide), zup_ne (by decide)]
    rw [c1, zbd_s, c3, hT3.2.1]
    by_cases c : skN T N q.1 < N
    · have ct := hT.1.2 _ c
      rw [if_pos ((qlt_n (by omega) (by omega)).mpr c), if_pos c, zrd_n (by omega) (by omega), hT3.2.2 _ c]
      by_cases g : T (skN T N q.1) = 59
      · rw [if_pos (show nI (T (skN T N q.1)) = 59 by rw [g]; rfl), if_pos g]
        by_cases z : d = 0
        · rw [if_pos z]
          obtain ⟨n, rfl⟩ : ∃ m, n = m + 1 := ⟨n - 1, by omega⟩
          rw [f_X7_read_L12, if_pos (by rw [q8, qle_n (by omega) (by omega)]; omega), c3]
          exact ⟨σ3, rfl, kr3⟩
        · rw [if_neg z]
          obtain ⟨d1, hd1⟩ : ∃ d1, d = d1 + 1 := ⟨d - 1, by omega⟩
          have h := ih d1 hd1 n (k + 1) (teN T N (skN T N q.1)) σ3 hT3 c4 teN_le e13 (by omega) (by omega)
          rw [← hd1] at h
          cases e4 : rdL T N d (teN T N (skN T N q.1)) with
          | inl a =>
            rw [e4] at h
            obtain ⟨σ4, f1, f2⟩ := h
            exact ⟨σ4, f1, kr3.tr f2⟩
          | inr l =>
            rw [e4] at h
            obtain ⟨σ4, f1, f2, f3, f4, f5⟩ := h
            refine ⟨σ4, f1, kr3.tr f2, ?_, ⟨⟨?_, fun j hj => ?_⟩, f4⟩, fun j hj => ?_⟩
            · rw [f3, List.length_cons]; congr 1; omega
            · rw [f5 _ (by omega), e3]; exact b4
            · have hj' : j < q.2.2.length := hj
              rw [f5 _ (by omega), e3]; exact b5 j hj
            · rw [f5 j (by omega), e3, b6 j hj]
      · rw [if_neg (show ¬ nI (T (skN T N q.1)) = 59 by rw [show (59 : Int32) = nI 59 from rfl, qeq_n (by omega) (by omega)]; exact g), if_neg g]
        exact ⟨σ3, rfl, kr3⟩
    · rw [if_neg (fun z => c ((qlt_n (by omega) (by omega)).mp z)), if_neg c]
      refine ⟨σ3, rfl, kr3, e13, ⟨⟨by rw [e3]; exact b4, fun j hj => by rw [e3]; exact b5 j hj⟩, trivial⟩, fun j hj => by rw [e3, b6 j hj]⟩
theorem readL (d : Nat) : ∀ (n k x : Nat) (σ : zS), TA T N σ → σ 1 5 = nI x → x ≤ N → σ 1 3 = nI k → k + (d + 1) = 8 → d + 1 < n → OutRA (f_X7_read_L12 n (nI k) σ) (rdL T N (d + 1) x) σ k := by
  induction d with
  | zero => exact readStep (fun d1 h => by omega)
  | succ d ih => exact readStep (fun d1 h => by
      have : d1 = d := by omega
      rw [this]; exact ih)
theorem readA {σ : zS} (hT : TA T N σ) : OutRA (f_X7_read σ) (rdL T N 8 0) σ 0 := by
  have kr : KR σ (zup (zup σ 1 5 0) 1 3 0) := ⟨fun k hk _ => by rw [zup_ne hk, zup_ne hk], by rw [zup_no (by decide), zup_no (by decide)]⟩
  have hT2 : TA T N (zup (zup σ 1 5 0) 1 3 0) := ⟨hT.1, by rw [kr.2]; exact hT.2.1, fun j hj => by rw [kr.1 2 (by decide) (by decide)]; exact hT.2.2 j hj⟩
  have h := readL (T := T) (N := N) 7 zfu 0 0 (zup (zup σ 1 5 0) 1 3 0) hT2 (by rw [zup_no (by decide), zup_at]; rfl) (Nat.zero_le _) zup_at (by omega) (zfu_gt (by omega))
  have e0 : f_X7_read σ = f_X7_read_L12 zfu (nI 0) (zup (zup σ 1 5 0) 1 3 0) := by
    unfold f_X7_read
    rw [zst_s, zst_s]
    rfl
  rw [e0]
  cases e : rdL T N 8 0 with
  | inl a =>
    rw [e] at h
    obtain ⟨σ1, a1, a2⟩ := h
    exact ⟨σ1, a1, kr.tr a2⟩
  | inr l =>
    rw [e] at h
    obtain ⟨σ1, a1, a2, a3, a4, a5⟩ := h
    exact ⟨σ1, a1, kr.tr a2, a3, a4, fun j hj => absurd hj (Nat.not_lt_zero j)⟩
end LNA
