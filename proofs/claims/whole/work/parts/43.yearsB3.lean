/-! PURE: years in the model: forty rounds are enough; span, heirloom -/
theorem frmP_mono {P : Nat → Nat} {u : Nat} : ∀ {m i c : Nat}, frmP P u m c = true → frmP P u (m + i) c = true
  | 0, i, c, h => by rw [frmP] at h; cases h
  | m + 1, i, c, h => by
    rw [show m + 1 + i = (m + i) + 1 by omega, frmP]
    rw [frmP] at h
    by_cases a : c = 0
    · rw [if_pos a] at h; cases h
    · rw [if_neg a] at h ⊢
      by_cases b : c = u + 1
      · rw [if_pos b]
      · rw [if_neg b] at h ⊢
        exact frmP_mono h
/-- k steps up from a code -/
def itr (P : Nat → Nat) : Nat → Nat → Nat
  | 0, c => c
  | k + 1, c => itr P k (if c = 0 then 0 else P (c - 1))
theorem itr_back (P : Nat → Nat) : ∀ k c, itr P (k + 1) c = if itr P k c = 0 then 0 else P (itr P k c - 1)
  | 0, c => rfl
  | k + 1, c => by rw [itr, itr_back P k, itr]
theorem frmP_itr {P : Nat → Nat} {u : Nat} : ∀ {m c : Nat}, frmP P u m c = true → ∃ k, k < m ∧ itr P k c = u + 1
  | 0, c, h => by rw [frmP] at h; cases h
  | m + 1, c, h => by
    rw [frmP] at h
    by_cases a : c = 0
    · rw [if_pos a] at h; cases h
    · rw [if_neg a] at h
      by_cases b : c = u + 1
      · exact ⟨0, by omega, b⟩
      · rw [if_neg b] at h
        obtain ⟨k, hk, e⟩ := frmP_itr h
        exact ⟨k + 1, by omega, by rw [itr, if_neg a]; exact e⟩
theorem itr_le {P : Nat → Nat} {n : Nat} (hl : ∀ b, b < n → P b ≤ n) : ∀ {k c : Nat}, c ≤ n → itr P k c ≤ n
  | 0, c, h => h
  | k + 1, c, h => by
    rw [itr]
    split
    · exact itr_le hl (Nat.zero_le _)
    · exact itr_le hl (hl _ (by omega))
section FORTY
variable {S : aS}
abbrev Fi (S : aS) : aS := Fin6 (S 20) (ow S) (elS S) (S 11 3)
theorem AL_LL {b : Nat} (hb : b < S 11 3) : ALv (S 20) (ow S) (S 11 3) b ≤ LLv (S 20) (ow S) (elS S) (S 11 3) b := by
  have h := LL_own (S := S) (P := S 20) (o := ow S) hb
  have : ALv (S 20) (ow S) (S 11 3) b ≤ LPv (S 20) (ow S) (S 11 3) b := by unfold LPv; omega
  omega
theorem SL_AL (b : Nat) : SLv (S 20) (ow S) (S 11 3) b ≤ ALv (S 20) (ow S) (S 11 3) b := by unfold ALv; omega
theorem Cl_Fi (hI : Inv S) : Cl S (Fi S) := by
  have hF := Fo_of hI
  refine ⟨fun b p hb h => ⟨SL_dn hF hb (dn_up h), SH_dn hF hb (dn_up h)⟩, fun c b hc hb h => ⟨LL_el h, ?_⟩, fun b hb h => ⟨SL_AL b, AL_LL hb, ?_, ?_⟩, fun b hb h => ⟨?_, ?_⟩⟩
  · have : S 13 c = S 13 b := by
      unfold elS at h
      simp only [Bool.and_eq_true, decide_eq_true_eq] at h
      exact h.1
    show S 2 (S 13 c) ≤ S 2 (S 13 b)
    rw [this]
    exact Nat.le_refl _
  · show AHv (ow S) b ≤ ow S 5 b
    unfold AHv; omega
  · have h1 := SH_own (P := S 20) (o := ow S) hb
    show SHv (S 20) (ow S) (S 11 3) b ≤ AHv (ow S) b
    unfold HPv at h1; omega
  · exact Nat.le_trans (SL_AL b) (AL_LL hb)
  · have h1 := SH_own (P := S 20) (o := ow S) hb
    show SHv (S 20) (ow S) (S 11 3) b ≤ ow S 5 b
    unfold HPv AHv at h1; omega
theorem Bt_ow (hI : Inv S) : Bt S (Fi S) (ow S) := by
  intro b hb
  have h1 := SH_own (P := S 20) (o := ow S) hb
  have h2 := LL_own (S := S) (P := S 20) (o := ow S) hb
  refine ⟨SL_own hb, ?_, ?_, Nat.le_refl _, fun _ => ⟨?_, ?_⟩⟩
  · show ow S 4 b ≤ LLv (S 20) (ow S) (elS S) (S 11 3) b
    unfold LPv at h2; omega
  · show SHv (S 20) (ow S) (S 11 3) b ≤ ow S 1 b
    unfold HPv at h1; omega
  · show ow S 2 b ≤ ALv (S 20) (ow S) (S 11 3) b
    unfold ALv; omega
  · show AHv (ow S) b ≤ ow S 3 b
    unfold AHv; omega
/-- behind t rounds -/
def St (S : aS) (t : Nat) (v : aS) : Prop :=
  Lev (ow S) v ∧ Bt S (Fi S) v ∧ (∀ c u, c < S 11 3 → frmP (S 20) u t (S 20 c) = true → ow S 0 u ≤ v 0 c) ∧
  (13 ≤ t → ∀ b, b < S 11 3 → 0 < S 19 b → ALv (S 20) (ow S) (S 11 3) b ≤ v 2 b) ∧ (14 ≤ t → ∀ b, b < S 11 3 → LPv (S 20) (ow S) (S 11 3) b ≤ v 4 b) ∧ (15 ≤ t → ∀ b, b < S 11 3 → LLv (S 20) (ow S) (elS S) (S 11 3) b ≤ v 4 b) ∧
  (1 ≤ t → ∀ b, b < S 11 3 → 0 < S 19 b → v 3 b ≤ AHv (ow S) b) ∧ (2 ≤ t → ∀ b, b < S 11 3 → v 1 b ≤ HPv (ow S) b) ∧ (∀ s, t = s + 2 → ∀ c u k, c < S 11 3 → k < s → itr (S 20) k (S 20 c) = u + 1 → v 1 u ≤ HPv (ow S) c)
theorem St0 (hI : Inv S) : St S 0 (ow S) := by
  refine ⟨Lev.rf _, Bt_ow hI, fun c u _ h => ?_, fun h => by omega, fun h => by omega, fun h => by omega, fun h => by omega, fun h => by omega, fun s h => by omega⟩
  rw [frmP] at h; cases h
theorem SL_of (hI : Inv S) {t : Nat} {v : aS} (h : St S t v) (ht : 12 ≤ t) {b : Nat} (hb : b < S 11 3) : SLv (S 20) (ow S) (S 11 3) b ≤ v 0 b := by
  refine mxF_le (fun u hu hd => ?_)
  unfold dn at hd
  simp only [Bool.or_eq_true, decide_eq_true_eq] at hd
  rcases hd with rfl | hd
  · exact (h.1 0 b).1 rfl
  · refine h.2.2.1 b u hb ?_
    have := frmP_mono (i := t - 12) hd
    rw [show 12 + (t - 12) = t by omega] at this
    exact this
theorem nr_2 {b : Nat} (h : S 19 b = 0) : ow S 2 b = 0 ∧ ow S 3 b = 9999 := by
  constructor
  · show rF _ _ = _; unfold rF; rw [if_pos h]
  · show rL _ _ = _; unfold rL; rw [if_pos h]
theorem StS (hI : Inv S) {t : Nat} {v v1 : aS} (h : St S t v) (hl : Lev v v1) (hR : Rd S v v1 0) (hG : ∀ G, Cl S G → Bt S G v → Bt S G v1) : St S (t + 1) v1 := by
  have hF := Fo_of hI
  obtain ⟨s1, s2, s3, s4, s5, s6, s7, s8, s9⟩ := id h
  have l1 := s1.tr hl
  have ho : ∀ k b, b < S 11 3 → ow S k b ≤ 9999 := fun k b hb => ow_le hI hb
  refine ⟨l1, hG _ (Cl_Fi hI) s2, fun c u hc hu => ?_, fun ht b hb hz => ?_, fun ht b hb => ?_, fun ht b hb => ?_, fun ht b hb hz => ?_, fun ht b hb => ?_, fun s hs c u k hc hk hu => ?_⟩
  · rw [frmP] at hu
    by_cases e : S 20 c = 0
    · rw [if_pos e] at hu; cases hu
    · rw [if_neg e] at hu
      have hp : S 20 c - 1 < S 11 3 := by have := hI.fl20 c hc; omega
      have hr := (((hR c (Nat.zero_le _) hc).1 (S 20 c - 1) hp).1 (by omega)).1
      by_cases e2 : S 20 c = u + 1
      · have : u = S 20 c - 1 := by omega
        rw [this]
        exact Nat.le_trans ((s1 0 _).1 rfl) hr
      · rw [if_neg e2] at hu
        exact Nat.le_trans (s3 _ u hp hu) hr
  · have a := SL_of hI h (by omega) hb
    have r := ((hR b (Nat.zero_le _) hb).2.1 hz).1
    have q := (l1 2 b).1 rfl
    unfold ALv; omega
  · by_cases hz : 0 < S 19 b
    · have a := s4 (by omega) b hb hz
      have r := ((hR b (Nat.zero_le _) hb).2.1 hz).2.1
      have q := (l1 4 b).1 rfl
      unfold LPv; omega
    · have a := SL_of hI h (by omega) hb
      have r := ((hR b (Nat.zero_le _) hb).2.2 (by omega)).1
      have q := (l1 4 b).1 rfl
      have z := (nr_2 (S := S) (b := b) (by omega)).1
      unfold LPv ALv; omega
  · refine mxF_le (fun c hc hp => ?_)
    simp only [Bool.or_eq_true, decide_eq_true_eq] at hp
    rcases hp with rfl | hp
    · exact Nat.le_trans (s5 (by omega) c hc) ((hl 4 c).1 rfl)
    · exact Nat.le_trans (s5 (by omega) c hc) (((hR c (Nat.zero_le _) hc).1 b hb).2 hp).1
  · have r := ((hR b (Nat.zero_le _) hb).2.1 hz).2.2.1
    have q3 := (l1 3 b).2 rfl
    have q5 := (s1 5 b).2 rfl
    unfold AHv; omega
  · have q1 := (l1 1 b).2 rfl
    have q5 := (s1 5 b).2 rfl
    by_cases hz : 0 < S 19 b
    · have a := s7 (by omega) b hb hz
      have r := ((hR b (Nat.zero_le _) hb).2.1 hz).2.2.2
      unfold HPv; omega
    · have r := ((hR b (Nat.zero_le _) hb).2.2 (by omega)).2
      have z := (nr_2 (S := S) (b := b) (by omega)).2
      have o5 := ho 5 b hb
      unfold HPv AHv; omega
  · have hi := hI.fl20 c hc
    cases k with
    | zero =>
      have h1 : S 20 c = u + 1 := hu
      have hu3 : u < S 11 3 := by omega
      have r := (((hR c (Nat.zero_le _) hc).1 u hu3).1 h1).2
      exact Nat.le_trans r (s8 (by omega) c hc)
    | succ k =>
      rw [itr_back] at hu
      by_cases e : itr (S 20) k (S 20 c) = 0
      · rw [if_pos e] at hu; omega
      · rw [if_neg e] at hu
        have hl := itr_le hI.fl20 (k := k) hi
        have w1 : itr (S 20) k (S 20 c) - 1 < S 11 3 := by omega
        have hu3 : u < S 11 3 := by have := hI.fl20 _ w1; omega
        have r := (((hR _ (Nat.zero_le _) w1).1 u hu3).1 hu).2
        exact Nat.le_trans r (s9 (s - 1) (by omega) c _ k hc (by omega) (by omega))
theorem fortyB (hI : Inv S) : ∀ (d n t : Nat) (τ : zS) (v : aS), Wy S τ v → St S t v → t + d = 40 → d < n →
    ∃ τ1 v1, f_X10_areYears_L23 n (nI t) τ = f_X10_areYears_L43 zfu 1 0 τ1 ∧ Wy S τ1 v1 ∧ (∀ k, k < 7 ∨ 12 < k → τ1 k = τ k) ∧ St S 40 v1
  | 0, n + 1, t, τ, v, hY, hS, h, _ => by
    have ht : t = 40 := by omega
    rw [ht] at hS ⊢
    refine ⟨τ, v, ?_, hY, fun _ _ => rfl, hS⟩
    rw [f_X10_areYears_L23, if_pos (by decide)]
  | d + 1, n + 1, t, τ, v, hY, hS, h, hn => by
    obtain ⟨τ1, v1, e1, e2, e3, e4, e5, e6⟩ := roundB hI hY
    obtain ⟨τ2, v2, f1, f2, f3, f4⟩ := fortyB hI d n (t + 1) τ1 v1 e2 (StS hI hS e4 e5 e6) (by omega) (by omega)
    refine ⟨τ2, v2, ?_, f2, fun k hk => by rw [f3 k hk, e3 k hk], f4⟩
    rw [f_X10_areYears_L23, if_neg (by show ¬ nI 40 ≤ nI t; rw [qle_n (by omega) (by omega)]; omega), e1, zbd_s, nI_1]
    exact f1
theorem FinSt (hI : Inv S) {v : aS} (h : St S 40 v) {b : Nat} (hb : b < S 11 3) : v 0 b = SLv (S 20) (ow S) (S 11 3) b ∧ v 1 b = SHv (S 20) (ow S) (S 11 3) b ∧ v 4 b = LLv (S 20) (ow S) (elS S) (S 11 3) b ∧ v 5 b = ow S 5 b ∧ (0 < S 19 b → v 2 b = ALv (S 20) (ow S) (S 11 3) b ∧ v 3 b = AHv (ow S) b) := by
  have a := SL_of hI h (by omega) hb
  obtain ⟨s1, s2, s3, s4, s5, s6, s7, s8, s9⟩ := h
  obtain ⟨g1, g2, g3, g4, g5⟩ := s2 b hb
  have h5 : v 5 b ≤ ow S 5 b := (s1 5 b).2 rfl
  have hw : v 1 b ≤ 9999 := Nat.le_trans (s8 (by omega) b hb) (HP_le hb (fun k b hb => ow_le hI hb))
  have hsh : v 1 b ≤ SHv (S 20) (ow S) (S 11 3) b := by
    refine le_mnF hw (fun c hc hd => ?_)
    unfold dn at hd
    simp only [Bool.or_eq_true, decide_eq_true_eq] at hd
    rcases hd with rfl | hd
    · exact s8 (by omega) c hc
    · obtain ⟨k, hk, hu⟩ := frmP_itr hd
      exact s9 38 rfl c b k hc (by omega) hu
  refine ⟨Nat.le_antisymm g1 a, Nat.le_antisymm hsh g3, Nat.le_antisymm g2 (s6 (by omega) b hb), Nat.le_antisymm h5 g4, fun hz => ⟨Nat.le_antisymm (g5 hz).1 (s4 (by omega) b hb hz), Nat.le_antisymm (s7 (by omega) b hb hz) (g5 hz).2⟩⟩
/-- the ends, as the model has them -/
def FB (S : aS) (τ : zS) : Prop := ∀ b, b < S 11 3 → τ 7 b = nI (SLv (S 20) (ow S) (S 11 3) b) ∧ τ 8 b = nI (SHv (S 20) (ow S) (S 11 3) b) ∧ τ 11 b = nI (LLv (S 20) (ow S) (elS S) (S 11 3) b) ∧ τ 12 b = nI (ow S 5 b) ∧ (0 < S 19 b → τ 9 b = nI (ALv (S 20) (ow S) (S 11 3) b) ∧ τ 10 b = nI (AHv (ow S) b))
theorem yearsL43_0 (hI : Inv S) {τ : zS} (hB : RB τ S) : ∀ (d n b : Nat), b + d = S 11 3 → d < n → f_X10_areYears_L43 n 0 (nI b) τ = some (0, τ)
  | 0, n + 1, b, h, _ => by
    have hb : b = S 11 3 := by omega
    rw [f_X10_areYears_L43, hB.many, hb, if_pos (Int32.le_refl _)]
    exact if_pos (by decide)
  | d + 1, n + 1, b, h, hn => by
    have h12 := hI.n12
    rw [f_X10_areYears_L43, hB.many, if_neg (by rw [qle_n (by omega) (by omega)]; omega), if_pos rfl, f_X10_areYears_J112, nI_1]
    exact yearsL43_0 hI hB d n (b + 1) (by omega) (by omega)
theorem yearsL43 (hI : Inv S) {τ : zS} (hB : RB τ S) (hF : FB S τ) : ∀ (d n b : Nat), b + d = S 11 3 → d < n → f_X10_areYears_L43 n 1 (nI b) τ = some (if alD (wayb (S 20) (ow S) (elS S) (S 11 3)) d b = true then 1 else 0, τ)
  | 0, n + 1, b, h, _ => by
    have hb : b = S 11 3 := by omega
    rw [f_X10_areYears_L43, hB.many, hb, if_pos (Int32.le_refl _)]
    exact if_pos (by decide)
  | d + 1, n + 1, b, h, hn => by
    have h12 := hI.n12
    have hb : b < S 11 3 := by omega
    have ho : ∀ k b, b < S 11 3 → ow S k b ≤ 9999 := fun k b hb => ow_le hI hb
    have ih := yearsL43 hI hB hF d n (b + 1) (by omega) (by omega)
    have z0 := yearsL43_0 hI hB d n (b + 1) (by omega) (by omega)
    obtain ⟨f0, f1, f4, f5, f2⟩ := hF b hb
    have l0 := SL_le (P := S 20) (b := b) ho
    have l1 : SHv (S 20) (ow S) (S 11 3) b ≤ 9999 := mnF_top _ _ _
    have l2 := AL_le (P := S 20) hb ho
    have l3 : AHv (ow S) b ≤ 9999 := by have := ho 3 b hb; unfold AHv; omega
    have l4 := LL_le (P := S 20) (el := elS S) (b := b) ho
    have l5 := ho 5 b hb
    rw [f_X10_areYears_L43, hB.many, if_neg (by rw [qle_n (by omega) (by omega)]; omega), if_neg (by decide), zrd_n (by omega) (by omega), f0, zrd_n (by omega) (by omega), f1, zrd_n (by omega) (by omega), f4, zrd_n (by omega) (by omega), f5, reusedB hB hI hb, zbd_s, ifz, f_X10_areYears_J112, nI_1, z0, ih, alD]
    unfold wayb
    by_cases c1 : SHv (S 20) (ow S) (S 11 3) b < SLv (S 20) (ow S) (S 11 3) b
    · rw [if_pos ((qlt_n (by omega) (by omega)).mpr c1), if_neg (by simp; omega)]
    rw [if_neg (fun z => c1 ((qlt_n (by omega) (by omega)).mp z))]
    have e1 : decide (SLv (S 20) (ow S) (S 11 3) b ≤ SHv (S 20) (ow S) (S 11 3) b) = true := by simp; omega
    by_cases c3 : ow S 5 b < LLv (S 20) (ow S) (elS S) (S 11 3) b
    · rw [if_pos ((qlt_n (by omega) (by omega)).mpr c3), if_neg (by simp; omega)]
    rw [if_neg (fun z => c3 ((qlt_n (by omega) (by omega)).mp z))]
    have e3 : decide (LLv (S 20) (ow S) (elS S) (S 11 3) b ≤ ow S 5 b) = true := by simp; omega
    by_cases hz : 0 < S 19 b
    · obtain ⟨f2a, f3a⟩ := f2 hz
      rw [if_pos hz, zrd_n (by omega) (by omega), f2a, zrd_n (by omega) (by omega), f3a]
      by_cases c2 : AHv (ow S) b < ALv (S 20) (ow S) (S 11 3) b
      · rw [if_pos ((qlt_n (by omega) (by omega)).mpr c2), if_neg (by simp; omega)]
      rw [if_neg (fun z => c2 ((qlt_n (by omega) (by omega)).mp z))]
      have e2 : decide (ALv (S 20) (ow S) (S 11 3) b ≤ AHv (ow S) b) = true := by simp; omega
      rw [e1, e2, e3]
      rfl
    · rw [if_neg hz]
      have hal := AL_LL (S := S) hb
      have z3 := (nr_2 (S := S) (b := b) (by omega)).2
      have e2 : decide (ALv (S 20) (ow S) (S 11 3) b ≤ AHv (ow S) b) = true := by simp; unfold AHv; omega
      rw [e1, e2, e3]
      rfl
theorem beginAll (hI : Inv S) : ∀ (d n b : Nat) (τ : zS), RB τ S → (∀ k c, k < 6 → c < b → τ (7 + k) c = nI (ow S k c)) → b + d = S 11 3 → d < n → ∃ τ1, f_X10_areYears_L2 n (nI b) τ = f_X10_areYears_L23 zfu 0 τ1 ∧ RB τ1 S ∧ (∀ k, k < 7 ∨ 12 < k → τ1 k = τ k) ∧ MB τ1 (ow S) (S 11 3)
  | 0, n + 1, b, τ, hB, hM, h, _ => by
    have hb : b = S 11 3 := by omega
    refine ⟨τ, ?_, hB, fun _ _ => rfl, fun k c hk hc => hM k c hk (by omega)⟩
    rw [f_X10_areYears_L2, hB.many, hb, if_pos (Int32.le_refl _)]
  | d + 1, n + 1, b, τ, hB, hM, h, hn => by
    have h12 := hI.n12
    have hb : b < S 11 3 := by omega
    obtain ⟨τ1, e1, e2, e3, e4⟩ := beginB hB hI hb
    obtain ⟨τ2, f1, f2, f3, f4⟩ := beginAll hI d n (b + 1) τ1 (RB_712 hB e2) (fun k c hk hc => by
      by_cases ec : c = b
      · rw [ec]; exact e4 k hk
      · rw [e3 _ c ec]; exact hM k c hk (by omega)) (by omega) (by omega)
    refine ⟨τ2, ?_, f2, fun k hk => by rw [f3 k hk, e2 k hk], f4⟩
    rw [f_X10_areYears_L2, hB.many, if_neg (by rw [qle_n (by omega) (by omega)]; omega), e1, zbd_s, nI_1]
    exact f1
theorem yearsB (hI : Inv S) {τ : zS} (hB : RB τ S) : ∃ τ1, f_X10_areYears τ = some (if wayv (S 20) (ow S) (elS S) (S 11 3) = true then 1 else 0, τ1) ∧ RB τ1 S ∧ (∀ k, k < 7 ∨ 12 < k → τ1 k = τ k) ∧ FB S τ1 := by
  have h12 := hI.n12
  obtain ⟨τ1, e1, e2, e3, e4⟩ := beginAll hI (S 11 3) zfu 0 τ hB (fun k c _ hc => absurd hc (Nat.not_lt_zero c)) (by omega) (zfu_gt (by omega))
  obtain ⟨τ2, v2, f1, f2, f3, f4⟩ := fortyB hI 40 zfu 0 τ1 (ow S) ⟨e2, e4, fun k b hb => ow_le hI hb⟩ (St0 hI) (by omega) (zfu_gt (by omega))
  have hF : FB S τ2 := by
    intro b hb
    obtain ⟨g0, g1, g4, g5, g2⟩ := FinSt hI f4 hb
    refine ⟨?_, ?_, ?_, ?_, fun hz => ⟨?_, ?_⟩⟩
    · rw [← g0]; exact f2.2.1 0 b (by omega) hb
    · rw [← g1]; exact f2.2.1 1 b (by omega) hb
    · rw [← g4]; exact f2.2.1 4 b (by omega) hb
    · rw [← g5]; exact f2.2.1 5 b (by omega) hb
    · rw [← (g2 hz).1]; exact f2.2.1 2 b (by omega) hb
    · rw [← (g2 hz).2]; exact f2.2.1 3 b (by omega) hb
  refine ⟨τ2, ?_, f2.1, fun k hk => by rw [f3 k hk, e3 k hk], hF⟩
  have hw := yearsL43 hI f2.1 hF (S 11 3) zfu 0 (by omega) (zfu_gt (by omega))
  unfold wayv
  rw [← alD_all]
  exact (e1.trans f1).trans hw
theorem Pw0 : Pw S 0 = S 20 := funext fun b => if_neg (by omega)
theorem isReusedA {σ : zS} (hA : RA σ S) (hI : Inv S) {b : Nat} (hb : b < S 11 3) : f_X0_isReused (nI b) σ = some (if 0 < S 19 b then 1 else 0, σ) := by
  have h12 := hI.n12
  have h19 := (hI.bl hb).2.2.2.2.2.2.2.2.1
  unfold f_X0_isReused
  rw [zrd_n (by omega) (by omega), hA.row 24 19 12 (by decide) (by omega)]
  by_cases h : 0 < S 19 b
  · rw [if_neg (by rw [q0, qle_n (by omega) (by omega)]; omega), if_pos h]
  · rw [if_pos (by rw [q0, qle_n (by omega) (by omega)]; omega), if_neg h]
theorem settleF (hI : Inv S) {σ : zS} (hA : RA σ S) : ∃ σ1, f_X8_settle σ = some (if wayv (S 20) (ow S) (elS S) (S 11 3) = true then 1 else 0, σ1) ∧ RA σ1 S ∧ WB σ1 (Fi S) (S 11 3) ∧ OB S σ1 (S 11 3) := by
  obtain ⟨σ1, a1, a2, a3, a4⟩ := settle0 hI hA
  rw [Pw0] at a1 a3
  exact ⟨σ1, a1, RA_29 hA a2, a3, a4⟩
theorem spanA {σ σ1 : zS} (hA : RA σ S) (hI : Inv S) (a1 : f_X8_settle σ = some (if wayv (S 20) (ow S) (elS S) (S 11 3) = true then 1 else 0, σ1)) (a3 : WB σ1 (Fi S) (S 11 3)) {b k : Nat} (hb : b < S 11 3) (hk : k < 6) :
    (if nI k = 2 then f_X9_span_J41 (nI b) (nI k) 1 σ else if nI k = 3 then f_X9_span_J41 (nI b) (nI k) 1 σ else f_X9_span_J41 (nI b) (nI k) 0 σ) = if (k = 2 ∨ k = 3) ∧ S 19 b = 0 then some (-1, σ) else if wayv (S 20) (ow S) (elS S) (S 11 3) = true then some (nI (Fi S k b), σ1) else some (-1, σ1) := by
  have h12 := hI.n12
  have hJ : f_X9_span_J59 (nI b) (nI k) σ = if wayv (S 20) (ow S) (elS S) (S 11 3) = true then some (nI (Fi S k b), σ1) else some (-1, σ1) := by
    unfold f_X9_span_J59
    rw [a1, zbd_s, ifz, boundA (k := k) rfl hk (by omega), zbd_s, a3 k b hk hb]
  have j1 : f_X9_span_J41 (nI b) (nI k) 1 σ = if 0 < S 19 b then f_X9_span_J59 (nI b) (nI k) σ else some (-1, σ) := by
    unfold f_X9_span_J41
    rw [if_neg (by decide), isReusedA hA hI hb, zbd_s, ifz]
  have j0 : f_X9_span_J41 (nI b) (nI k) 0 σ = f_X9_span_J59 (nI b) (nI k) σ := by
    unfold f_X9_span_J41
    rw [if_pos rfl]
  rw [j1, j0, hJ]
  by_cases e2 : k = 2
  · rw [if_pos (by rw [e2]; rfl)]
    by_cases hz : 0 < S 19 b
    · rw [if_pos hz, if_neg (show ¬ ((k = 2 ∨ k = 3) ∧ S 19 b = 0) by omega)]
    · rw [if_neg hz, if_pos (show ((k = 2 ∨ k = 3) ∧ S 19 b = 0) by omega)]
  · rw [if_neg (by rw [q2, qeq_n (by omega) (by omega)]; exact e2)]
    by_cases e3 : k = 3
    · rw [if_pos (by rw [e3]; rfl)]
      by_cases hz : 0 < S 19 b
      · rw [if_pos hz, if_neg (show ¬ ((k = 2 ∨ k = 3) ∧ S 19 b = 0) by omega)]
      · rw [if_neg hz, if_pos (show ((k = 2 ∨ k = 3) ∧ S 19 b = 0) by omega)]
    · rw [if_neg (by rw [q3, qeq_n (by omega) (by omega)]; exact e3), if_neg (show ¬ ((k = 2 ∨ k = 3) ∧ S 19 b = 0) by omega)]
theorem ag_span {σ τ : zS} (hA : RA σ S) (hB : RB τ S) (hI : Inv S) (x1 x2 : Int32) : Ag (f_X9_span x1 x2 σ) (f_X10_span x1 x2 τ) S := by
  have h12 := hI.n12
  obtain ⟨σ1, a1, a2, a3, a4⟩ := settleF hI hA
  obtain ⟨τ1, b1, b2, b3, b4⟩ := yearsB hI hB
  unfold f_X9_span f_X10_span
  rw [hasA hA hI, isBladeB hB hI, zbd_s, zbd_s, ifz, ifz, isWithinA, inB, zbd_s, zbd_s, ifz, ifz, t0, t5]
  by_cases h : vd x1 (S 11 3)
  · rw [if_pos h, if_pos h]
    by_cases g : 0 ≤ x2.toInt ∧ x2.toInt ≤ 5
    · rw [if_pos g, if_pos g]
      obtain ⟨b, hb, rfl⟩ := vd_of h
      obtain ⟨k, hk⟩ : ∃ k : Nat, k = x2.toInt.toNat := ⟨_, rfl⟩
      have ex : x2 = nI k := by rw [hk]; exact qof g.1
      have hk6 : k < 6 := by omega
      rw [ex, b1, zbd_s, ifz, spanA hA hI a1 a3 hb hk6]
      have hb12 : b < 12 := by omega
      obtain ⟨f0, f1, f4, f5, f2⟩ := b4 b hb
      by_cases hw : wayv (S 20) (ow S) (elS S) (S 11 3) = true
      · rw [if_pos hw, if_pos hw]
        have ne : ∀ m, m < 6 → m ≠ k → ¬ nI k = nI m := fun m hm he => by rw [qeq_n (by omega) (by omega)]; exact fun z => he z.symm
        rcases (show k = 0 ∨ k = 1 ∨ k = 2 ∨ k = 3 ∨ k = 4 ∨ k = 5 by omega) with e | e | e | e | e | e
        · rw [if_neg (show ¬ ((k = 2 ∨ k = 3) ∧ S 19 b = 0) by omega), e, if_pos (show nI 0 = 0 from rfl), zrd_n hb12 (by omega), f0]
          exact Ag.mk rfl rfl a2 b2 hI
        · rw [if_neg (show ¬ ((k = 2 ∨ k = 3) ∧ S 19 b = 0) by omega), e, if_neg (by decide), if_pos (show nI 1 = 1 from rfl), zrd_n hb12 (by omega), f1]
          exact Ag.mk rfl rfl a2 b2 hI
        · rw [e, if_neg (show ¬ nI 2 = 0 by decide), if_neg (show ¬ nI 2 = 1 by decide), if_pos (show nI 2 = 2 from rfl), reusedB b2 hI hb, zbd_s, ifz]
          by_cases hz : 0 < S 19 b
          · rw [if_pos hz, if_neg (by omega), zrd_n hb12 (by omega), (f2 hz).1]; exact Ag.mk rfl rfl a2 b2 hI
          · rw [if_neg hz, if_pos (by omega)]; exact Ag.mk rfl rfl hA b2 hI
        · rw [e, if_neg (show ¬ nI 3 = 0 by decide), if_neg (show ¬ nI 3 = 1 by decide), if_neg (show ¬ nI 3 = 2 by decide), if_pos (show nI 3 = 3 from rfl), reusedB b2 hI hb, zbd_s, ifz]
          by_cases hz : 0 < S 19 b
          · rw [if_pos hz, if_neg (by omega), zrd_n hb12 (by omega), (f2 hz).2]; exact Ag.mk rfl rfl a2 b2 hI
          · rw [if_neg hz, if_pos (by omega)]; exact Ag.mk rfl rfl hA b2 hI
        · rw [if_neg (show ¬ ((k = 2 ∨ k = 3) ∧ S 19 b = 0) by omega), e, if_neg (by decide), if_neg (by decide), if_neg (by decide), if_neg (by decide), if_pos (show nI 4 = 4 from rfl), zrd_n hb12 (by omega), f4]
          exact Ag.mk rfl rfl a2 b2 hI
        · rw [if_neg (show ¬ ((k = 2 ∨ k = 3) ∧ S 19 b = 0) by omega), e, if_neg (by decide), if_neg (by decide), if_neg (by decide), if_neg (by decide), if_neg (by decide), zrd_n hb12 (by omega), f5]
          exact Ag.mk rfl rfl a2 b2 hI
      · rw [if_neg hw, if_neg hw]
        by_cases hc : (k = 2 ∨ k = 3) ∧ S 19 b = 0
        · rw [if_pos hc]; exact Ag.mk rfl rfl hA b2 hI
        · rw [if_neg hc]; exact Ag.mk rfl rfl a2 b2 hI
    · rw [if_neg g, if_neg g]; exact Ag.mk rfl rfl hA hB hI
  · rw [if_neg h, if_neg h]; exact Ag.mk rfl rfl hA hB hI
/-- the answer of heirloom -/
def hvN (lo hi ll lh : Nat) : Int32 := if ll ≤ hi then (if lh ≤ lo then 0 else 1) else 2
theorem hvN_i {lo hi ll lh : Nat} (h1 : lo < 100000) (h2 : hi < 100000) (h3 : ll < 100000) (h4 : lh < 100000) (σ : zS) : (if nI ll ≤ nI hi then if nI lh ≤ nI lo then some ((0 : Int32), σ) else some (1, σ) else some (2, σ)) = some (hvN lo hi ll lh, σ) := by
  unfold hvN
  by_cases a : ll ≤ hi
  · rw [if_pos ((qle_n (by omega) (by omega)).mpr a), if_pos a]
    by_cases b : lh ≤ lo
    · rw [if_pos ((qle_n (by omega) (by omega)).mpr b), if_pos b]
    · rw [if_neg (fun z => b ((qle_n (by omega) (by omega)).mp z)), if_neg b]
  · rw [if_neg (fun z => a ((qle_n (by omega) (by omega)).mp z)), if_neg a]
theorem ag_heirloom {σ τ : zS} (hA : RA σ S) (hB : RB τ S) (hI : Inv S) (x1 : Int32) : Ag (f_X9_heirloom x1 σ) (f_X10_heirloom x1 τ) S := by
  have h12 := hI.n12
  have ho : ∀ k b, b < S 11 3 → ow S k b ≤ 9999 := fun k b hb => ow_le hI hb
  obtain ⟨σ1, a1, a2, a3, a4⟩ := settleF hI hA
  obtain ⟨τ1, b1, b2, b3, b4⟩ := yearsB hI hB
  unfold f_X9_heirloom f_X10_heirloom
  rw [hasA hA hI, isBladeB hB hI, zbd_s, zbd_s, ifz, ifz, a1, b1, zbd_s, zbd_s, ifz, ifz]
  by_cases h : vd x1 (S 11 3)
  · rw [if_pos h, if_pos h]
    obtain ⟨b, hb, rfl⟩ := vd_of h
    have hb12 : b < 12 := by omega
    by_cases hw : wayv (S 20) (ow S) (elS S) (S 11 3) = true
    · rw [if_pos hw, if_pos hw]
      obtain ⟨f0, f1, f4, f5, f2⟩ := b4 b hb
      have l0 := SL_le (P := S 20) (b := b) ho
      have l1 : SHv (S 20) (ow S) (S 11 3) b ≤ 9999 := mnF_top _ _ _
      have l2 := AL_le (P := S 20) hb ho
      have l3 : AHv (ow S) b ≤ 9999 := by have := ho 3 b hb; unfold AHv; omega
      have l4 := LL_le (P := S 20) (el := elS S) (b := b) ho
      have l5 := ho 5 b hb
      have w0 : σ1 30 (12 * 0 + b) = nI (SLv (S 20) (ow S) (S 11 3) b) := a3 0 b (by omega) hb
      have w1 : σ1 30 (12 * 1 + b) = nI (SHv (S 20) (ow S) (S 11 3) b) := a3 1 b (by omega) hb
      have w2 : σ1 30 (12 * 2 + b) = nI (ALv (S 20) (ow S) (S 11 3) b) := a3 2 b (by omega) hb
      have w3 : σ1 30 (12 * 3 + b) = nI (AHv (ow S) b) := a3 3 b (by omega) hb
      have w4 : σ1 30 (12 * 4 + b) = nI (LLv (S 20) (ow S) (elS S) (S 11 3) b) := a3 4 b (by omega) hb
      have w5 : σ1 30 (12 * 5 + b) = nI (ow S 5 b) := a3 5 b (by omega) hb
      have j34 : ∀ (lo : Nat) (s0 : Int32) (m hi : Nat), s0 = nI m → m < 6 → σ1 30 (12 * m + b) = nI hi → lo < 100000 → hi < 100000 → f_X8_heirloomOf_J34 (nI b) (nI lo) s0 σ1 = some (hvN lo hi (LLv (S 20) (ow S) (elS S) (S 11 3) b) (ow S 5 b), σ1) := by
        intro lo s0 m hi e1 e2 e3 e4 e5
        unfold f_X8_heirloomOf_J34
        rw [boundA e1 e2 hb12, zbd_s, e3, boundA (x := 4) (k := 4) rfl (by omega) hb12, zbd_s, w4, boundA (x := 5) (k := 5) rfl (by omega) hb12, zbd_s, w5]
        exact hvN_i e4 e5 (by omega) (by omega) σ1
      have j67 : ∀ (lo hi : Nat), lo < 100000 → hi < 100000 → f_X10_heirloom_J67 (nI b) (nI lo) (nI hi) τ1 = some (hvN lo hi (LLv (S 20) (ow S) (elS S) (S 11 3) b) (ow S 5 b), τ1) := by
        intro lo hi e4 e5
        unfold f_X10_heirloom_J67
        rw [zrd_n hb12 (by omega), f4, zrd_n hb12 (by omega), f5]
        exact hvN_i e4 e5 (by omega) (by omega) τ1
      rw [f_X8_heirloomOf, isReusedA a2 hI hb, zbd_s, reusedB b2 hI hb, zbd_s, ifz, ifz]
      by_cases hz : 0 < S 19 b
      · obtain ⟨f2a, f3a⟩ := f2 hz
        rw [if_pos hz, if_pos hz, if_pos hz, f_X8_heirloomOf_J19, boundA (x := 2) (k := 2) rfl (by omega) hb12, zbd_s, w2, if_neg (by decide), j34 _ 3 3 _ rfl (by omega) w3 (by omega) (by omega), zbd_s, zrd_n hb12 (by omega), f2a, f_X10_heirloom_J43, reusedB b2 hI hb, zbd_s, ifz, if_pos hz, zrd_n hb12 (by omega), f3a, j67 _ _ (by omega) (by omega)]
        exact Ag.mk rfl rfl a2 b2 hI
      · rw [if_neg hz, if_neg hz, if_neg hz, f_X8_heirloomOf_J19, boundA (x := 0) (k := 0) rfl (by omega) hb12, zbd_s, w0, if_pos rfl, j34 _ 1 1 _ rfl (by omega) w1 (by omega) (by omega), zbd_s, zrd_n hb12 (by omega), f0, f_X10_heirloom_J43, reusedB b2 hI hb, zbd_s, ifz, if_neg hz, zrd_n hb12 (by omega), f1, j67 _ _ (by omega) (by omega)]
        exact Ag.mk rfl rfl a2 b2 hI
    · rw [if_neg hw, if_neg hw]; exact Ag.mk rfl rfl a2 b2 hI
  · rw [if_neg h, if_neg h]; exact Ag.mk rfl rfl hA hB hI
end FORTY
