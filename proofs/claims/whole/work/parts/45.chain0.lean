/-! PURE: rows of strikes, the mathematics. E c b: c may be from b -/
theorem mxF_cg {p : Nat → Bool} {f g : Nat → Nat} {n : Nat} (h : ∀ u, u < n → p u = true → f u = g u) : mxF p f n = mxF p g n :=
  Nat.le_antisymm (mxF_le (fun u hu hp => by rw [h u hu hp]; exact le_mxF hu hp)) (mxF_le (fun u hu hp => by rw [← h u hu hp]; exact le_mxF hu hp))
theorem mxF_mono {p : Nat → Bool} {f g : Nat → Nat} {n : Nat} (h : ∀ u, u < n → f u ≤ g u) : mxF p f n ≤ mxF p g n :=
  mxF_le (fun u hu hp => Nat.le_trans (h u hu) (le_mxF hu hp))
theorem mxF_at {p : Nat → Bool} {f : Nat → Nat} : ∀ {n : Nat}, 0 < mxF p f n → ∃ u, u < n ∧ p u = true ∧ f u = mxF p f n
  | 0, h => absurd h (Nat.lt_irrefl 0)
  | n + 1, h => by
    rw [mxF] at h ⊢
    by_cases hp : p n = true
    · rw [if_pos hp] at h ⊢
      by_cases e : mxF p f n ≤ f n
      · exact ⟨n, by omega, hp, by omega⟩
      · obtain ⟨u, hu, h1, h2⟩ := mxF_at (p := p) (f := f) (n := n) (by omega)
        exact ⟨u, by omega, h1, by omega⟩
    · rw [if_neg hp] at h ⊢
      obtain ⟨u, hu, h1, h2⟩ := mxF_at (p := p) (f := f) (n := n) h
      exact ⟨u, by omega, h1, h2⟩
def pnu (L : Nat → Nat) (b v : Nat) : Nat → Nat := fun c => if c = b then v else L c
def stp (E : Nat → Nat → Bool) (n : Nat) (L : Nat → Nat) (b : Nat) : Nat := 1 + mxF (fun c => E c b) L n
def lenN (E : Nat → Nat → Bool) (n : Nat) : Nat → Nat → Nat
  | 0, _ => 1
  | k + 1, b => stp E n (lenN E n k) b
def Rk (E : Nat → Nat → Bool) (n : Nat) (rk : Nat → Nat) : Prop := ∀ c b, c < n → b < n → E c b = true → rk c < rk b
def Len (E : Nat → Nat → Bool) (n : Nat) : Nat → Nat := lenN E n 12
section CH
variable {E : Nat → Nat → Bool} {n : Nat} {rk : Nat → Nat}
theorem lenN_st (hr : Rk E n rk) : ∀ k b, b < n → rk b ≤ k → lenN E n (k + 1) b = lenN E n k b
  | 0, b, hb, h => by
    show 1 + mxF (fun c => E c b) (lenN E n 0) n = 1
    have : mxF (fun c => E c b) (lenN E n 0) n ≤ 0 := mxF_le (fun u hu hp => by have := hr u b hu hb hp; omega)
    omega
  | k + 1, b, hb, h => by
    show 1 + mxF (fun c => E c b) (lenN E n (k + 1)) n = 1 + mxF (fun c => E c b) (lenN E n k) n
    rw [mxF_cg (fun u hu hp => lenN_st hr k u hu (by have := hr u b hu hb hp; omega))]
theorem lenN_rk (hr : Rk E n rk) : ∀ k b, b < n → lenN E n k b ≤ rk b + 1
  | 0, b, hb => by show 1 ≤ _; omega
  | k + 1, b, hb => by
    show 1 + mxF (fun c => E c b) (lenN E n k) n ≤ _
    have : mxF (fun c => E c b) (lenN E n k) n ≤ rk b := mxF_le (fun u hu hp => by have := hr u b hu hb hp; have := lenN_rk hr k u hu; omega)
    omega
theorem Len_fix (hr : Rk E n rk) (h12 : ∀ b, b < n → rk b < 12) {b : Nat} (hb : b < n) : stp E n (Len E n) b = Len E n b := by
  show stp E n (lenN E n 12) b = stp E n (lenN E n 11) b
  unfold stp
  rw [mxF_cg (fun u hu _ => lenN_st hr 11 u hu (by have := h12 u hu; omega))]
theorem Len_pos (b : Nat) : 1 ≤ Len E n b := by
  show 1 ≤ 1 + _
  omega
/-- what the rounds keep -/
def GL (E : Nat → Nat → Bool) (n : Nat) (L : Nat → Nat) : Prop := ∀ b, b < n → 1 ≤ L b ∧ L b ≤ Len E n b ∧ L b ≤ stp E n L b
theorem GL_one : GL E n (fun _ => 1) := fun b _ => ⟨Nat.le_refl _, Len_pos b, by show 1 ≤ 1 + _; omega⟩
theorem stp_le (hr : Rk E n rk) (h12 : ∀ b, b < n → rk b < 12) {L : Nat → Nat} (h : GL E n L) {b : Nat} (hb : b < n) : stp E n L b ≤ Len E n b := by
  rw [← Len_fix hr h12 hb]
  unfold stp
  have := mxF_mono (p := fun c => E c b) (f := L) (g := Len E n) (n := n) (fun u hu => (h u hu).2.1)
  omega
theorem GL_up (hr : Rk E n rk) (h12 : ∀ b, b < n → rk b < 12) {L : Nat → Nat} (h : GL E n L) {b : Nat} (hb : b < n) : GL E n (pnu L b (stp E n L b)) ∧ ∀ c, c < n → L c ≤ pnu L b (stp E n L b) c := by
  have hm : ∀ c, c < n → L c ≤ pnu L b (stp E n L b) c := by
    intro c hc
    unfold pnu
    by_cases e : c = b
    · rw [if_pos e, e]; exact (h b hb).2.2
    · rw [if_neg e]; exact Nat.le_refl _
  have hs : ∀ c, stp E n L c ≤ stp E n (pnu L b (stp E n L b)) c := fun c => by
    have := mxF_mono (p := fun d => E d c) (n := n) hm
    unfold stp at this ⊢
    omega
  refine ⟨fun c hc => ?_, hm⟩
  have g := h c hc
  have gm := hm c hc
  have gs := hs c
  refine ⟨by omega, ?_, ?_⟩
  · unfold pnu
    by_cases e : c = b
    · rw [if_pos e, e]; exact stp_le hr h12 h hb
    · rw [if_neg e]; exact g.2.1
  · by_cases e : c = b
    · rw [show pnu L b (stp E n L b) c = stp E n L c by unfold pnu; rw [if_pos e, e]]; exact gs
    · rw [show pnu L b (stp E n L b) c = L c by unfold pnu; rw [if_neg e]]; omega
/-- right up to rank t -/
def Xa (E : Nat → Nat → Bool) (n : Nat) (rk : Nat → Nat) (t : Nat) (L : Nat → Nat) : Prop := ∀ b, b < n → rk b < t → L b = Len E n b
theorem stp_xa (hr : Rk E n rk) (h12 : ∀ b, b < n → rk b < 12) {L : Nat → Nat} {t : Nat} (hx : Xa E n rk t L) {b : Nat} (hb : b < n) (ht : rk b < t + 1) : stp E n L b = Len E n b := by
  rw [← Len_fix hr h12 hb]
  unfold stp
  rw [mxF_cg (fun u hu hp => hx u hu (by have := hr u b hu hb hp; omega))]
theorem Xa_up (hr : Rk E n rk) (h12 : ∀ b, b < n → rk b < 12) {L : Nat → Nat} (h : GL E n L) {t b : Nat} (hb : b < n) (hx : Xa E n rk t L) : Xa E n rk t (pnu L b (stp E n L b)) := by
  intro c hc ht
  have g := (GL_up hr h12 h hb)
  have g1 := g.2 c hc
  have g2 := (g.1 c hc).2.1
  have := hx c hc ht
  omega
theorem fix_Len (hr : Rk E n rk) (h12 : ∀ b, b < n → rk b < 12) {L : Nat → Nat} (h : ∀ b, b < n → stp E n L b = L b) : ∀ t, Xa E n rk t L
  | 0, b, _, h0 => absurd h0 (Nat.not_lt_zero _)
  | t + 1, b, hb, ht => by rw [← h b hb]; exact stp_xa hr h12 (fix_Len hr h12 h t) hb ht
end CH
