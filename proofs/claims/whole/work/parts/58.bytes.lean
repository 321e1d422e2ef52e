/-! PURE: write -/
def btN (x : Int64) (i : Nat) : Nat := (Int64.toInt32 (x >>> (Int32.toInt64 (8 * nI i) &&& 63))).toBitVec.toNat % 2 ^ 8
theorem btA (x : Int64) (i : Nat) : (Int64.toInt32 (x >>> (Int32.toInt64 (8 * nI i) &&& 63))) &&& 255 = nI (btN x i) := pk_and _ 8 rfl
theorem btB (x : Int64) (i : Nat) : Int64.toInt32 ((x >>> (Int32.toInt64 (8 * nI i) &&& 63)) &&& (255 : Int64)) = nI (btN x i) := by
  rw [Int64.toInt32_and]
  exact btA x i
theorem btN_le (x : Int64) (i : Nat) : btN x i ≤ 255 := Nat.le_of_lt_succ (Nat.mod_lt _ (by decide))
/-- n bytes more -/
def txS (S : aS) (x : Int64) (n : Nat) : aS := fun a b => if a = 12 then (if S 11 2 ≤ b then btN x (b - S 11 2) else S 12 b) else if a = 11 ∧ b = 2 then S 11 2 + n else S a b
section TXW
variable {S : aS}
theorem txS_f {x : Int64} {n c : Nat} (h1 : c ≠ 11) (h2 : c ≠ 12) : txS S x n c = S c := funext fun b => by unfold txS; rw [if_neg h2, if_neg (fun z => h1 z.1)]
theorem txS_11 {x : Int64} {n j : Nat} (h : j ≠ 2) : txS S x n 11 j = S 11 j := by unfold txS; rw [if_neg (by decide), if_neg (fun z => h z.2)]
theorem txS_2 {x : Int64} {n : Nat} : txS S x n 11 2 = S 11 2 + n := by unfold txS; rw [if_neg (by decide), if_pos ⟨rfl, rfl⟩]
theorem txS_lo {x : Int64} {n j : Nat} (h : j < S 11 2) : txS S x n 12 j = S 12 j := by unfold txS; rw [if_pos rfl, if_neg (by omega)]
theorem txS_hi {x : Int64} {n i : Nat} : txS S x n 12 (S 11 2 + i) = btN x i := by unfold txS; rw [if_pos rfl, if_pos (by omega), Nat.add_sub_cancel_left]
theorem RA_tx {σ σ1 : zS} {x : Int64} {n : Nat} (h : RA σ S) (hk : ∀ k, k ≠ 1 → k ≠ 2 → σ1 k = σ k) (h1 : σ1 1 1 = nI (S 11 2 + n)) (hl : ∀ j, j < S 11 2 → σ1 2 j = σ 2 j) (hh : ∀ i, i < n → σ1 2 (S 11 2 + i) = nI (btN x i)) : RA σ1 (txS S x n) := by
  obtain ⟨r, ⟨n1, n2, n3, n4⟩, t, f, w⟩ := h
  refine ⟨fun q hq j hj => ?_, ⟨?_, ?_, ?_, ?_⟩, fun j hj => ?_, fun b hb => ?_, ?_⟩
  · have hall : rowsA.all (fun q => decide ((q.1 ≠ 1 ∧ q.1 ≠ 2) ∧ (q.2.1 ≠ 11 ∧ q.2.1 ≠ 12))) = true := by decide
    have e := of_decide_eq_true (List.all_eq_true.mp hall q hq)
    rw [hk _ e.1.1 e.1.2, txS_f e.2.1 e.2.2]; exact r q hq j hj
  · rw [hk 4 (by decide) (by decide), txS_11 (by decide)]; exact n1
  · rw [hk 4 (by decide) (by decide), txS_11 (by decide)]; exact n2
  · rw [h1, txS_2]
  · rw [hk 17 (by decide) (by decide), txS_11 (by decide)]; exact n4
  · rw [txS_2] at hj
    by_cases z : j < S 11 2
    · rw [hl j z, txS_lo z]; exact t j z
    · obtain ⟨i, rfl⟩ : ∃ i, j = S 11 2 + i := ⟨j - S 11 2, by omega⟩
      rw [hh i (by omega), txS_hi]
  · rw [txS_11 (by decide)] at hb
    rw [hk 25 (by decide) (by decide), hk 26 (by decide) (by decide), txS_f (by decide) (by decide), txS_f (by decide) (by decide)]; exact f b hb
  · rw [hk 15 (by decide) (by decide), hk 16 (by decide) (by decide), txS_f (c := 9) (by decide) (by decide), txS_f (c := 10) (by decide) (by decide)]; exact w
theorem RB_tx {τ τ1 : zS} {x : Int64} {n : Nat} (h : RB τ S) (hk : ∀ k, k ≠ 0 → k ≠ 4 → τ1 k = τ k) (h0 : ∀ j, j ≠ 6 → τ1 0 j = τ 0 j) (h6 : τ1 0 6 = nI (S 11 2 + n)) (hl : ∀ j, j < S 11 2 → τ1 4 j = τ 4 j) (hh : ∀ i, i < n → τ1 4 (S 11 2 + i) = nI (btN x i)) : RB τ1 (txS S x n) := by
  obtain ⟨a, b, c, ⟨d1, d2, d3, d4, d5⟩, e, f, g⟩ := h
  have hr : ∀ c, c ≠ 11 → c ≠ 12 → txS S x n c = S c := fun c h1 h2 => txS_f h1 h2
  have h3 : txS S x n 11 3 = S 11 3 := txS_11 (by decide)
  refine ⟨?_, ?_, ?_, ⟨?_, ?_, ?_, ?_, ?_⟩, fun j hj => ?_, ?_, ?_⟩
  · rw [hk 1 (by decide) (by decide), hr 1 (by decide) (by decide), hr 2 (by decide) (by decide), hr 3 (by decide) (by decide)]; exact a
  · rw [hk 3 (by decide) (by decide), hr 5 (by decide) (by decide), hr 6 (by decide) (by decide), hr 7 (by decide) (by decide), hr 8 (by decide) (by decide)]; exact b
  · rw [hk 2 (by decide) (by decide), hr 9 (by decide) (by decide), hr 10 (by decide) (by decide)]; exact c
  · rw [h0 3 (by decide), hr 4 (by decide) (by decide)]; exact d1
  · rw [h0 4 (by decide), txS_11 (by decide)]; exact d2
  · rw [h0 5 (by decide), txS_11 (by decide)]; exact d3
  · rw [h6, txS_2]
  · rw [h0 16 (by decide), h3]; exact d5
  · rw [txS_2] at hj
    by_cases z : j < S 11 2
    · rw [hl j z, txS_lo z]; exact e j z
    · obtain ⟨i, rfl⟩ : ∃ i, j = S 11 2 + i := ⟨j - S 11 2, by omega⟩
      rw [hh i (by omega), txS_hi]
  · rw [hk 6 (by decide) (by decide), h3, hr 13 (by decide) (by decide), hr 14 (by decide) (by decide), hr 15 (by decide) (by decide), hr 16 (by decide) (by decide), hr 17 (by decide) (by decide), hr 18 (by decide) (by decide), hr 19 (by decide) (by decide), hr 20 (by decide) (by decide), hr 21 (by decide) (by decide)]; exact f
  · rw [hk 17 (by decide) (by decide), hk 18 (by decide) (by decide), hr 22 (by decide) (by decide), hr 23 (by decide) (by decide)]; exact g
theorem Inv_tx {x : Int64} {n : Nat} (hI : Inv S) (hn : S 11 2 + n ≤ 200) : Inv (txS S x n) := by
  have hr : ∀ c, c ≠ 11 → c ≠ 12 → txS S x n c = S c := fun c h1 h2 => txS_f h1 h2
  have h3 : txS S x n 11 3 = S 11 3 := txS_11 (by decide)
  obtain ⟨i1, i2, i3, i4, i5, i6, i7, i8, i9⟩ := hI
  refine ⟨?_, ?_, ?_, ?_, fun j hj => ?_, ?_, ?_, ?_, ?_⟩
  · rw [hr 1 (by decide) (by decide), hr 2 (by decide) (by decide), hr 3 (by decide) (by decide)]; exact i1
  · rw [hr 4 (by decide) (by decide), hr 5 (by decide) (by decide), hr 6 (by decide) (by decide), hr 7 (by decide) (by decide), hr 8 (by decide) (by decide)]; exact i2
  · rw [hr 9 (by decide) (by decide), hr 10 (by decide) (by decide)]; exact i3
  · rw [txS_11 (j := 0) (by decide), txS_11 (j := 1) (by decide), h3, txS_2]; exact ⟨i4.1, i4.2.1, hn, i4.2.2.2⟩
  · rw [txS_2] at hj
    by_cases z : j < S 11 2
    · rw [txS_lo z]; exact i5 j z
    · obtain ⟨i, rfl⟩ : ∃ i, j = S 11 2 + i := ⟨j - S 11 2, by omega⟩
      rw [txS_hi]; exact btN_le x i
  · rw [h3, hr 13 (by decide) (by decide), hr 14 (by decide) (by decide), hr 15 (by decide) (by decide), hr 16 (by decide) (by decide), hr 17 (by decide) (by decide), hr 18 (by decide) (by decide), hr 19 (by decide) (by decide), hr 20 (by decide) (by decide), hr 21 (by decide) (by decide)]; exact i6
  · rw [h3, hr 18 (by decide) (by decide), hr 19 (by decide) (by decide)]; exact i7
  · rw [hr 22 (by decide) (by decide), hr 23 (by decide) (by decide)]; exact i8
  · rw [h3, hr 20 (by decide) (by decide)]; exact i9
theorem appL {x : Int64} {L m : Nat} (hm : m ≤ 8) (hL : L + m ≤ 200) : ∀ (d n i : Nat) (σ : zS), σ 1 1 = nI (L + i) → i + d = m → d < n → ∃ σ1, f_X7_append_L3 x (nI m) n (nI i) σ = some (nI (L + m), σ1) ∧ σ1 1 1 = nI (L + m) ∧ (∀ k, k ≠ 1 → k ≠ 2 → σ1 k = σ k) ∧ (∀ j, j < L + i → σ1 2 j = σ 2 j) ∧ ∀ k, i ≤ k → k < m → σ1 2 (L + k) = nI (btN x k)
  | 0, n + 1, i, σ, h1, h, _ => by
    have hi : i = m := by omega
    subst hi
    refine ⟨σ, ?_, h1, fun _ _ _ => rfl, fun _ _ => rfl, fun k h1 h2 => by omega⟩
    rw [f_X7_append_L3, if_pos (Int32.le_refl _), h1]
  | d + 1, n + 1, i, σ, h1, h, hn => by
    obtain ⟨σ1, a1, a2, a3, a4, a5⟩ := appL (x := x) hm hL d n (i + 1) (zup (zup σ 2 (L + i) (nI (btN x i))) 1 1 (nI (L + (i + 1)))) zup_at (by omega) (by omega)
    refine ⟨σ1, ?_, a2, fun k h1 h2 => by rw [a3 k h1 h2, zup_ne h1, zup_ne h2], fun j hj => ?_, fun k hk1 hk2 => ?_⟩
    · rw [f_X7_append_L3, if_neg (by rw [qle_n (by omega) (by omega)]; omega), h1, if_neg (by rw [q200, qle_n (by omega) (by omega)]; omega), btA, zwr_n (by omega) (by omega), zst_s, zup_ne (by decide), h1, nI_1, nI_1]
      exact a1
    · rw [a4 j (by omega), zup_ne (by decide), zup_no (by omega)]
    · by_cases z : k = i
      · rw [z, a4 (L + i) (by omega), zup_ne (by decide), zup_at]
      · exact a5 k (by omega) hk2
theorem wrBL {x : Int64} {L m : Nat} (hm : m ≤ 8) (hL : L + m ≤ 200) : ∀ (d n i : Nat) (τ : zS), τ 0 6 = nI L → i + d = m → d < n → ∃ τ1, f_X10_write_L31 x (nI m) n (nI i) τ = some (nI (L + m), τ1) ∧ τ1 0 6 = nI (L + m) ∧ (∀ j, j ≠ 6 → τ1 0 j = τ 0 j) ∧ (∀ k, k ≠ 0 → k ≠ 4 → τ1 k = τ k) ∧ (∀ j, j < L + i → τ1 4 j = τ 4 j) ∧ ∀ k, i ≤ k → k < m → τ1 4 (L + k) = nI (btN x k)
  | 0, n + 1, i, τ, h1, h, _ => by
    have hi : i = m := by omega
    subst hi
    refine ⟨zup τ 0 6 (nI (L + i)), ?_, zup_at, fun j hj => zup_no hj, fun _ h _ => zup_ne h, fun _ _ => by rw [zup_ne (by decide)], fun k h1 h2 => by omega⟩
    rw [f_X10_write_L31, if_pos (Int32.le_refl _), zst_s, h1, nI_add, zup_at]
  | d + 1, n + 1, i, τ, h1, h, hn => by
    obtain ⟨τ1, a1, a2, a6, a3, a4, a5⟩ := wrBL (x := x) hm hL d n (i + 1) (zup τ 4 (L + i) (nI (btN x i))) (by rw [zup_ne (by decide)]; exact h1) (by omega) (by omega)
    refine ⟨τ1, ?_, a2, fun j hj => by rw [a6 j hj, zup_ne (by decide)], fun k h1 h2 => by rw [a3 k h1 h2, zup_ne h2], fun j hj => ?_, fun k hk1 hk2 => ?_⟩
    · rw [f_X10_write_L31, if_neg (by rw [qle_n (by omega) (by omega)]; omega), h1, nI_add, btB, zwr_n (by omega) (by omega), nI_1]
      exact a1
    · rw [a4 j (by omega), zup_no (by omega)]
    · by_cases z : k = i
      · rw [z, a4 (L + i) (by omega), zup_at]
      · exact a5 k (by omega) hk2
theorem ag_write {σ τ : zS} (hA : RA σ S) (hB : RB τ S) (hI : Inv S) (x : Int64) (x3 : Int32) : ∃ S1, Ag (f_X9_write x x3 σ) (f_X10_write x x3 τ) S1 := by
  have hl := hI.l200
  unfold f_X9_write f_X10_write
  rw [isWithinA, inB, zbd_s, zbd_s, ifz, ifz, t1, t8]
  by_cases g : 1 ≤ x3.toInt ∧ x3.toInt ≤ 8
  · rw [if_pos g, if_pos g]
    obtain ⟨m, hm⟩ : ∃ m : Nat, m = x3.toInt.toNat := ⟨_, rfl⟩
    have ex : x3 = nI m := by rw [hm]; exact qof (by omega)
    have hm8 : 1 ≤ m ∧ m ≤ 8 := by omega
    rw [ex]
    unfold f_X7_hasRoomFor
    rw [hA.len, hB.len, q200, pk_sub (by omega), nI_add]
    by_cases c : S 11 2 + m ≤ 200
    · rw [if_neg (by rw [qlt_n (by omega) (by omega)]; omega), zbd_s, if_neg (by decide), if_pos ((qle_n (by omega) (by omega)).mpr c)]
      obtain ⟨σ1, a1, a2, a3, a4, a5⟩ := appL (x := x) hm8.2 c m zfu 0 σ (by rw [hA.len, Nat.add_zero]) (by omega) (zfu_gt (by omega))
      obtain ⟨τ1, b1, b2, b6, b3, b4, b5⟩ := wrBL (x := x) hm8.2 c m zfu 0 τ hB.len (by omega) (zfu_gt (by omega))
      have a1' : f_X7_append x (nI m) σ = some (nI (S 11 2 + m), σ1) := a1
      rw [a1', zbd_s]
      exact ⟨txS S x m, Ag.mk rfl b1 (RA_tx hA a3 a2 (fun j hj => a4 j (by omega)) (fun i hi => a5 i (Nat.zero_le i) hi)) (RB_tx hB b3 b6 b2 (fun j hj => b4 j (by omega)) (fun i hi => b5 i (Nat.zero_le i) hi)) (Inv_tx hI c)⟩
    · rw [if_pos (by rw [qlt_n (by omega) (by omega)]; omega), zbd_s, if_pos rfl, if_neg (fun z => c ((qle_n (by omega) (by omega)).mp z))]
      exact ⟨S, Ag.mk rfl rfl hA hB hI⟩
  · rw [if_neg g, if_neg g]; exact ⟨S, Ag.mk rfl rfl hA hB hI⟩
end TXW
