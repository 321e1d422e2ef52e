/-! the law: what stands still, what goes along -/
def LwC (p : Program) (s : State) (m : MethodId) (c : Code) (b L : Nat) (xs : Nat → Int32) (GA GB : zG) : Prop :=
  CallFix p m c code 4 s #[Value.ref b] zT RL ∧ va_X b L xs s s.heap ∧ b < s.heap.size ∧ L ≤ 3072 ∧
  (va_K (gD GA) zcl (ztys GA) s ∧ (∀ σ, va_D (fun q => s.heap.size ≤ q) (zW GA zshA σ)) ∧ zX GA zshA s.heap.size s) ∧
  (va_K (gD GB) zcl (ztys GB) s ∧ (∀ σ, va_D (fun q => s.heap.size ≤ q) (zW GB zshB σ)) ∧ zX GB zshB s.heap.size s) ∧
  ∀ i j, i < zshA.length → j < zshB.length → ga GA i ≠ ga GB j
theorem zW_addr {G : zG} {sh : List zC} {σ : zS} {k : Nat} {q : Nat × va_E} (h : (zW G sh σ)[k]? = some q) : k < sh.length ∧ q.1 = ga G k := by
  cases hc : sh[k]? with
  | none =>
    simp only [zW, List.getElem?_mapIdx, hc] at h
    cases h
  | some c =>
    rw [zW_get hc] at h
    cases h
    exact ⟨(List.getElem?_eq_some_iff.mp hc).1, rfl⟩
section LAWC
variable {p : Program} {l : Launch} {e : Env} {s : State} {m : MethodId} {below : List Frame} {meth : Method} {c : Code} {b L : Nat} {xs : Nat → Int32} {GA GB : zG} {Q : State → Prop}
set_option maxHeartbeats 4000000 in
theorem lw_call {sh sh' : List zC} {G G' : zG} {σ σ1 τ : zS} {H : Heap} {locs : List Loc} (F : CallFix p m c code 4 s #[Value.ref b] zT RL) (E : va_K (gD G) zcl (ztys G) s ∧ (∀ σ, va_D (fun q => s.heap.size ≤ q) (zW G sh σ)) ∧ zX G sh s.heap.size s) (hdis : ∀ i j, i < sh.length → j < sh'.length → ga G i ≠ ga G' j)
    {y : MethodName} {b1 : ByteArray} {mL1 n1 np i pc : Nat} {ls : Array Slot} {st st0 As : List Value} {r : Int32} (hy : zY y b1 mL1 (some .int) np) (hv : zYv y) (hw : Cond.methodLink RL i y ∈ zT) (hq : zRc sh 0 y.cls) (hn : n1 ≤ 11) (hM : zM l G sh y b1 mL1 (some .int) n1 (.ref (ga G 0) :: As) (zov (some .int) G r) σ σ1) (hlen : As.length = np) (hst : st0 = As.reverse ++ .ref (ga G 0) :: st) (hr : (st.map fun v => v.category).sum ≤ 8) (hls : ls.size = 4) (d : decode code pc = .ok (.invokevirtual i, 3))
    (hP : va_P (gD G) zcl (zW G sh σ) H) (hP' : va_P (gD G') zcl (zW G' sh' τ) H) (hS : va_S (fun q => s.heap.size ≤ q) s.heap H locs)
    (k : ∀ (H1 : Heap) (locs1 : List Loc), va_P (gD G) zcl (zW G sh σ1) H1 → va_P (gD G') zcl (zW G' sh' τ) H1 → va_S (fun q => s.heap.size ≤ q) s.heap H1 locs1 → W p l e room_1 s m #[Value.ref b] below meth c H1 locs1 63 2182 Q (F0 m (pc + 3) ls (.int r :: st))) : W p l e room_1 s m #[Value.ref b] below meth c H locs 63 2182 Q (F0 m pc ls st0) := by
  subst hst
  obtain ⟨hK, hD, hX⟩ := E
  have hge : ∀ k, k < sh.length → s.heap.size ≤ ga G k := fun k hk => (hD σ).2 k _ (zW_get (List.getElem?_eq_getElem hk))
  have hZ : ∀ q z, s.heap.size ≤ z → zA G sh z q → s.heap.size ≤ q := by
    rintro q z hz (⟨k, hk, rfl⟩ | h)
    · exact hge k hk
    · exact Nat.le_trans hz h
  have hS' : va_S (zA G sh s.heap.size) s.heap H locs := ⟨hS.1, fun q h1 h2 => hS.2.1 q h1 (fun z => h2 (Or.inr z)), fun q hq => Or.inr (hS.2.2 q hq)⟩
  obtain ⟨h1, h2, h3, h4⟩ := hy
  obtain ⟨ci, sl, c0, g1, g2, g3⟩ := hq
  have hrc : ∃ cell : Cell, H[ga G 0]? = some cell ∧ cell.vm.isStatics = false ∧ s.vm.findClass y.cls = some cell.cls := by
    rw [← g3]; exact va_recv hK hP g2 (zW_get g1)
  have hrun := va_runV (l := l) (e := e) (R := room_1) (below := below) (meth := meth) (H := H) (locs := locs) (cells := 63) (slots := 2182) (As := As) (rest := st) (g := F0 m pc ls (As.reverse ++ .ref (ga G 0) :: st)) F (hM H.size) ⟨callB_of np F.2.2.2.2 (zT_any h2) rfl rfl rfl (F.2.2.2.2 _ h1) (F.2.2.2.2 _ hw) h3 ⟨by show n1 + 1 ≤ 12; omega, by show 8 + (mL1 + 11) + 35 * n1 ≤ 440; omega⟩, F.2.2.2.2 _ hv.1, F.2.2.2.2 _ hv.2⟩ ⟨zPc_blind, hrc, fun U hU hW => ⟨rfl, by rw [hU], by rw [hU]; exact hP, va_K.moved hW.alike hK, (hD σ).weaken (fun _ _ _ _ => trivial), zX_go hX hS' hW hU⟩⟩ rfl hlen hls rfl (lv_room hr) d ⟨Nat.le_refl _, Nat.le_refl _⟩
  intro T hT X
  obtain ⟨v, st₀, t, T', Lc, e0, X', hL, e1, e2, ⟨⟨hv1, hp⟩, hz, hk⟩, gs⟩ := hrun T hT X
  cases hv1
  rw [e0] at hz hk
  have hk' : ∀ q, q < H.size → ¬ zA G sh H.size q → T'.heap[q]? = H[q]? := fun q a b => by rw [e1]; exact hk q a b
  have hzT : H.size ≤ T'.heap.size := by rw [e1]; exact hz
  obtain ⟨t2, a1, b1⟩ := k T'.heap (locs ++ Lc) (by rw [e1]; exact hp) (hP'.kept (fun k q hq => hk' q.1 ((hP' k q hq).lt) (by
      obtain ⟨j1, j2⟩ := zW_addr hq
      rintro (⟨j, hj, ej⟩ | h)
      · exact hdis j k hj j1 (ej.symm.trans j2)
      · have := (hP' k q hq).lt; omega)))
    ⟨Nat.le_trans hS.1 hzT, fun q h1 h2 => (hk' q (Nat.lt_of_lt_of_le h1 hS.1) (fun z => h2 (hZ q _ hS.1 z))).trans (hS.2.1 q h1 h2), fun q hq => by
      rcases List.mem_append.mp hq with h | h
      · exact hS.2.2 q h
      · exact hZ _ _ hS.1 (hL q h)⟩ T' rfl X'
  exact ⟨t2, gs t2 a1, b1⟩
theorem lw_el {i k : Nat} {kI : Int32} {kn : Int} {H : Heap} {locs : List Loc} {ls : Array Slot} {st : List Value} {pc : Nat} (C : LwC p s m c b L xs GA GB) (hik : i + k < L) (hk : Int32.ofInt kn = kI) (ek : kI = nI k) (hl : lv_has ls 4 [(3, .int (nI i)), (2, .ref (ga GB 0)), (1, .ref (ga GA 0)), (0, .ref b)]) (hS : va_S (fun q => s.heap.size ≤ q) s.heap H locs)
    (d1 : decode code pc = .ok (.aload_n 0, 1)) (d2 : decode code (pc + 1) = .ok (.iload_n 3, 1)) (d3 : decode code (pc + 2) = .ok (.iconst kn, 1)) (d4 : decode code (pc + 3) = .ok (.iadd, 1)) (d5 : decode code (pc + 4) = .ok (.iaload, 1))
    (kk : W p l e room_1 s m #[Value.ref b] below meth c H locs 63 2182 Q (F0 m (pc + 5) ls (.int (xs (i + k)) :: st))) : W p l e room_1 s m #[Value.ref b] below meth c H locs 63 2182 Q (F0 m pc ls st) := by
  obtain ⟨⟨hx, hb, hml, hown, hts⟩, hX, hbl, hL, -⟩ := C
  have hbA : ¬ (fun q : Nat => s.heap.size ≤ q) b := Nat.not_le.mpr hbl
  refine lv_aload_n hx hb d1 rfl (lv_at hl 3 rfl) ?_
  refine lv_iload_n hx hb d2 rfl (lv_at hl 0 rfl) ?_
  refine lv_iconst (v := kI) hx hb d3 hk ?_
  refine lv_iadd hx hb d4 ?_
  rw [ek, nI_add]
  refine va_sld hx hb hX hbl hbA hS (vp_in_nI hik (by omega)) d5 ?_
  rw [nI_clamp (by omega)]
  exact kk
set_option maxHeartbeats 4000000 in
theorem lc_0 {H : Heap} {locs : List Loc} {ls : Array Slot} {i : Nat} {σ τ : zS} {S : aS} (C : LwC p s m c b L xs GA GB) (hi : i + 6 ≤ L) (hA : RA σ S) (hB : RB τ S) (hI : Inv S) (hPA : va_P (gD GA) zcl (zW GA zshA σ) H) (hPB : va_P (gD GB) zcl (zW GB zshB τ) H) (hS : va_S (fun q => s.heap.size ≤ q) s.heap H locs) (hl : lv_has ls 4 [(3, .int (nI i)), (2, .ref (ga GB 0)), (1, .ref (ga GA 0)), (0, .ref b)]) (kend : ∀ (H1 : Heap) (locs1 : List Loc) (σ1 τ1 : zS) (S1 : aS), RA σ1 S1 → RB τ1 S1 → Inv S1 → va_P (gD GA) zcl (zW GA zshA σ1) H1 → va_P (gD GB) zcl (zW GB zshB τ1) H1 → va_S (fun q => s.heap.size ≤ q) s.heap H1 locs1 → W p l e room_1 s m #[Value.ref b] below meth c H1 locs1 63 2182 Q (F0 m 1207 ls [])) : W p l e room_1 s m #[Value.ref b] below meth c H locs 63 2182 Q (F0 m 172 ls []) := by
  obtain ⟨hx, hb, hml, hown, hts⟩ := C.1
  refine lv_aload_n hx hb dL_law_172 rfl (lv_at hl 2 rfl) ?_
  refine lw_el (k := 1) (kI := 1) C (by omega) (by decide) rfl hl hS dL_law_173 dL_law_174 dL_law_175 dL_law_176 dL_law_177 ?_
  refine lv_i2l hx hb dL_law_178 rfl ?_
  refine lv_bipush (v := 32) hx hb dL_law_179 (by decide) ?_
  refine lv_lshl hx hb dL_law_181 rfl ?_
  refine lw_el (k := 2) (kI := 2) C (by omega) (by decide) rfl hl hS dL_law_182 dL_law_183 dL_law_184 dL_law_185 dL_law_186 ?_
  refine lv_i2l hx hb dL_law_187 rfl ?_
  refine lv_ldc2 hx hb hown (hts _ ko_L_13) dL_law_188 ?_
  refine lv_land hx hb dL_law_191 ?_
  refine lv_lor hx hb dL_law_192 ?_
  refine lw_el (k := 3) (kI := 3) C (by omega) (by decide) rfl hl hS dL_law_193 dL_law_194 dL_law_195 dL_law_196 dL_law_197 ?_
  obtain ⟨S1, r, σ1, τ1, e1, e2, a1, a2, a3⟩ := ag_write hA hB hI ((((xs (i + 1)).toInt64) <<< ((32 : Int32).toInt64 &&& 63)) ||| (((xs (i + 2)).toInt64) &&& (4294967295))) (xs (i + 3))
  refine lw_call (As := [.long ((((xs (i + 1)).toInt64) <<< ((32 : Int32).toInt64 &&& 63)) ||| (((xs (i + 2)).toInt64) &&& (4294967295))), .int (xs (i + 3))]) (st := []) C.1 C.2.2.2.2.1 C.2.2.2.2.2.2 zy_X9_write zv_X9_write ml_L_15 rcA_0 (by decide) (m_X9_write e1) rfl rfl (Nat.le_of_ble_eq_true rfl) hl.1 dL_law_198 hPA hPB hS (fun H locs hPA hPB hS => ?_)
  refine lv_aload_n hx hb dL_law_201 rfl (lv_at hl 1 rfl) ?_
  refine lw_el (k := 1) (kI := 1) C (by omega) (by decide) rfl hl hS dL_law_202 dL_law_203 dL_law_204 dL_law_205 dL_law_206 ?_
  refine lv_i2l hx hb dL_law_207 rfl ?_
  refine lv_bipush (v := 32) hx hb dL_law_208 (by decide) ?_
  refine lv_lshl hx hb dL_law_210 rfl ?_
  refine lw_el (k := 2) (kI := 2) C (by omega) (by decide) rfl hl hS dL_law_211 dL_law_212 dL_law_213 dL_law_214 dL_law_215 ?_
  refine lv_i2l hx hb dL_law_216 rfl ?_
  refine lv_ldc2 hx hb hown (hts _ ko_L_13) dL_law_217 ?_
  refine lv_land hx hb dL_law_220 ?_
  refine lv_lor hx hb dL_law_221 ?_
  refine lw_el (k := 3) (kI := 3) C (by omega) (by decide) rfl hl hS dL_law_222 dL_law_223 dL_law_224 dL_law_225 dL_law_226 ?_
  refine lw_call (As := [.long ((((xs (i + 1)).toInt64) <<< ((32 : Int32).toInt64 &&& 63)) ||| (((xs (i + 2)).toInt64) &&& (4294967295))), .int (xs (i + 3))]) (st := [.int r]) C.1 C.2.2.2.2.2.1 (fun i j h1 h2 z => C.2.2.2.2.2.2 j i h2 h1 z.symm) zy_X10_write zv_X10_write ml_L_19 rcB_0 (by decide) (m_X10_write e2) rfl rfl (Nat.le_of_ble_eq_true rfl) hl.1 dL_law_227 hPB hPA hS (fun H locs hPB hPA hS => ?_)
  refine lv_icmp_eq (tgt := 1207) hx hb dL_law_230 (by decide) (fun _ => ?_) (fun z => absurd rfl z)
  exact kend H locs σ1 τ1 _ a1 a2 a3 hPA hPB hS
set_option maxHeartbeats 4000000 in
theorem lc_1 {H : Heap} {locs : List Loc} {ls : Array Slot} {i : Nat} {σ τ : zS} {S : aS} (C : LwC p s m c b L xs GA GB) (hi : i + 6 ≤ L) (hA : RA σ S) (hB : RB τ S) (hI : Inv S) (hPA : va_P (gD GA) zcl (zW GA zshA σ) H) (hPB : va_P (gD GB) zcl (zW GB zshB τ) H) (hS : va_S (fun q => s.heap.size ≤ q) s.heap H locs) (hl : lv_has ls 4 [(3, .int (nI i)), (2, .ref (ga GB 0)), (1, .ref (ga GA 0)), (0, .ref b)]) (kend : ∀ (H1 : Heap) (locs1 : List Loc) (σ1 τ1 : zS) (S1 : aS), RA σ1 S1 → RB τ1 S1 → Inv S1 → va_P (gD GA) zcl (zW GA zshA σ1) H1 → va_P (gD GB) zcl (zW GB zshB τ1) H1 → va_S (fun q => s.heap.size ≤ q) s.heap H1 locs1 → W p l e room_1 s m #[Value.ref b] below meth c H1 locs1 63 2182 Q (F0 m 1207 ls [])) : W p l e room_1 s m #[Value.ref b] below meth c H locs 63 2182 Q (F0 m 235 ls []) := by
  obtain ⟨hx, hb, hml, hown, hts⟩ := C.1
  refine lv_aload_n hx hb dL_law_235 rfl (lv_at hl 2 rfl) ?_
  obtain ⟨r, σ1, τ1, e1, e2, a1, a2, a3⟩ := ag_erase hA hB hI
  refine lw_call (As := []) (st := []) C.1 C.2.2.2.2.1 C.2.2.2.2.2.2 zy_X9_erase zv_X9_erase ml_L_20 rcA_0 (by decide) (m_X9_erase e1) rfl rfl (Nat.le_of_ble_eq_true rfl) hl.1 dL_law_236 hPA hPB hS (fun H locs hPA hPB hS => ?_)
  refine lv_aload_n hx hb dL_law_239 rfl (lv_at hl 1 rfl) ?_
  refine lw_call (As := []) (st := [.int r]) C.1 C.2.2.2.2.2.1 (fun i j h1 h2 z => C.2.2.2.2.2.2 j i h2 h1 z.symm) zy_X10_erase zv_X10_erase ml_L_24 rcB_0 (by decide) (m_X10_erase e2) rfl rfl (Nat.le_of_ble_eq_true rfl) hl.1 dL_law_240 hPB hPA hS (fun H locs hPB hPA hS => ?_)
  refine lv_icmp_eq (tgt := 1207) hx hb dL_law_243 (by decide) (fun _ => ?_) (fun z => absurd rfl z)
  exact kend H locs σ1 τ1 _ a1 a2 a3 hPA hPB hS
set_option maxHeartbeats 4000000 in
theorem lc_2 {H : Heap} {locs : List Loc} {ls : Array Slot} {i : Nat} {σ τ : zS} {S : aS} (C : LwC p s m c b L xs GA GB) (hi : i + 6 ≤ L) (hA : RA σ S) (hB : RB τ S) (hI : Inv S) (hPA : va_P (gD GA) zcl (zW GA zshA σ) H) (hPB : va_P (gD GB) zcl (zW GB zshB τ) H) (hS : va_S (fun q => s.heap.size ≤ q) s.heap H locs) (hl : lv_has ls 4 [(3, .int (nI i)), (2, .ref (ga GB 0)), (1, .ref (ga GA 0)), (0, .ref b)]) (kend : ∀ (H1 : Heap) (locs1 : List Loc) (σ1 τ1 : zS) (S1 : aS), RA σ1 S1 → RB τ1 S1 → Inv S1 → va_P (gD GA) zcl (zW GA zshA σ1) H1 → va_P (gD GB) zcl (zW GB zshB τ1) H1 → va_S (fun q => s.heap.size ≤ q) s.heap H1 locs1 → W p l e room_1 s m #[Value.ref b] below meth c H1 locs1 63 2182 Q (F0 m 1207 ls [])) : W p l e room_1 s m #[Value.ref b] below meth c H locs 63 2182 Q (F0 m 248 ls []) := by
  obtain ⟨hx, hb, hml, hown, hts⟩ := C.1
  refine lv_aload_n hx hb dL_law_248 rfl (lv_at hl 2 rfl) ?_
  obtain ⟨r, σ1, τ1, e1, e2, a1, a2, a3⟩ := ag_fault hA hB hI
  refine lw_call (As := []) (st := []) C.1 C.2.2.2.2.1 C.2.2.2.2.2.2 zy_X9_fault zv_X9_fault ml_L_25 rcA_0 (by decide) (m_X9_fault e1) rfl rfl (Nat.le_of_ble_eq_true rfl) hl.1 dL_law_249 hPA hPB hS (fun H locs hPA hPB hS => ?_)
  refine lv_aload_n hx hb dL_law_252 rfl (lv_at hl 1 rfl) ?_
  refine lw_call (As := []) (st := [.int r]) C.1 C.2.2.2.2.2.1 (fun i j h1 h2 z => C.2.2.2.2.2.2 j i h2 h1 z.symm) zy_X10_fault zv_X10_fault ml_L_28 rcB_0 (by decide) (m_X10_fault e2) rfl rfl (Nat.le_of_ble_eq_true rfl) hl.1 dL_law_253 hPB hPA hS (fun H locs hPB hPA hS => ?_)
  refine lv_icmp_eq (tgt := 1207) hx hb dL_law_256 (by decide) (fun _ => ?_) (fun z => absurd rfl z)
  exact kend H locs σ1 τ1 _ a1 a2 a3 hPA hPB hS
set_option maxHeartbeats 4000000 in
theorem lc_3 {H : Heap} {locs : List Loc} {ls : Array Slot} {i : Nat} {σ τ : zS} {S : aS} (C : LwC p s m c b L xs GA GB) (hi : i + 6 ≤ L) (hA : RA σ S) (hB : RB τ S) (hI : Inv S) (hPA : va_P (gD GA) zcl (zW GA zshA σ) H) (hPB : va_P (gD GB) zcl (zW GB zshB τ) H) (hS : va_S (fun q => s.heap.size ≤ q) s.heap H locs) (hl : lv_has ls 4 [(3, .int (nI i)), (2, .ref (ga GB 0)), (1, .ref (ga GA 0)), (0, .ref b)]) (kend : ∀ (H1 : Heap) (locs1 : List Loc) (σ1 τ1 : zS) (S1 : aS), RA σ1 S1 → RB τ1 S1 → Inv S1 → va_P (gD GA) zcl (zW GA zshA σ1) H1 → va_P (gD GB) zcl (zW GB zshB τ1) H1 → va_S (fun q => s.heap.size ≤ q) s.heap H1 locs1 → W p l e room_1 s m #[Value.ref b] below meth c H1 locs1 63 2182 Q (F0 m 1207 ls [])) : W p l e room_1 s m #[Value.ref b] below meth c H locs 63 2182 Q (F0 m 261 ls []) := by
  obtain ⟨hx, hb, hml, hown, hts⟩ := C.1
  refine lv_aload_n hx hb dL_law_261 rfl (lv_at hl 2 rfl) ?_
  obtain ⟨S1, r, σ1, τ1, e1, e2, a1, a2, a3⟩ := ag_land hA hB hI
  refine lw_call (As := []) (st := []) C.1 C.2.2.2.2.1 C.2.2.2.2.2.2 zy_X9_land zv_X9_land ml_L_29 rcA_0 (by decide) (m_X9_land e1) rfl rfl (Nat.le_of_ble_eq_true rfl) hl.1 dL_law_262 hPA hPB hS (fun H locs hPA hPB hS => ?_)
  refine lv_aload_n hx hb dL_law_265 rfl (lv_at hl 1 rfl) ?_
  refine lw_call (As := []) (st := [.int r]) C.1 C.2.2.2.2.2.1 (fun i j h1 h2 z => C.2.2.2.2.2.2 j i h2 h1 z.symm) zy_X10_land zv_X10_land ml_L_32 rcB_0 (by decide) (m_X10_land e2) rfl rfl (Nat.le_of_ble_eq_true rfl) hl.1 dL_law_266 hPB hPA hS (fun H locs hPB hPA hS => ?_)
  refine lv_icmp_eq (tgt := 1207) hx hb dL_law_269 (by decide) (fun _ => ?_) (fun z => absurd rfl z)
  exact kend H locs σ1 τ1 _ a1 a2 a3 hPA hPB hS
set_option maxHeartbeats 4000000 in
theorem lc_4 {H : Heap} {locs : List Loc} {ls : Array Slot} {i : Nat} {σ τ : zS} {S : aS} (C : LwC p s m c b L xs GA GB) (hi : i + 6 ≤ L) (hA : RA σ S) (hB : RB τ S) (hI : Inv S) (hPA : va_P (gD GA) zcl (zW GA zshA σ) H) (hPB : va_P (gD GB) zcl (zW GB zshB τ) H) (hS : va_S (fun q => s.heap.size ≤ q) s.heap H locs) (hl : lv_has ls 4 [(3, .int (nI i)), (2, .ref (ga GB 0)), (1, .ref (ga GA 0)), (0, .ref b)]) (kend : ∀ (H1 : Heap) (locs1 : List Loc) (σ1 τ1 : zS) (S1 : aS), RA σ1 S1 → RB τ1 S1 → Inv S1 → va_P (gD GA) zcl (zW GA zshA σ1) H1 → va_P (gD GB) zcl (zW GB zshB τ1) H1 → va_S (fun q => s.heap.size ≤ q) s.heap H1 locs1 → W p l e room_1 s m #[Value.ref b] below meth c H1 locs1 63 2182 Q (F0 m 1207 ls [])) : W p l e room_1 s m #[Value.ref b] below meth c H locs 63 2182 Q (F0 m 274 ls []) := by
  obtain ⟨hx, hb, hml, hown, hts⟩ := C.1
  refine lv_aload_n hx hb dL_law_274 rfl (lv_at hl 2 rfl) ?_
  refine lw_el (k := 1) (kI := 1) C (by omega) (by decide) rfl hl hS dL_law_275 dL_law_276 dL_law_277 dL_law_278 dL_law_279 ?_
  refine lw_el (k := 2) (kI := 2) C (by omega) (by decide) rfl hl hS dL_law_280 dL_law_281 dL_law_282 dL_law_283 dL_law_284 ?_
  obtain ⟨r, σ1, τ1, e1, e2, a1, a2, a3⟩ := ag_place hA hB hI (xs (i + 1)) (xs (i + 2))
  refine lw_call (As := [.int (xs (i + 1)), .int (xs (i + 2))]) (st := []) C.1 C.2.2.2.2.1 C.2.2.2.2.2.2 zy_X9_place zv_X9_place ml_L_33 rcA_0 (by decide) (m_X9_place e1) rfl rfl (Nat.le_of_ble_eq_true rfl) hl.1 dL_law_285 hPA hPB hS (fun H locs hPA hPB hS => ?_)
  refine lv_aload_n hx hb dL_law_288 rfl (lv_at hl 1 rfl) ?_
  refine lw_el (k := 1) (kI := 1) C (by omega) (by decide) rfl hl hS dL_law_289 dL_law_290 dL_law_291 dL_law_292 dL_law_293 ?_
  refine lw_el (k := 2) (kI := 2) C (by omega) (by decide) rfl hl hS dL_law_294 dL_law_295 dL_law_296 dL_law_297 dL_law_298 ?_
  refine lw_call (As := [.int (xs (i + 1)), .int (xs (i + 2))]) (st := [.int r]) C.1 C.2.2.2.2.2.1 (fun i j h1 h2 z => C.2.2.2.2.2.2 j i h2 h1 z.symm) zy_X10_place zv_X10_place ml_L_37 rcB_0 (by decide) (m_X10_place e2) rfl rfl (Nat.le_of_ble_eq_true rfl) hl.1 dL_law_299 hPB hPA hS (fun H locs hPB hPA hS => ?_)
  refine lv_icmp_eq (tgt := 1207) hx hb dL_law_302 (by decide) (fun _ => ?_) (fun z => absurd rfl z)
  exact kend H locs σ1 τ1 _ a1 a2 a3 hPA hPB hS
set_option maxHeartbeats 4000000 in
theorem lc_5 {H : Heap} {locs : List Loc} {ls : Array Slot} {i : Nat} {σ τ : zS} {S : aS} (C : LwC p s m c b L xs GA GB) (hi : i + 6 ≤ L) (hA : RA σ S) (hB : RB τ S) (hI : Inv S) (hPA : va_P (gD GA) zcl (zW GA zshA σ) H) (hPB : va_P (gD GB) zcl (zW GB zshB τ) H) (hS : va_S (fun q => s.heap.size ≤ q) s.heap H locs) (hl : lv_has ls 4 [(3, .int (nI i)), (2, .ref (ga GB 0)), (1, .ref (ga GA 0)), (0, .ref b)]) (kend : ∀ (H1 : Heap) (locs1 : List Loc) (σ1 τ1 : zS) (S1 : aS), RA σ1 S1 → RB τ1 S1 → Inv S1 → va_P (gD GA) zcl (zW GA zshA σ1) H1 → va_P (gD GB) zcl (zW GB zshB τ1) H1 → va_S (fun q => s.heap.size ≤ q) s.heap H1 locs1 → W p l e room_1 s m #[Value.ref b] below meth c H1 locs1 63 2182 Q (F0 m 1207 ls [])) : W p l e room_1 s m #[Value.ref b] below meth c H locs 63 2182 Q (F0 m 307 ls []) := by
  obtain ⟨hx, hb, hml, hown, hts⟩ := C.1
  refine lv_aload_n hx hb dL_law_307 rfl (lv_at hl 2 rfl) ?_
  refine lw_el (k := 1) (kI := 1) C (by omega) (by decide) rfl hl hS dL_law_308 dL_law_309 dL_law_310 dL_law_311 dL_law_312 ?_
  refine lw_el (k := 2) (kI := 2) C (by omega) (by decide) rfl hl hS dL_law_313 dL_law_314 dL_law_315 dL_law_316 dL_law_317 ?_
  obtain ⟨r, σ1, τ1, e1, e2, a1, a2, a3⟩ := ag_flow hA hB hI (xs (i + 1)) (xs (i + 2))
  refine lw_call (As := [.int (xs (i + 1)), .int (xs (i + 2))]) (st := []) C.1 C.2.2.2.2.1 C.2.2.2.2.2.2 zy_X9_flow zv_X9_flow ml_L_38 rcA_0 (by decide) (m_X9_flow e1) rfl rfl (Nat.le_of_ble_eq_true rfl) hl.1 dL_law_318 hPA hPB hS (fun H locs hPA hPB hS => ?_)
  refine lv_aload_n hx hb dL_law_321 rfl (lv_at hl 1 rfl) ?_
  refine lw_el (k := 1) (kI := 1) C (by omega) (by decide) rfl hl hS dL_law_322 dL_law_323 dL_law_324 dL_law_325 dL_law_326 ?_
  refine lw_el (k := 2) (kI := 2) C (by omega) (by decide) rfl hl hS dL_law_327 dL_law_328 dL_law_329 dL_law_330 dL_law_331 ?_
  refine lw_call (As := [.int (xs (i + 1)), .int (xs (i + 2))]) (st := [.int r]) C.1 C.2.2.2.2.2.1 (fun i j h1 h2 z => C.2.2.2.2.2.2 j i h2 h1 z.symm) zy_X10_flow zv_X10_flow ml_L_41 rcB_0 (by decide) (m_X10_flow e2) rfl rfl (Nat.le_of_ble_eq_true rfl) hl.1 dL_law_332 hPB hPA hS (fun H locs hPB hPA hS => ?_)
  refine lv_icmp_eq (tgt := 1207) hx hb dL_law_335 (by decide) (fun _ => ?_) (fun z => absurd rfl z)
  exact kend H locs σ1 τ1 _ a1 a2 a3 hPA hPB hS
set_option maxHeartbeats 4000000 in
theorem lc_6 {H : Heap} {locs : List Loc} {ls : Array Slot} {i : Nat} {σ τ : zS} {S : aS} (C : LwC p s m c b L xs GA GB) (hi : i + 6 ≤ L) (hA : RA σ S) (hB : RB τ S) (hI : Inv S) (hPA : va_P (gD GA) zcl (zW GA zshA σ) H) (hPB : va_P (gD GB) zcl (zW GB zshB τ) H) (hS : va_S (fun q => s.heap.size ≤ q) s.heap H locs) (hl : lv_has ls 4 [(3, .int (nI i)), (2, .ref (ga GB 0)), (1, .ref (ga GA 0)), (0, .ref b)]) (kend : ∀ (H1 : Heap) (locs1 : List Loc) (σ1 τ1 : zS) (S1 : aS), RA σ1 S1 → RB τ1 S1 → Inv S1 → va_P (gD GA) zcl (zW GA zshA σ1) H1 → va_P (gD GB) zcl (zW GB zshB τ1) H1 → va_S (fun q => s.heap.size ≤ q) s.heap H1 locs1 → W p l e room_1 s m #[Value.ref b] below meth c H1 locs1 63 2182 Q (F0 m 1207 ls [])) : W p l e room_1 s m #[Value.ref b] below meth c H locs 63 2182 Q (F0 m 340 ls []) := by
  obtain ⟨hx, hb, hml, hown, hts⟩ := C.1
  refine lv_aload_n hx hb dL_law_340 rfl (lv_at hl 2 rfl) ?_
  refine lw_el (k := 1) (kI := 1) C (by omega) (by decide) rfl hl hS dL_law_341 dL_law_342 dL_law_343 dL_law_344 dL_law_345 ?_
  refine lw_el (k := 2) (kI := 2) C (by omega) (by decide) rfl hl hS dL_law_346 dL_law_347 dL_law_348 dL_law_349 dL_law_350 ?_
  refine lw_el (k := 3) (kI := 3) C (by omega) (by decide) rfl hl hS dL_law_351 dL_law_352 dL_law_353 dL_law_354 dL_law_355 ?_
  obtain ⟨r, σ1, τ1, e1, e2, a1, a2, a3⟩ := ag_way hA hB hI (xs (i + 1)) (xs (i + 2)) (xs (i + 3))
  refine lw_call (As := [.int (xs (i + 1)), .int (xs (i + 2)), .int (xs (i + 3))]) (st := []) C.1 C.2.2.2.2.1 C.2.2.2.2.2.2 zy_X9_way zv_X9_way ml_L_42 rcA_0 (by decide) (m_X9_way e1) rfl rfl (Nat.le_of_ble_eq_true rfl) hl.1 dL_law_356 hPA hPB hS (fun H locs hPA hPB hS => ?_)
  refine lv_aload_n hx hb dL_law_359 rfl (lv_at hl 1 rfl) ?_
  refine lw_el (k := 1) (kI := 1) C (by omega) (by decide) rfl hl hS dL_law_360 dL_law_361 dL_law_362 dL_law_363 dL_law_364 ?_
  refine lw_el (k := 2) (kI := 2) C (by omega) (by decide) rfl hl hS dL_law_365 dL_law_366 dL_law_367 dL_law_368 dL_law_369 ?_
  refine lw_el (k := 3) (kI := 3) C (by omega) (by decide) rfl hl hS dL_law_370 dL_law_371 dL_law_372 dL_law_373 dL_law_374 ?_
  refine lw_call (As := [.int (xs (i + 1)), .int (xs (i + 2)), .int (xs (i + 3))]) (st := [.int r]) C.1 C.2.2.2.2.2.1 (fun i j h1 h2 z => C.2.2.2.2.2.2 j i h2 h1 z.symm) zy_X10_way zv_X10_way ml_L_46 rcB_0 (by decide) (m_X10_way e2) rfl rfl (Nat.le_of_ble_eq_true rfl) hl.1 dL_law_375 hPB hPA hS (fun H locs hPB hPA hS => ?_)
  refine lv_icmp_eq (tgt := 1207) hx hb dL_law_378 (by decide) (fun _ => ?_) (fun z => absurd rfl z)
  exact kend H locs σ1 τ1 _ a1 a2 a3 hPA hPB hS
set_option maxHeartbeats 4000000 in
theorem lc_7 {H : Heap} {locs : List Loc} {ls : Array Slot} {i : Nat} {σ τ : zS} {S : aS} (C : LwC p s m c b L xs GA GB) (hi : i + 6 ≤ L) (hA : RA σ S) (hB : RB τ S) (hI : Inv S) (hPA : va_P (gD GA) zcl (zW GA zshA σ) H) (hPB : va_P (gD GB) zcl (zW GB zshB τ) H) (hS : va_S (fun q => s.heap.size ≤ q) s.heap H locs) (hl : lv_has ls 4 [(3, .int (nI i)), (2, .ref (ga GB 0)), (1, .ref (ga GA 0)), (0, .ref b)]) (kend : ∀ (H1 : Heap) (locs1 : List Loc) (σ1 τ1 : zS) (S1 : aS), RA σ1 S1 → RB τ1 S1 → Inv S1 → va_P (gD GA) zcl (zW GA zshA σ1) H1 → va_P (gD GB) zcl (zW GB zshB τ1) H1 → va_S (fun q => s.heap.size ≤ q) s.heap H1 locs1 → W p l e room_1 s m #[Value.ref b] below meth c H1 locs1 63 2182 Q (F0 m 1207 ls [])) : W p l e room_1 s m #[Value.ref b] below meth c H locs 63 2182 Q (F0 m 383 ls []) := by
  obtain ⟨hx, hb, hml, hown, hts⟩ := C.1
  refine lv_aload_n hx hb dL_law_383 rfl (lv_at hl 2 rfl) ?_
  refine lw_el (k := 1) (kI := 1) C (by omega) (by decide) rfl hl hS dL_law_384 dL_law_385 dL_law_386 dL_law_387 dL_law_388 ?_
  refine lw_el (k := 2) (kI := 2) C (by omega) (by decide) rfl hl hS dL_law_389 dL_law_390 dL_law_391 dL_law_392 dL_law_393 ?_
  refine lw_el (k := 3) (kI := 3) C (by omega) (by decide) rfl hl hS dL_law_394 dL_law_395 dL_law_396 dL_law_397 dL_law_398 ?_
  refine lw_el (k := 4) (kI := 4) C (by omega) (by decide) rfl hl hS dL_law_399 dL_law_400 dL_law_401 dL_law_402 dL_law_403 ?_
  refine lw_el (k := 5) (kI := 5) C (by omega) (by decide) rfl hl hS dL_law_404 dL_law_405 dL_law_406 dL_law_407 dL_law_408 ?_
  obtain ⟨S1, r, σ1, τ1, e1, e2, a1, a2, a3⟩ := ag_blade hA hB hI (xs (i + 1)) (xs (i + 2)) (xs (i + 3)) (xs (i + 4)) (xs (i + 5))
  refine lw_call (As := [.int (xs (i + 1)), .int (xs (i + 2)), .int (xs (i + 3)), .int (xs (i + 4)), .int (xs (i + 5))]) (st := []) C.1 C.2.2.2.2.1 C.2.2.2.2.2.2 zy_X9_blade zv_X9_blade ml_L_47 rcA_0 (by decide) (m_X9_blade e1) rfl rfl (Nat.le_of_ble_eq_true rfl) hl.1 dL_law_409 hPA hPB hS (fun H locs hPA hPB hS => ?_)
  refine lv_aload_n hx hb dL_law_412 rfl (lv_at hl 1 rfl) ?_
  refine lw_el (k := 1) (kI := 1) C (by omega) (by decide) rfl hl hS dL_law_413 dL_law_414 dL_law_415 dL_law_416 dL_law_417 ?_
  refine lw_el (k := 2) (kI := 2) C (by omega) (by decide) rfl hl hS dL_law_418 dL_law_419 dL_law_420 dL_law_421 dL_law_422 ?_
  refine lw_el (k := 3) (kI := 3) C (by omega) (by decide) rfl hl hS dL_law_423 dL_law_424 dL_law_425 dL_law_426 dL_law_427 ?_
  refine lw_el (k := 4) (kI := 4) C (by omega) (by decide) rfl hl hS dL_law_428 dL_law_429 dL_law_430 dL_law_431 dL_law_432 ?_
  refine lw_el (k := 5) (kI := 5) C (by omega) (by decide) rfl hl hS dL_law_433 dL_law_434 dL_law_435 dL_law_436 dL_law_437 ?_
  refine lw_call (As := [.int (xs (i + 1)), .int (xs (i + 2)), .int (xs (i + 3)), .int (xs (i + 4)), .int (xs (i + 5))]) (st := [.int r]) C.1 C.2.2.2.2.2.1 (fun i j h1 h2 z => C.2.2.2.2.2.2 j i h2 h1 z.symm) zy_X10_blade zv_X10_blade ml_L_51 rcB_0 (by decide) (m_X10_blade e2) rfl rfl (Nat.le_of_ble_eq_true rfl) hl.1 dL_law_438 hPB hPA hS (fun H locs hPB hPA hS => ?_)
  refine lv_icmp_eq (tgt := 1207) hx hb dL_law_441 (by decide) (fun _ => ?_) (fun z => absurd rfl z)
  exact kend H locs σ1 τ1 _ a1 a2 a3 hPA hPB hS
set_option maxHeartbeats 4000000 in
theorem lc_8 {H : Heap} {locs : List Loc} {ls : Array Slot} {i : Nat} {σ τ : zS} {S : aS} (C : LwC p s m c b L xs GA GB) (hi : i + 6 ≤ L) (hA : RA σ S) (hB : RB τ S) (hI : Inv S) (hPA : va_P (gD GA) zcl (zW GA zshA σ) H) (hPB : va_P (gD GB) zcl (zW GB zshB τ) H) (hS : va_S (fun q => s.heap.size ≤ q) s.heap H locs) (hl : lv_has ls 4 [(3, .int (nI i)), (2, .ref (ga GB 0)), (1, .ref (ga GA 0)), (0, .ref b)]) (kend : ∀ (H1 : Heap) (locs1 : List Loc) (σ1 τ1 : zS) (S1 : aS), RA σ1 S1 → RB τ1 S1 → Inv S1 → va_P (gD GA) zcl (zW GA zshA σ1) H1 → va_P (gD GB) zcl (zW GB zshB τ1) H1 → va_S (fun q => s.heap.size ≤ q) s.heap H1 locs1 → W p l e room_1 s m #[Value.ref b] below meth c H1 locs1 63 2182 Q (F0 m 1207 ls [])) : W p l e room_1 s m #[Value.ref b] below meth c H locs 63 2182 Q (F0 m 446 ls []) := by
  obtain ⟨hx, hb, hml, hown, hts⟩ := C.1
  refine lv_aload_n hx hb dL_law_446 rfl (lv_at hl 2 rfl) ?_
  refine lw_el (k := 1) (kI := 1) C (by omega) (by decide) rfl hl hS dL_law_447 dL_law_448 dL_law_449 dL_law_450 dL_law_451 ?_
  refine lw_el (k := 2) (kI := 2) C (by omega) (by decide) rfl hl hS dL_law_452 dL_law_453 dL_law_454 dL_law_455 dL_law_456 ?_
  refine lw_el (k := 3) (kI := 3) C (by omega) (by decide) rfl hl hS dL_law_457 dL_law_458 dL_law_459 dL_law_460 dL_law_461 ?_
  obtain ⟨S1, r, σ1, τ1, e1, e2, a1, a2, a3⟩ := ag_rim hA hB hI (xs (i + 1)) (xs (i + 2)) (xs (i + 3))
  refine lw_call (As := [.int (xs (i + 1)), .int (xs (i + 2)), .int (xs (i + 3))]) (st := []) C.1 C.2.2.2.2.1 C.2.2.2.2.2.2 zy_X9_rim zv_X9_rim ml_L_52 rcA_0 (by decide) (m_X9_rim e1) rfl rfl (Nat.le_of_ble_eq_true rfl) hl.1 dL_law_462 hPA hPB hS (fun H locs hPA hPB hS => ?_)
  refine lv_aload_n hx hb dL_law_465 rfl (lv_at hl 1 rfl) ?_
  refine lw_el (k := 1) (kI := 1) C (by omega) (by decide) rfl hl hS dL_law_466 dL_law_467 dL_law_468 dL_law_469 dL_law_470 ?_
  refine lw_el (k := 2) (kI := 2) C (by omega) (by decide) rfl hl hS dL_law_471 dL_law_472 dL_law_473 dL_law_474 dL_law_475 ?_
  refine lw_el (k := 3) (kI := 3) C (by omega) (by decide) rfl hl hS dL_law_476 dL_law_477 dL_law_478 dL_law_479 dL_law_480 ?_
  refine lw_call (As := [.int (xs (i + 1)), .int (xs (i + 2)), .int (xs (i + 3))]) (st := [.int r]) C.1 C.2.2.2.2.2.1 (fun i j h1 h2 z => C.2.2.2.2.2.2 j i h2 h1 z.symm) zy_X10_rim zv_X10_rim ml_L_55 rcB_0 (by decide) (m_X10_rim e2) rfl rfl (Nat.le_of_ble_eq_true rfl) hl.1 dL_law_481 hPB hPA hS (fun H locs hPB hPA hS => ?_)
  refine lv_icmp_eq (tgt := 1207) hx hb dL_law_484 (by decide) (fun _ => ?_) (fun z => absurd rfl z)
  exact kend H locs σ1 τ1 _ a1 a2 a3 hPA hPB hS
set_option maxHeartbeats 4000000 in
theorem lc_9 {H : Heap} {locs : List Loc} {ls : Array Slot} {i : Nat} {σ τ : zS} {S : aS} (C : LwC p s m c b L xs GA GB) (hi : i + 6 ≤ L) (hA : RA σ S) (hB : RB τ S) (hI : Inv S) (hPA : va_P (gD GA) zcl (zW GA zshA σ) H) (hPB : va_P (gD GB) zcl (zW GB zshB τ) H) (hS : va_S (fun q => s.heap.size ≤ q) s.heap H locs) (hl : lv_has ls 4 [(3, .int (nI i)), (2, .ref (ga GB 0)), (1, .ref (ga GA 0)), (0, .ref b)]) (kend : ∀ (H1 : Heap) (locs1 : List Loc) (σ1 τ1 : zS) (S1 : aS), RA σ1 S1 → RB τ1 S1 → Inv S1 → va_P (gD GA) zcl (zW GA zshA σ1) H1 → va_P (gD GB) zcl (zW GB zshB τ1) H1 → va_S (fun q => s.heap.size ≤ q) s.heap H1 locs1 → W p l e room_1 s m #[Value.ref b] below meth c H1 locs1 63 2182 Q (F0 m 1207 ls [])) : W p l e room_1 s m #[Value.ref b] below meth c H locs 63 2182 Q (F0 m 489 ls []) := by
  obtain ⟨hx, hb, hml, hown, hts⟩ := C.1
  refine lv_aload_n hx hb dL_law_489 rfl (lv_at hl 2 rfl) ?_
  refine lw_el (k := 1) (kI := 1) C (by omega) (by decide) rfl hl hS dL_law_490 dL_law_491 dL_law_492 dL_law_493 dL_law_494 ?_
  refine lw_el (k := 2) (kI := 2) C (by omega) (by decide) rfl hl hS dL_law_495 dL_law_496 dL_law_497 dL_law_498 dL_law_499 ?_
  refine lw_el (k := 3) (kI := 3) C (by omega) (by decide) rfl hl hS dL_law_500 dL_law_501 dL_law_502 dL_law_503 dL_law_504 ?_
  obtain ⟨S1, r, σ1, τ1, e1, e2, a1, a2, a3⟩ := ag_measure hA hB hI (xs (i + 1)) (xs (i + 2)) (xs (i + 3))
  refine lw_call (As := [.int (xs (i + 1)), .int (xs (i + 2)), .int (xs (i + 3))]) (st := []) C.1 C.2.2.2.2.1 C.2.2.2.2.2.2 zy_X9_measure zv_X9_measure ml_L_56 rcA_0 (by decide) (m_X9_measure e1) rfl rfl (Nat.le_of_ble_eq_true rfl) hl.1 dL_law_505 hPA hPB hS (fun H locs hPA hPB hS => ?_)
  refine lv_aload_n hx hb dL_law_508 rfl (lv_at hl 1 rfl) ?_
  refine lw_el (k := 1) (kI := 1) C (by omega) (by decide) rfl hl hS dL_law_509 dL_law_510 dL_law_511 dL_law_512 dL_law_513 ?_
  refine lw_el (k := 2) (kI := 2) C (by omega) (by decide) rfl hl hS dL_law_514 dL_law_515 dL_law_516 dL_law_517 dL_law_518 ?_
  refine lw_el (k := 3) (kI := 3) C (by omega) (by decide) rfl hl hS dL_law_519 dL_law_520 dL_law_521 dL_law_522 dL_law_523 ?_
  refine lw_call (As := [.int (xs (i + 1)), .int (xs (i + 2)), .int (xs (i + 3))]) (st := [.int r]) C.1 C.2.2.2.2.2.1 (fun i j h1 h2 z => C.2.2.2.2.2.2 j i h2 h1 z.symm) zy_X10_measure zv_X10_measure ml_L_59 rcB_0 (by decide) (m_X10_measure e2) rfl rfl (Nat.le_of_ble_eq_true rfl) hl.1 dL_law_524 hPB hPA hS (fun H locs hPB hPA hS => ?_)
  refine lv_icmp_eq (tgt := 1207) hx hb dL_law_527 (by decide) (fun _ => ?_) (fun z => absurd rfl z)
  exact kend H locs σ1 τ1 _ a1 a2 a3 hPA hPB hS
set_option maxHeartbeats 4000000 in
theorem lc_10 {H : Heap} {locs : List Loc} {ls : Array Slot} {i : Nat} {σ τ : zS} {S : aS} (C : LwC p s m c b L xs GA GB) (hi : i + 6 ≤ L) (hA : RA σ S) (hB : RB τ S) (hI : Inv S) (hPA : va_P (gD GA) zcl (zW GA zshA σ) H) (hPB : va_P (gD GB) zcl (zW GB zshB τ) H) (hS : va_S (fun q => s.heap.size ≤ q) s.heap H locs) (hl : lv_has ls 4 [(3, .int (nI i)), (2, .ref (ga GB 0)), (1, .ref (ga GA 0)), (0, .ref b)]) (kend : ∀ (H1 : Heap) (locs1 : List Loc) (σ1 τ1 : zS) (S1 : aS), RA σ1 S1 → RB τ1 S1 → Inv S1 → va_P (gD GA) zcl (zW GA zshA σ1) H1 → va_P (gD GB) zcl (zW GB zshB τ1) H1 → va_S (fun q => s.heap.size ≤ q) s.heap H1 locs1 → W p l e room_1 s m #[Value.ref b] below meth c H1 locs1 63 2182 Q (F0 m 1207 ls [])) : W p l e room_1 s m #[Value.ref b] below meth c H locs 63 2182 Q (F0 m 532 ls []) := by
  obtain ⟨hx, hb, hml, hown, hts⟩ := C.1
  refine lv_aload_n hx hb dL_law_532 rfl (lv_at hl 2 rfl) ?_
  refine lw_el (k := 1) (kI := 1) C (by omega) (by decide) rfl hl hS dL_law_533 dL_law_534 dL_law_535 dL_law_536 dL_law_537 ?_
  refine lw_el (k := 2) (kI := 2) C (by omega) (by decide) rfl hl hS dL_law_538 dL_law_539 dL_law_540 dL_law_541 dL_law_542 ?_
  obtain ⟨r, σ1, τ1, e1, e2, a1, a2, a3⟩ := ag_of hA hB hI (xs (i + 1)) (xs (i + 2))
  refine lw_call (As := [.int (xs (i + 1)), .int (xs (i + 2))]) (st := []) C.1 C.2.2.2.2.1 C.2.2.2.2.2.2 zy_X9_of zv_X9_of ml_L_60 rcA_0 (by decide) (m_X9_of e1) rfl rfl (Nat.le_of_ble_eq_true rfl) hl.1 dL_law_543 hPA hPB hS (fun H locs hPA hPB hS => ?_)
  refine lv_aload_n hx hb dL_law_546 rfl (lv_at hl 1 rfl) ?_
  refine lw_el (k := 1) (kI := 1) C (by omega) (by decide) rfl hl hS dL_law_547 dL_law_548 dL_law_549 dL_law_550 dL_law_551 ?_
  refine lw_el (k := 2) (kI := 2) C (by omega) (by decide) rfl hl hS dL_law_552 dL_law_553 dL_law_554 dL_law_555 dL_law_556 ?_
  refine lw_call (As := [.int (xs (i + 1)), .int (xs (i + 2))]) (st := [.int r]) C.1 C.2.2.2.2.2.1 (fun i j h1 h2 z => C.2.2.2.2.2.2 j i h2 h1 z.symm) zy_X10_of zv_X10_of ml_L_63 rcB_0 (by decide) (m_X10_of e2) rfl rfl (Nat.le_of_ble_eq_true rfl) hl.1 dL_law_557 hPB hPA hS (fun H locs hPB hPA hS => ?_)
  refine lv_icmp_eq (tgt := 1207) hx hb dL_law_560 (by decide) (fun _ => ?_) (fun z => absurd rfl z)
  exact kend H locs σ1 τ1 _ a1 a2 a3 hPA hPB hS
set_option maxHeartbeats 4000000 in
theorem lc_11 {H : Heap} {locs : List Loc} {ls : Array Slot} {i : Nat} {σ τ : zS} {S : aS} (C : LwC p s m c b L xs GA GB) (hi : i + 6 ≤ L) (hA : RA σ S) (hB : RB τ S) (hI : Inv S) (hPA : va_P (gD GA) zcl (zW GA zshA σ) H) (hPB : va_P (gD GB) zcl (zW GB zshB τ) H) (hS : va_S (fun q => s.heap.size ≤ q) s.heap H locs) (hl : lv_has ls 4 [(3, .int (nI i)), (2, .ref (ga GB 0)), (1, .ref (ga GA 0)), (0, .ref b)]) (kend : ∀ (H1 : Heap) (locs1 : List Loc) (σ1 τ1 : zS) (S1 : aS), RA σ1 S1 → RB τ1 S1 → Inv S1 → va_P (gD GA) zcl (zW GA zshA σ1) H1 → va_P (gD GB) zcl (zW GB zshB τ1) H1 → va_S (fun q => s.heap.size ≤ q) s.heap H1 locs1 → W p l e room_1 s m #[Value.ref b] below meth c H1 locs1 63 2182 Q (F0 m 1207 ls [])) : W p l e room_1 s m #[Value.ref b] below meth c H locs 63 2182 Q (F0 m 565 ls []) := by
  obtain ⟨hx, hb, hml, hown, hts⟩ := C.1
  refine lv_aload_n hx hb dL_law_565 rfl (lv_at hl 2 rfl) ?_
  refine lw_el (k := 1) (kI := 1) C (by omega) (by decide) rfl hl hS dL_law_566 dL_law_567 dL_law_568 dL_law_569 dL_law_570 ?_
  refine lw_el (k := 2) (kI := 2) C (by omega) (by decide) rfl hl hS dL_law_571 dL_law_572 dL_law_573 dL_law_574 dL_law_575 ?_
  obtain ⟨r, σ1, τ1, e1, e2, a1, a2, a3⟩ := ag_off hA hB hI (xs (i + 1)) (xs (i + 2))
  refine lw_call (As := [.int (xs (i + 1)), .int (xs (i + 2))]) (st := []) C.1 C.2.2.2.2.1 C.2.2.2.2.2.2 zy_X9_off zv_X9_off ml_L_64 rcA_0 (by decide) (m_X9_off e1) rfl rfl (Nat.le_of_ble_eq_true rfl) hl.1 dL_law_576 hPA hPB hS (fun H locs hPA hPB hS => ?_)
  refine lv_aload_n hx hb dL_law_579 rfl (lv_at hl 1 rfl) ?_
  refine lw_el (k := 1) (kI := 1) C (by omega) (by decide) rfl hl hS dL_law_580 dL_law_581 dL_law_582 dL_law_583 dL_law_584 ?_
  refine lw_el (k := 2) (kI := 2) C (by omega) (by decide) rfl hl hS dL_law_585 dL_law_586 dL_law_587 dL_law_588 dL_law_589 ?_
  refine lw_call (As := [.int (xs (i + 1)), .int (xs (i + 2))]) (st := [.int r]) C.1 C.2.2.2.2.2.1 (fun i j h1 h2 z => C.2.2.2.2.2.2 j i h2 h1 z.symm) zy_X10_off zv_X10_off ml_L_67 rcB_0 (by decide) (m_X10_off e2) rfl rfl (Nat.le_of_ble_eq_true rfl) hl.1 dL_law_590 hPB hPA hS (fun H locs hPB hPA hS => ?_)
  refine lv_icmp_eq (tgt := 1207) hx hb dL_law_593 (by decide) (fun _ => ?_) (fun z => absurd rfl z)
  exact kend H locs σ1 τ1 _ a1 a2 a3 hPA hPB hS
set_option maxHeartbeats 4000000 in
theorem lc_12 {H : Heap} {locs : List Loc} {ls : Array Slot} {i : Nat} {σ τ : zS} {S : aS} (C : LwC p s m c b L xs GA GB) (hi : i + 6 ≤ L) (hA : RA σ S) (hB : RB τ S) (hI : Inv S) (hPA : va_P (gD GA) zcl (zW GA zshA σ) H) (hPB : va_P (gD GB) zcl (zW GB zshB τ) H) (hS : va_S (fun q => s.heap.size ≤ q) s.heap H locs) (hl : lv_has ls 4 [(3, .int (nI i)), (2, .ref (ga GB 0)), (1, .ref (ga GA 0)), (0, .ref b)]) (kend : ∀ (H1 : Heap) (locs1 : List Loc) (σ1 τ1 : zS) (S1 : aS), RA σ1 S1 → RB τ1 S1 → Inv S1 → va_P (gD GA) zcl (zW GA zshA σ1) H1 → va_P (gD GB) zcl (zW GB zshB τ1) H1 → va_S (fun q => s.heap.size ≤ q) s.heap H1 locs1 → W p l e room_1 s m #[Value.ref b] below meth c H1 locs1 63 2182 Q (F0 m 1207 ls [])) : W p l e room_1 s m #[Value.ref b] below meth c H locs 63 2182 Q (F0 m 598 ls []) := by
  obtain ⟨hx, hb, hml, hown, hts⟩ := C.1
  refine lv_aload_n hx hb dL_law_598 rfl (lv_at hl 2 rfl) ?_
  refine lw_el (k := 1) (kI := 1) C (by omega) (by decide) rfl hl hS dL_law_599 dL_law_600 dL_law_601 dL_law_602 dL_law_603 ?_
  obtain ⟨r, σ1, τ1, e1, e2, a1, a2, a3⟩ := ag_can hA hB hI (xs (i + 1))
  refine lw_call (As := [.int (xs (i + 1))]) (st := []) C.1 C.2.2.2.2.1 C.2.2.2.2.2.2 zy_X9_can zv_X9_can ml_L_68 rcA_0 (by decide) (m_X9_can e1) rfl rfl (Nat.le_of_ble_eq_true rfl) hl.1 dL_law_604 hPA hPB hS (fun H locs hPA hPB hS => ?_)
  refine lv_aload_n hx hb dL_law_607 rfl (lv_at hl 1 rfl) ?_
  refine lw_el (k := 1) (kI := 1) C (by omega) (by decide) rfl hl hS dL_law_608 dL_law_609 dL_law_610 dL_law_611 dL_law_612 ?_
  refine lw_call (As := [.int (xs (i + 1))]) (st := [.int r]) C.1 C.2.2.2.2.2.1 (fun i j h1 h2 z => C.2.2.2.2.2.2 j i h2 h1 z.symm) zy_X10_can zv_X10_can ml_L_72 rcB_0 (by decide) (m_X10_can e2) rfl rfl (Nat.le_of_ble_eq_true rfl) hl.1 dL_law_613 hPB hPA hS (fun H locs hPB hPA hS => ?_)
  refine lv_icmp_eq (tgt := 1207) hx hb dL_law_616 (by decide) (fun _ => ?_) (fun z => absurd rfl z)
  exact kend H locs σ1 τ1 _ a1 a2 a3 hPA hPB hS
set_option maxHeartbeats 4000000 in
theorem lc_13 {H : Heap} {locs : List Loc} {ls : Array Slot} {i : Nat} {σ τ : zS} {S : aS} (C : LwC p s m c b L xs GA GB) (hi : i + 6 ≤ L) (hA : RA σ S) (hB : RB τ S) (hI : Inv S) (hPA : va_P (gD GA) zcl (zW GA zshA σ) H) (hPB : va_P (gD GB) zcl (zW GB zshB τ) H) (hS : va_S (fun q => s.heap.size ≤ q) s.heap H locs) (hl : lv_has ls 4 [(3, .int (nI i)), (2, .ref (ga GB 0)), (1, .ref (ga GA 0)), (0, .ref b)]) (kend : ∀ (H1 : Heap) (locs1 : List Loc) (σ1 τ1 : zS) (S1 : aS), RA σ1 S1 → RB τ1 S1 → Inv S1 → va_P (gD GA) zcl (zW GA zshA σ1) H1 → va_P (gD GB) zcl (zW GB zshB τ1) H1 → va_S (fun q => s.heap.size ≤ q) s.heap H1 locs1 → W p l e room_1 s m #[Value.ref b] below meth c H1 locs1 63 2182 Q (F0 m 1207 ls [])) : W p l e room_1 s m #[Value.ref b] below meth c H locs 63 2182 Q (F0 m 621 ls []) := by
  obtain ⟨hx, hb, hml, hown, hts⟩ := C.1
  refine lv_aload_n hx hb dL_law_621 rfl (lv_at hl 2 rfl) ?_
  refine lw_el (k := 1) (kI := 1) C (by omega) (by decide) rfl hl hS dL_law_622 dL_law_623 dL_law_624 dL_law_625 dL_law_626 ?_
  obtain ⟨r, σ1, τ1, e1, e2, a1, a2, a3⟩ := ag_named hA hB hI (xs (i + 1))
  refine lw_call (As := [.int (xs (i + 1))]) (st := []) C.1 C.2.2.2.2.1 C.2.2.2.2.2.2 zy_X9_named zv_X9_named ml_L_73 rcA_0 (by decide) (m_X9_named e1) rfl rfl (Nat.le_of_ble_eq_true rfl) hl.1 dL_law_627 hPA hPB hS (fun H locs hPA hPB hS => ?_)
  refine lv_aload_n hx hb dL_law_630 rfl (lv_at hl 1 rfl) ?_
  refine lw_el (k := 1) (kI := 1) C (by omega) (by decide) rfl hl hS dL_law_631 dL_law_632 dL_law_633 dL_law_634 dL_law_635 ?_
  refine lw_call (As := [.int (xs (i + 1))]) (st := [.int r]) C.1 C.2.2.2.2.2.1 (fun i j h1 h2 z => C.2.2.2.2.2.2 j i h2 h1 z.symm) zy_X10_named zv_X10_named ml_L_76 rcB_0 (by decide) (m_X10_named e2) rfl rfl (Nat.le_of_ble_eq_true rfl) hl.1 dL_law_636 hPB hPA hS (fun H locs hPB hPA hS => ?_)
  refine lv_icmp_eq (tgt := 1207) hx hb dL_law_639 (by decide) (fun _ => ?_) (fun z => absurd rfl z)
  exact kend H locs σ1 τ1 _ a1 a2 a3 hPA hPB hS
set_option maxHeartbeats 4000000 in
theorem lc_14 {H : Heap} {locs : List Loc} {ls : Array Slot} {i : Nat} {σ τ : zS} {S : aS} (C : LwC p s m c b L xs GA GB) (hi : i + 6 ≤ L) (hA : RA σ S) (hB : RB τ S) (hI : Inv S) (hPA : va_P (gD GA) zcl (zW GA zshA σ) H) (hPB : va_P (gD GB) zcl (zW GB zshB τ) H) (hS : va_S (fun q => s.heap.size ≤ q) s.heap H locs) (hl : lv_has ls 4 [(3, .int (nI i)), (2, .ref (ga GB 0)), (1, .ref (ga GA 0)), (0, .ref b)]) (kend : ∀ (H1 : Heap) (locs1 : List Loc) (σ1 τ1 : zS) (S1 : aS), RA σ1 S1 → RB τ1 S1 → Inv S1 → va_P (gD GA) zcl (zW GA zshA σ1) H1 → va_P (gD GB) zcl (zW GB zshB τ1) H1 → va_S (fun q => s.heap.size ≤ q) s.heap H1 locs1 → W p l e room_1 s m #[Value.ref b] below meth c H1 locs1 63 2182 Q (F0 m 1207 ls [])) : W p l e room_1 s m #[Value.ref b] below meth c H locs 63 2182 Q (F0 m 644 ls []) := by
  obtain ⟨hx, hb, hml, hown, hts⟩ := C.1
  refine lv_aload_n hx hb dL_law_644 rfl (lv_at hl 2 rfl) ?_
  refine lw_el (k := 1) (kI := 1) C (by omega) (by decide) rfl hl hS dL_law_645 dL_law_646 dL_law_647 dL_law_648 dL_law_649 ?_
  refine lw_el (k := 2) (kI := 2) C (by omega) (by decide) rfl hl hS dL_law_650 dL_law_651 dL_law_652 dL_law_653 dL_law_654 ?_
  obtain ⟨S1, r, σ1, τ1, e1, e2, a1, a2, a3⟩ := ag_strike hA hB hI (xs (i + 1)) (xs (i + 2))
  refine lw_call (As := [.int (xs (i + 1)), .int (xs (i + 2))]) (st := []) C.1 C.2.2.2.2.1 C.2.2.2.2.2.2 zy_X9_strike zv_X9_strike ml_L_77 rcA_0 (by decide) (m_X9_strike e1) rfl rfl (Nat.le_of_ble_eq_true rfl) hl.1 dL_law_655 hPA hPB hS (fun H locs hPA hPB hS => ?_)
  refine lv_aload_n hx hb dL_law_658 rfl (lv_at hl 1 rfl) ?_
  refine lw_el (k := 1) (kI := 1) C (by omega) (by decide) rfl hl hS dL_law_659 dL_law_660 dL_law_661 dL_law_662 dL_law_663 ?_
  refine lw_el (k := 2) (kI := 2) C (by omega) (by decide) rfl hl hS dL_law_664 dL_law_665 dL_law_666 dL_law_667 dL_law_668 ?_
  refine lw_call (As := [.int (xs (i + 1)), .int (xs (i + 2))]) (st := [.int r]) C.1 C.2.2.2.2.2.1 (fun i j h1 h2 z => C.2.2.2.2.2.2 j i h2 h1 z.symm) zy_X10_strike zv_X10_strike ml_L_80 rcB_0 (by decide) (m_X10_strike e2) rfl rfl (Nat.le_of_ble_eq_true rfl) hl.1 dL_law_669 hPB hPA hS (fun H locs hPB hPA hS => ?_)
  refine lv_icmp_eq (tgt := 1207) hx hb dL_law_672 (by decide) (fun _ => ?_) (fun z => absurd rfl z)
  exact kend H locs σ1 τ1 _ a1 a2 a3 hPA hPB hS
set_option maxHeartbeats 4000000 in
theorem lc_15 {H : Heap} {locs : List Loc} {ls : Array Slot} {i : Nat} {σ τ : zS} {S : aS} (C : LwC p s m c b L xs GA GB) (hi : i + 6 ≤ L) (hA : RA σ S) (hB : RB τ S) (hI : Inv S) (hPA : va_P (gD GA) zcl (zW GA zshA σ) H) (hPB : va_P (gD GB) zcl (zW GB zshB τ) H) (hS : va_S (fun q => s.heap.size ≤ q) s.heap H locs) (hl : lv_has ls 4 [(3, .int (nI i)), (2, .ref (ga GB 0)), (1, .ref (ga GA 0)), (0, .ref b)]) (kend : ∀ (H1 : Heap) (locs1 : List Loc) (σ1 τ1 : zS) (S1 : aS), RA σ1 S1 → RB τ1 S1 → Inv S1 → va_P (gD GA) zcl (zW GA zshA σ1) H1 → va_P (gD GB) zcl (zW GB zshB τ1) H1 → va_S (fun q => s.heap.size ≤ q) s.heap H1 locs1 → W p l e room_1 s m #[Value.ref b] below meth c H1 locs1 63 2182 Q (F0 m 1207 ls [])) : W p l e room_1 s m #[Value.ref b] below meth c H locs 63 2182 Q (F0 m 677 ls []) := by
  obtain ⟨hx, hb, hml, hown, hts⟩ := C.1
  refine lv_aload_n hx hb dL_law_677 rfl (lv_at hl 2 rfl) ?_
  refine lw_el (k := 1) (kI := 1) C (by omega) (by decide) rfl hl hS dL_law_678 dL_law_679 dL_law_680 dL_law_681 dL_law_682 ?_
  obtain ⟨S1, r, σ1, τ1, e1, e2, a1, a2, a3⟩ := ag_undo hA hB hI (xs (i + 1))
  refine lw_call (As := [.int (xs (i + 1))]) (st := []) C.1 C.2.2.2.2.1 C.2.2.2.2.2.2 zy_X9_undo zv_X9_undo ml_L_81 rcA_0 (by decide) (m_X9_undo e1) rfl rfl (Nat.le_of_ble_eq_true rfl) hl.1 dL_law_683 hPA hPB hS (fun H locs hPA hPB hS => ?_)
  refine lv_aload_n hx hb dL_law_686 rfl (lv_at hl 1 rfl) ?_
  refine lw_el (k := 1) (kI := 1) C (by omega) (by decide) rfl hl hS dL_law_687 dL_law_688 dL_law_689 dL_law_690 dL_law_691 ?_
  refine lw_call (As := [.int (xs (i + 1))]) (st := [.int r]) C.1 C.2.2.2.2.2.1 (fun i j h1 h2 z => C.2.2.2.2.2.2 j i h2 h1 z.symm) zy_X10_undo zv_X10_undo ml_L_84 rcB_0 (by decide) (m_X10_undo e2) rfl rfl (Nat.le_of_ble_eq_true rfl) hl.1 dL_law_692 hPB hPA hS (fun H locs hPB hPA hS => ?_)
  refine lv_icmp_eq (tgt := 1207) hx hb dL_law_695 (by decide) (fun _ => ?_) (fun z => absurd rfl z)
  exact kend H locs σ1 τ1 _ a1 a2 a3 hPA hPB hS
set_option maxHeartbeats 4000000 in
theorem lc_16 {H : Heap} {locs : List Loc} {ls : Array Slot} {i : Nat} {σ τ : zS} {S : aS} (C : LwC p s m c b L xs GA GB) (hi : i + 6 ≤ L) (hA : RA σ S) (hB : RB τ S) (hI : Inv S) (hPA : va_P (gD GA) zcl (zW GA zshA σ) H) (hPB : va_P (gD GB) zcl (zW GB zshB τ) H) (hS : va_S (fun q => s.heap.size ≤ q) s.heap H locs) (hl : lv_has ls 4 [(3, .int (nI i)), (2, .ref (ga GB 0)), (1, .ref (ga GA 0)), (0, .ref b)]) (kend : ∀ (H1 : Heap) (locs1 : List Loc) (σ1 τ1 : zS) (S1 : aS), RA σ1 S1 → RB τ1 S1 → Inv S1 → va_P (gD GA) zcl (zW GA zshA σ1) H1 → va_P (gD GB) zcl (zW GB zshB τ1) H1 → va_S (fun q => s.heap.size ≤ q) s.heap H1 locs1 → W p l e room_1 s m #[Value.ref b] below meth c H1 locs1 63 2182 Q (F0 m 1207 ls [])) : W p l e room_1 s m #[Value.ref b] below meth c H locs 63 2182 Q (F0 m 700 ls []) := by
  obtain ⟨hx, hb, hml, hown, hts⟩ := C.1
  refine lv_aload_n hx hb dL_law_700 rfl (lv_at hl 2 rfl) ?_
  refine lw_el (k := 1) (kI := 1) C (by omega) (by decide) rfl hl hS dL_law_701 dL_law_702 dL_law_703 dL_law_704 dL_law_705 ?_
  refine lw_el (k := 2) (kI := 2) C (by omega) (by decide) rfl hl hS dL_law_706 dL_law_707 dL_law_708 dL_law_709 dL_law_710 ?_
  obtain ⟨r, σ1, τ1, e1, e2, a1, a2, a3⟩ := ag_span hA hB hI (xs (i + 1)) (xs (i + 2))
  refine lw_call (As := [.int (xs (i + 1)), .int (xs (i + 2))]) (st := []) C.1 C.2.2.2.2.1 C.2.2.2.2.2.2 zy_X9_span zv_X9_span ml_L_85 rcA_0 (by decide) (m_X9_span e1) rfl rfl (Nat.le_of_ble_eq_true rfl) hl.1 dL_law_711 hPA hPB hS (fun H locs hPA hPB hS => ?_)
  refine lv_aload_n hx hb dL_law_714 rfl (lv_at hl 1 rfl) ?_
  refine lw_el (k := 1) (kI := 1) C (by omega) (by decide) rfl hl hS dL_law_715 dL_law_716 dL_law_717 dL_law_718 dL_law_719 ?_
  refine lw_el (k := 2) (kI := 2) C (by omega) (by decide) rfl hl hS dL_law_720 dL_law_721 dL_law_722 dL_law_723 dL_law_724 ?_
  refine lw_call (As := [.int (xs (i + 1)), .int (xs (i + 2))]) (st := [.int r]) C.1 C.2.2.2.2.2.1 (fun i j h1 h2 z => C.2.2.2.2.2.2 j i h2 h1 z.symm) zy_X10_span zv_X10_span ml_L_88 rcB_0 (by decide) (m_X10_span e2) rfl rfl (Nat.le_of_ble_eq_true rfl) hl.1 dL_law_725 hPB hPA hS (fun H locs hPB hPA hS => ?_)
  refine lv_icmp_eq (tgt := 1207) hx hb dL_law_728 (by decide) (fun _ => ?_) (fun z => absurd rfl z)
  exact kend H locs σ1 τ1 _ a1 a2 a3 hPA hPB hS
set_option maxHeartbeats 4000000 in
theorem lc_17 {H : Heap} {locs : List Loc} {ls : Array Slot} {i : Nat} {σ τ : zS} {S : aS} (C : LwC p s m c b L xs GA GB) (hi : i + 6 ≤ L) (hA : RA σ S) (hB : RB τ S) (hI : Inv S) (hPA : va_P (gD GA) zcl (zW GA zshA σ) H) (hPB : va_P (gD GB) zcl (zW GB zshB τ) H) (hS : va_S (fun q => s.heap.size ≤ q) s.heap H locs) (hl : lv_has ls 4 [(3, .int (nI i)), (2, .ref (ga GB 0)), (1, .ref (ga GA 0)), (0, .ref b)]) (kend : ∀ (H1 : Heap) (locs1 : List Loc) (σ1 τ1 : zS) (S1 : aS), RA σ1 S1 → RB τ1 S1 → Inv S1 → va_P (gD GA) zcl (zW GA zshA σ1) H1 → va_P (gD GB) zcl (zW GB zshB τ1) H1 → va_S (fun q => s.heap.size ≤ q) s.heap H1 locs1 → W p l e room_1 s m #[Value.ref b] below meth c H1 locs1 63 2182 Q (F0 m 1207 ls [])) : W p l e room_1 s m #[Value.ref b] below meth c H locs 63 2182 Q (F0 m 733 ls []) := by
  obtain ⟨hx, hb, hml, hown, hts⟩ := C.1
  refine lv_aload_n hx hb dL_law_733 rfl (lv_at hl 2 rfl) ?_
  refine lw_el (k := 1) (kI := 1) C (by omega) (by decide) rfl hl hS dL_law_734 dL_law_735 dL_law_736 dL_law_737 dL_law_738 ?_
  obtain ⟨r, σ1, τ1, e1, e2, a1, a2, a3⟩ := ag_heirloom hA hB hI (xs (i + 1))
  refine lw_call (As := [.int (xs (i + 1))]) (st := []) C.1 C.2.2.2.2.1 C.2.2.2.2.2.2 zy_X9_heirloom zv_X9_heirloom ml_L_89 rcA_0 (by decide) (m_X9_heirloom e1) rfl rfl (Nat.le_of_ble_eq_true rfl) hl.1 dL_law_739 hPA hPB hS (fun H locs hPA hPB hS => ?_)
  refine lv_aload_n hx hb dL_law_742 rfl (lv_at hl 1 rfl) ?_
  refine lw_el (k := 1) (kI := 1) C (by omega) (by decide) rfl hl hS dL_law_743 dL_law_744 dL_law_745 dL_law_746 dL_law_747 ?_
  refine lw_call (As := [.int (xs (i + 1))]) (st := [.int r]) C.1 C.2.2.2.2.2.1 (fun i j h1 h2 z => C.2.2.2.2.2.2 j i h2 h1 z.symm) zy_X10_heirloom zv_X10_heirloom ml_L_92 rcB_0 (by decide) (m_X10_heirloom e2) rfl rfl (Nat.le_of_ble_eq_true rfl) hl.1 dL_law_748 hPB hPA hS (fun H locs hPB hPA hS => ?_)
  refine lv_icmp_eq (tgt := 1207) hx hb dL_law_751 (by decide) (fun _ => ?_) (fun z => absurd rfl z)
  exact kend H locs σ1 τ1 _ a1 a2 a3 hPA hPB hS
set_option maxHeartbeats 4000000 in
theorem lc_18 {H : Heap} {locs : List Loc} {ls : Array Slot} {i : Nat} {σ τ : zS} {S : aS} (C : LwC p s m c b L xs GA GB) (hi : i + 6 ≤ L) (hA : RA σ S) (hB : RB τ S) (hI : Inv S) (hPA : va_P (gD GA) zcl (zW GA zshA σ) H) (hPB : va_P (gD GB) zcl (zW GB zshB τ) H) (hS : va_S (fun q => s.heap.size ≤ q) s.heap H locs) (hl : lv_has ls 4 [(3, .int (nI i)), (2, .ref (ga GB 0)), (1, .ref (ga GA 0)), (0, .ref b)]) (kend : ∀ (H1 : Heap) (locs1 : List Loc) (σ1 τ1 : zS) (S1 : aS), RA σ1 S1 → RB τ1 S1 → Inv S1 → va_P (gD GA) zcl (zW GA zshA σ1) H1 → va_P (gD GB) zcl (zW GB zshB τ1) H1 → va_S (fun q => s.heap.size ≤ q) s.heap H1 locs1 → W p l e room_1 s m #[Value.ref b] below meth c H1 locs1 63 2182 Q (F0 m 1207 ls [])) : W p l e room_1 s m #[Value.ref b] below meth c H locs 63 2182 Q (F0 m 756 ls []) := by
  obtain ⟨hx, hb, hml, hown, hts⟩ := C.1
  refine lv_aload_n hx hb dL_law_756 rfl (lv_at hl 2 rfl) ?_
  refine lw_el (k := 1) (kI := 1) C (by omega) (by decide) rfl hl hS dL_law_757 dL_law_758 dL_law_759 dL_law_760 dL_law_761 ?_
  obtain ⟨r, σ1, τ1, e1, e2, a1, a2, a3⟩ := ag_from hA hB hI (xs (i + 1))
  refine lw_call (As := [.int (xs (i + 1))]) (st := []) C.1 C.2.2.2.2.1 C.2.2.2.2.2.2 zy_X9_from zv_X9_from ml_L_93 rcA_0 (by decide) (m_X9_from e1) rfl rfl (Nat.le_of_ble_eq_true rfl) hl.1 dL_law_762 hPA hPB hS (fun H locs hPA hPB hS => ?_)
  refine lv_aload_n hx hb dL_law_765 rfl (lv_at hl 1 rfl) ?_
  refine lw_el (k := 1) (kI := 1) C (by omega) (by decide) rfl hl hS dL_law_766 dL_law_767 dL_law_768 dL_law_769 dL_law_770 ?_
  refine lw_call (As := [.int (xs (i + 1))]) (st := [.int r]) C.1 C.2.2.2.2.2.1 (fun i j h1 h2 z => C.2.2.2.2.2.2 j i h2 h1 z.symm) zy_X10_from zv_X10_from ml_L_96 rcB_0 (by decide) (m_X10_from e2) rfl rfl (Nat.le_of_ble_eq_true rfl) hl.1 dL_law_771 hPB hPA hS (fun H locs hPB hPA hS => ?_)
  refine lv_icmp_eq (tgt := 1207) hx hb dL_law_774 (by decide) (fun _ => ?_) (fun z => absurd rfl z)
  exact kend H locs σ1 τ1 _ a1 a2 a3 hPA hPB hS
set_option maxHeartbeats 4000000 in
theorem lc_19 {H : Heap} {locs : List Loc} {ls : Array Slot} {i : Nat} {σ τ : zS} {S : aS} (C : LwC p s m c b L xs GA GB) (hi : i + 6 ≤ L) (hA : RA σ S) (hB : RB τ S) (hI : Inv S) (hPA : va_P (gD GA) zcl (zW GA zshA σ) H) (hPB : va_P (gD GB) zcl (zW GB zshB τ) H) (hS : va_S (fun q => s.heap.size ≤ q) s.heap H locs) (hl : lv_has ls 4 [(3, .int (nI i)), (2, .ref (ga GB 0)), (1, .ref (ga GA 0)), (0, .ref b)]) (kend : ∀ (H1 : Heap) (locs1 : List Loc) (σ1 τ1 : zS) (S1 : aS), RA σ1 S1 → RB τ1 S1 → Inv S1 → va_P (gD GA) zcl (zW GA zshA σ1) H1 → va_P (gD GB) zcl (zW GB zshB τ1) H1 → va_S (fun q => s.heap.size ≤ q) s.heap H1 locs1 → W p l e room_1 s m #[Value.ref b] below meth c H1 locs1 63 2182 Q (F0 m 1207 ls [])) : W p l e room_1 s m #[Value.ref b] below meth c H locs 63 2182 Q (F0 m 779 ls []) := by
  obtain ⟨hx, hb, hml, hown, hts⟩ := C.1
  refine lv_aload_n hx hb dL_law_779 rfl (lv_at hl 2 rfl) ?_
  refine lw_el (k := 1) (kI := 1) C (by omega) (by decide) rfl hl hS dL_law_780 dL_law_781 dL_law_782 dL_law_783 dL_law_784 ?_
  obtain ⟨r, σ1, τ1, e1, e2, a1, a2, a3⟩ := ag_chain hA hB hI (xs (i + 1))
  refine lw_call (As := [.int (xs (i + 1))]) (st := []) C.1 C.2.2.2.2.1 C.2.2.2.2.2.2 zy_X9_chain zv_X9_chain ml_L_97 rcA_0 (by decide) (m_X9_chain e1) rfl rfl (Nat.le_of_ble_eq_true rfl) hl.1 dL_law_785 hPA hPB hS (fun H locs hPA hPB hS => ?_)
  refine lv_aload_n hx hb dL_law_788 rfl (lv_at hl 1 rfl) ?_
  refine lw_el (k := 1) (kI := 1) C (by omega) (by decide) rfl hl hS dL_law_789 dL_law_790 dL_law_791 dL_law_792 dL_law_793 ?_
  refine lw_call (As := [.int (xs (i + 1))]) (st := [.int r]) C.1 C.2.2.2.2.2.1 (fun i j h1 h2 z => C.2.2.2.2.2.2 j i h2 h1 z.symm) zy_X10_chain zv_X10_chain ml_L_100 rcB_0 (by decide) (m_X10_chain e2) rfl rfl (Nat.le_of_ble_eq_true rfl) hl.1 dL_law_794 hPB hPA hS (fun H locs hPB hPA hS => ?_)
  refine lv_icmp_eq (tgt := 1207) hx hb dL_law_797 (by decide) (fun _ => ?_) (fun z => absurd rfl z)
  exact kend H locs σ1 τ1 _ a1 a2 a3 hPA hPB hS
set_option maxHeartbeats 4000000 in
theorem lc_20 {H : Heap} {locs : List Loc} {ls : Array Slot} {i : Nat} {σ τ : zS} {S : aS} (C : LwC p s m c b L xs GA GB) (hi : i + 6 ≤ L) (hA : RA σ S) (hB : RB τ S) (hI : Inv S) (hPA : va_P (gD GA) zcl (zW GA zshA σ) H) (hPB : va_P (gD GB) zcl (zW GB zshB τ) H) (hS : va_S (fun q => s.heap.size ≤ q) s.heap H locs) (hl : lv_has ls 4 [(3, .int (nI i)), (2, .ref (ga GB 0)), (1, .ref (ga GA 0)), (0, .ref b)]) (kend : ∀ (H1 : Heap) (locs1 : List Loc) (σ1 τ1 : zS) (S1 : aS), RA σ1 S1 → RB τ1 S1 → Inv S1 → va_P (gD GA) zcl (zW GA zshA σ1) H1 → va_P (gD GB) zcl (zW GB zshB τ1) H1 → va_S (fun q => s.heap.size ≤ q) s.heap H1 locs1 → W p l e room_1 s m #[Value.ref b] below meth c H1 locs1 63 2182 Q (F0 m 1207 ls [])) : W p l e room_1 s m #[Value.ref b] below meth c H locs 63 2182 Q (F0 m 802 ls []) := by
  obtain ⟨hx, hb, hml, hown, hts⟩ := C.1
  refine lv_aload_n hx hb dL_law_802 rfl (lv_at hl 2 rfl) ?_
  refine lw_el (k := 1) (kI := 1) C (by omega) (by decide) rfl hl hS dL_law_803 dL_law_804 dL_law_805 dL_law_806 dL_law_807 ?_
  refine lw_el (k := 2) (kI := 2) C (by omega) (by decide) rfl hl hS dL_law_808 dL_law_809 dL_law_810 dL_law_811 dL_law_812 ?_
  refine lw_el (k := 3) (kI := 3) C (by omega) (by decide) rfl hl hS dL_law_813 dL_law_814 dL_law_815 dL_law_816 dL_law_817 ?_
  refine lw_el (k := 4) (kI := 4) C (by omega) (by decide) rfl hl hS dL_law_818 dL_law_819 dL_law_820 dL_law_821 dL_law_822 ?_
  refine lv_if_eq (tgt := 830) hx hb dL_law_823 (by decide) (fun hz => ?_) (fun hz => ?_)
  · refine lv_iconst (v := 0) hx hb dL_law_830 (by decide) ?_
    refine lw_el (k := 5) (kI := 5) C (by omega) (by decide) rfl hl hS dL_law_831 dL_law_832 dL_law_833 dL_law_834 dL_law_835 ?_
    obtain ⟨r, σ1, τ1, e1, e2, a1, a2, a3⟩ := ag_legs hA hB hI (xs (i + 1)) (xs (i + 2)) (xs (i + 3)) (0) (xs (i + 5))
    refine lw_call (As := [.int (xs (i + 1)), .int (xs (i + 2)), .int (xs (i + 3)), .int 0, .int (xs (i + 5))]) (st := []) C.1 C.2.2.2.2.1 C.2.2.2.2.2.2 zy_X9_legs zv_X9_legs ml_L_101 rcA_0 (by decide) (m_X9_legs e1) rfl rfl (Nat.le_of_ble_eq_true rfl) hl.1 dL_law_836 hPA hPB hS (fun H locs hPA hPB hS => ?_)
    refine lv_aload_n hx hb dL_law_839 rfl (lv_at hl 1 rfl) ?_
    refine lw_el (k := 1) (kI := 1) C (by omega) (by decide) rfl hl hS dL_law_840 dL_law_841 dL_law_842 dL_law_843 dL_law_844 ?_
    refine lw_el (k := 2) (kI := 2) C (by omega) (by decide) rfl hl hS dL_law_845 dL_law_846 dL_law_847 dL_law_848 dL_law_849 ?_
    refine lw_el (k := 3) (kI := 3) C (by omega) (by decide) rfl hl hS dL_law_850 dL_law_851 dL_law_852 dL_law_853 dL_law_854 ?_
    refine lw_el (k := 4) (kI := 4) C (by omega) (by decide) rfl hl hS dL_law_855 dL_law_856 dL_law_857 dL_law_858 dL_law_859 ?_
    refine lv_if_eq (tgt := 867) hx hb dL_law_860 (by decide) (fun _ => ?_) (fun hz2 => absurd hz hz2)
    refine lv_iconst (v := 0) hx hb dL_law_867 (by decide) ?_
    refine lw_el (k := 5) (kI := 5) C (by omega) (by decide) rfl hl hS dL_law_868 dL_law_869 dL_law_870 dL_law_871 dL_law_872 ?_
    refine lw_call (As := [.int (xs (i + 1)), .int (xs (i + 2)), .int (xs (i + 3)), .int 0, .int (xs (i + 5))]) (st := [.int r]) C.1 C.2.2.2.2.2.1 (fun i j h1 h2 z => C.2.2.2.2.2.2 j i h2 h1 z.symm) zy_X10_legs zv_X10_legs ml_L_105 rcB_0 (by decide) (m_X10_legs e2) rfl rfl (Nat.le_of_ble_eq_true rfl) hl.1 dL_law_873 hPB hPA hS (fun H locs hPB hPA hS => ?_)
    refine lv_icmp_eq (tgt := 1207) hx hb dL_law_876 (by decide) (fun _ => ?_) (fun z => absurd rfl z)
    exact kend H locs σ1 τ1 _ a1 a2 a3 hPA hPB hS
  · refine lv_iconst (v := 1) hx hb dL_law_826 (by decide) ?_
    refine lv_goto (tgt := 831) hx hb dL_law_827 (by decide) ?_
    refine lw_el (k := 5) (kI := 5) C (by omega) (by decide) rfl hl hS dL_law_831 dL_law_832 dL_law_833 dL_law_834 dL_law_835 ?_
    obtain ⟨r, σ1, τ1, e1, e2, a1, a2, a3⟩ := ag_legs hA hB hI (xs (i + 1)) (xs (i + 2)) (xs (i + 3)) (1) (xs (i + 5))
    refine lw_call (As := [.int (xs (i + 1)), .int (xs (i + 2)), .int (xs (i + 3)), .int 1, .int (xs (i + 5))]) (st := []) C.1 C.2.2.2.2.1 C.2.2.2.2.2.2 zy_X9_legs zv_X9_legs ml_L_101 rcA_0 (by decide) (m_X9_legs e1) rfl rfl (Nat.le_of_ble_eq_true rfl) hl.1 dL_law_836 hPA hPB hS (fun H locs hPA hPB hS => ?_)
    refine lv_aload_n hx hb dL_law_839 rfl (lv_at hl 1 rfl) ?_
    refine lw_el (k := 1) (kI := 1) C (by omega) (by decide) rfl hl hS dL_law_840 dL_law_841 dL_law_842 dL_law_843 dL_law_844 ?_
    refine lw_el (k := 2) (kI := 2) C (by omega) (by decide) rfl hl hS dL_law_845 dL_law_846 dL_law_847 dL_law_848 dL_law_849 ?_
    refine lw_el (k := 3) (kI := 3) C (by omega) (by decide) rfl hl hS dL_law_850 dL_law_851 dL_law_852 dL_law_853 dL_law_854 ?_
    refine lw_el (k := 4) (kI := 4) C (by omega) (by decide) rfl hl hS dL_law_855 dL_law_856 dL_law_857 dL_law_858 dL_law_859 ?_
    refine lv_if_eq (tgt := 867) hx hb dL_law_860 (by decide) (fun hz2 => absurd hz2 hz) (fun _ => ?_)
    refine lv_iconst (v := 1) hx hb dL_law_863 (by decide) ?_
    refine lv_goto (tgt := 868) hx hb dL_law_864 (by decide) ?_
    refine lw_el (k := 5) (kI := 5) C (by omega) (by decide) rfl hl hS dL_law_868 dL_law_869 dL_law_870 dL_law_871 dL_law_872 ?_
    refine lw_call (As := [.int (xs (i + 1)), .int (xs (i + 2)), .int (xs (i + 3)), .int 1, .int (xs (i + 5))]) (st := [.int r]) C.1 C.2.2.2.2.2.1 (fun i j h1 h2 z => C.2.2.2.2.2.2 j i h2 h1 z.symm) zy_X10_legs zv_X10_legs ml_L_105 rcB_0 (by decide) (m_X10_legs e2) rfl rfl (Nat.le_of_ble_eq_true rfl) hl.1 dL_law_873 hPB hPA hS (fun H locs hPB hPA hS => ?_)
    refine lv_icmp_eq (tgt := 1207) hx hb dL_law_876 (by decide) (fun _ => ?_) (fun z => absurd rfl z)
    exact kend H locs σ1 τ1 _ a1 a2 a3 hPA hPB hS
set_option maxHeartbeats 4000000 in
theorem lc_21 {H : Heap} {locs : List Loc} {ls : Array Slot} {i : Nat} {σ τ : zS} {S : aS} (C : LwC p s m c b L xs GA GB) (hi : i + 6 ≤ L) (hA : RA σ S) (hB : RB τ S) (hI : Inv S) (hPA : va_P (gD GA) zcl (zW GA zshA σ) H) (hPB : va_P (gD GB) zcl (zW GB zshB τ) H) (hS : va_S (fun q => s.heap.size ≤ q) s.heap H locs) (hl : lv_has ls 4 [(3, .int (nI i)), (2, .ref (ga GB 0)), (1, .ref (ga GA 0)), (0, .ref b)]) (kend : ∀ (H1 : Heap) (locs1 : List Loc) (σ1 τ1 : zS) (S1 : aS), RA σ1 S1 → RB τ1 S1 → Inv S1 → va_P (gD GA) zcl (zW GA zshA σ1) H1 → va_P (gD GB) zcl (zW GB zshB τ1) H1 → va_S (fun q => s.heap.size ≤ q) s.heap H1 locs1 → W p l e room_1 s m #[Value.ref b] below meth c H1 locs1 63 2182 Q (F0 m 1207 ls [])) : W p l e room_1 s m #[Value.ref b] below meth c H locs 63 2182 Q (F0 m 881 ls []) := by
  obtain ⟨hx, hb, hml, hown, hts⟩ := C.1
  refine lv_aload_n hx hb dL_law_881 rfl (lv_at hl 2 rfl) ?_
  refine lw_el (k := 1) (kI := 1) C (by omega) (by decide) rfl hl hS dL_law_882 dL_law_883 dL_law_884 dL_law_885 dL_law_886 ?_
  refine lw_el (k := 2) (kI := 2) C (by omega) (by decide) rfl hl hS dL_law_887 dL_law_888 dL_law_889 dL_law_890 dL_law_891 ?_
  refine lw_el (k := 3) (kI := 3) C (by omega) (by decide) rfl hl hS dL_law_892 dL_law_893 dL_law_894 dL_law_895 dL_law_896 ?_
  refine lv_if_eq (tgt := 904) hx hb dL_law_897 (by decide) (fun hz => ?_) (fun hz => ?_)
  · refine lv_iconst (v := 0) hx hb dL_law_904 (by decide) ?_
    refine lw_el (k := 4) (kI := 4) C (by omega) (by decide) rfl hl hS dL_law_905 dL_law_906 dL_law_907 dL_law_908 dL_law_909 ?_
    obtain ⟨r, σ1, τ1, e1, e2, a1, a2, a3⟩ := ag_reach hA hB hI (xs (i + 1)) (xs (i + 2)) (0) (xs (i + 4))
    refine lw_call (As := [.int (xs (i + 1)), .int (xs (i + 2)), .int 0, .int (xs (i + 4))]) (st := []) C.1 C.2.2.2.2.1 C.2.2.2.2.2.2 zy_X9_reach zv_X9_reach ml_L_106 rcA_0 (by decide) (m_X9_reach e1) rfl rfl (Nat.le_of_ble_eq_true rfl) hl.1 dL_law_910 hPA hPB hS (fun H locs hPA hPB hS => ?_)
    refine lv_aload_n hx hb dL_law_913 rfl (lv_at hl 1 rfl) ?_
    refine lw_el (k := 1) (kI := 1) C (by omega) (by decide) rfl hl hS dL_law_914 dL_law_915 dL_law_916 dL_law_917 dL_law_918 ?_
    refine lw_el (k := 2) (kI := 2) C (by omega) (by decide) rfl hl hS dL_law_919 dL_law_920 dL_law_921 dL_law_922 dL_law_923 ?_
    refine lw_el (k := 3) (kI := 3) C (by omega) (by decide) rfl hl hS dL_law_924 dL_law_925 dL_law_926 dL_law_927 dL_law_928 ?_
    refine lv_if_eq (tgt := 936) hx hb dL_law_929 (by decide) (fun _ => ?_) (fun hz2 => absurd hz hz2)
    refine lv_iconst (v := 0) hx hb dL_law_936 (by decide) ?_
    refine lw_el (k := 4) (kI := 4) C (by omega) (by decide) rfl hl hS dL_law_937 dL_law_938 dL_law_939 dL_law_940 dL_law_941 ?_
    refine lw_call (As := [.int (xs (i + 1)), .int (xs (i + 2)), .int 0, .int (xs (i + 4))]) (st := [.int r]) C.1 C.2.2.2.2.2.1 (fun i j h1 h2 z => C.2.2.2.2.2.2 j i h2 h1 z.symm) zy_X10_reach zv_X10_reach ml_L_110 rcB_0 (by decide) (m_X10_reach e2) rfl rfl (Nat.le_of_ble_eq_true rfl) hl.1 dL_law_942 hPB hPA hS (fun H locs hPB hPA hS => ?_)
    refine lv_icmp_eq (tgt := 1207) hx hb dL_law_945 (by decide) (fun _ => ?_) (fun z => absurd rfl z)
    exact kend H locs σ1 τ1 _ a1 a2 a3 hPA hPB hS
  · refine lv_iconst (v := 1) hx hb dL_law_900 (by decide) ?_
    refine lv_goto (tgt := 905) hx hb dL_law_901 (by decide) ?_
    refine lw_el (k := 4) (kI := 4) C (by omega) (by decide) rfl hl hS dL_law_905 dL_law_906 dL_law_907 dL_law_908 dL_law_909 ?_
    obtain ⟨r, σ1, τ1, e1, e2, a1, a2, a3⟩ := ag_reach hA hB hI (xs (i + 1)) (xs (i + 2)) (1) (xs (i + 4))
    refine lw_call (As := [.int (xs (i + 1)), .int (xs (i + 2)), .int 1, .int (xs (i + 4))]) (st := []) C.1 C.2.2.2.2.1 C.2.2.2.2.2.2 zy_X9_reach zv_X9_reach ml_L_106 rcA_0 (by decide) (m_X9_reach e1) rfl rfl (Nat.le_of_ble_eq_true rfl) hl.1 dL_law_910 hPA hPB hS (fun H locs hPA hPB hS => ?_)
    refine lv_aload_n hx hb dL_law_913 rfl (lv_at hl 1 rfl) ?_
    refine lw_el (k := 1) (kI := 1) C (by omega) (by decide) rfl hl hS dL_law_914 dL_law_915 dL_law_916 dL_law_917 dL_law_918 ?_
    refine lw_el (k := 2) (kI := 2) C (by omega) (by decide) rfl hl hS dL_law_919 dL_law_920 dL_law_921 dL_law_922 dL_law_923 ?_
    refine lw_el (k := 3) (kI := 3) C (by omega) (by decide) rfl hl hS dL_law_924 dL_law_925 dL_law_926 dL_law_927 dL_law_928 ?_
    refine lv_if_eq (tgt := 936) hx hb dL_law_929 (by decide) (fun hz2 => absurd hz2 hz) (fun _ => ?_)
    refine lv_iconst (v := 1) hx hb dL_law_932 (by decide) ?_
    refine lv_goto (tgt := 937) hx hb dL_law_933 (by decide) ?_
    refine lw_el (k := 4) (kI := 4) C (by omega) (by decide) rfl hl hS dL_law_937 dL_law_938 dL_law_939 dL_law_940 dL_law_941 ?_
    refine lw_call (As := [.int (xs (i + 1)), .int (xs (i + 2)), .int 1, .int (xs (i + 4))]) (st := [.int r]) C.1 C.2.2.2.2.2.1 (fun i j h1 h2 z => C.2.2.2.2.2.2 j i h2 h1 z.symm) zy_X10_reach zv_X10_reach ml_L_110 rcB_0 (by decide) (m_X10_reach e2) rfl rfl (Nat.le_of_ble_eq_true rfl) hl.1 dL_law_942 hPB hPA hS (fun H locs hPB hPA hS => ?_)
    refine lv_icmp_eq (tgt := 1207) hx hb dL_law_945 (by decide) (fun _ => ?_) (fun z => absurd rfl z)
    exact kend H locs σ1 τ1 _ a1 a2 a3 hPA hPB hS
set_option maxHeartbeats 4000000 in
theorem lc_22 {H : Heap} {locs : List Loc} {ls : Array Slot} {i : Nat} {σ τ : zS} {S : aS} (C : LwC p s m c b L xs GA GB) (hi : i + 6 ≤ L) (hA : RA σ S) (hB : RB τ S) (hI : Inv S) (hPA : va_P (gD GA) zcl (zW GA zshA σ) H) (hPB : va_P (gD GB) zcl (zW GB zshB τ) H) (hS : va_S (fun q => s.heap.size ≤ q) s.heap H locs) (hl : lv_has ls 4 [(3, .int (nI i)), (2, .ref (ga GB 0)), (1, .ref (ga GA 0)), (0, .ref b)]) (kend : ∀ (H1 : Heap) (locs1 : List Loc) (σ1 τ1 : zS) (S1 : aS), RA σ1 S1 → RB τ1 S1 → Inv S1 → va_P (gD GA) zcl (zW GA zshA σ1) H1 → va_P (gD GB) zcl (zW GB zshB τ1) H1 → va_S (fun q => s.heap.size ≤ q) s.heap H1 locs1 → W p l e room_1 s m #[Value.ref b] below meth c H1 locs1 63 2182 Q (F0 m 1207 ls [])) : W p l e room_1 s m #[Value.ref b] below meth c H locs 63 2182 Q (F0 m 950 ls []) := by
  obtain ⟨hx, hb, hml, hown, hts⟩ := C.1
  refine lv_aload_n hx hb dL_law_950 rfl (lv_at hl 2 rfl) ?_
  obtain ⟨r, σ1, τ1, e1, e2, a1, a2, a3⟩ := ag_boats hA hB hI
  refine lw_call (As := []) (st := []) C.1 C.2.2.2.2.1 C.2.2.2.2.2.2 zy_X9_boats zv_X9_boats ml_L_111 rcA_0 (by decide) (m_X9_boats e1) rfl rfl (Nat.le_of_ble_eq_true rfl) hl.1 dL_law_951 hPA hPB hS (fun H locs hPA hPB hS => ?_)
  refine lv_aload_n hx hb dL_law_954 rfl (lv_at hl 1 rfl) ?_
  refine lw_call (As := []) (st := [.int r]) C.1 C.2.2.2.2.2.1 (fun i j h1 h2 z => C.2.2.2.2.2.2 j i h2 h1 z.symm) zy_X10_boats zv_X10_boats ml_L_114 rcB_0 (by decide) (m_X10_boats e2) rfl rfl (Nat.le_of_ble_eq_true rfl) hl.1 dL_law_955 hPB hPA hS (fun H locs hPB hPA hS => ?_)
  refine lv_icmp_eq (tgt := 1207) hx hb dL_law_958 (by decide) (fun _ => ?_) (fun z => absurd rfl z)
  exact kend H locs σ1 τ1 _ a1 a2 a3 hPA hPB hS
set_option maxHeartbeats 4000000 in
theorem lc_23 {H : Heap} {locs : List Loc} {ls : Array Slot} {i : Nat} {σ τ : zS} {S : aS} (C : LwC p s m c b L xs GA GB) (hi : i + 6 ≤ L) (hA : RA σ S) (hB : RB τ S) (hI : Inv S) (hPA : va_P (gD GA) zcl (zW GA zshA σ) H) (hPB : va_P (gD GB) zcl (zW GB zshB τ) H) (hS : va_S (fun q => s.heap.size ≤ q) s.heap H locs) (hl : lv_has ls 4 [(3, .int (nI i)), (2, .ref (ga GB 0)), (1, .ref (ga GA 0)), (0, .ref b)]) (kend : ∀ (H1 : Heap) (locs1 : List Loc) (σ1 τ1 : zS) (S1 : aS), RA σ1 S1 → RB τ1 S1 → Inv S1 → va_P (gD GA) zcl (zW GA zshA σ1) H1 → va_P (gD GB) zcl (zW GB zshB τ1) H1 → va_S (fun q => s.heap.size ≤ q) s.heap H1 locs1 → W p l e room_1 s m #[Value.ref b] below meth c H1 locs1 63 2182 Q (F0 m 1207 ls [])) : W p l e room_1 s m #[Value.ref b] below meth c H locs 63 2182 Q (F0 m 963 ls []) := by
  obtain ⟨hx, hb, hml, hown, hts⟩ := C.1
  refine lv_aload_n hx hb dL_law_963 rfl (lv_at hl 2 rfl) ?_
  obtain ⟨r, σ1, τ1, e1, e2, a1, a2, a3⟩ := ag_sea hA hB hI
  refine lw_call (As := []) (st := []) C.1 C.2.2.2.2.1 C.2.2.2.2.2.2 zy_X9_sea zv_X9_sea ml_L_115 rcA_0 (by decide) (m_X9_sea e1) rfl rfl (Nat.le_of_ble_eq_true rfl) hl.1 dL_law_964 hPA hPB hS (fun H locs hPA hPB hS => ?_)
  refine lv_aload_n hx hb dL_law_967 rfl (lv_at hl 1 rfl) ?_
  refine lw_call (As := []) (st := [.int r]) C.1 C.2.2.2.2.2.1 (fun i j h1 h2 z => C.2.2.2.2.2.2 j i h2 h1 z.symm) zy_X10_sea zv_X10_sea ml_L_118 rcB_0 (by decide) (m_X10_sea e2) rfl rfl (Nat.le_of_ble_eq_true rfl) hl.1 dL_law_968 hPB hPA hS (fun H locs hPB hPA hS => ?_)
  refine lv_icmp_eq (tgt := 1207) hx hb dL_law_971 (by decide) (fun _ => ?_) (fun z => absurd rfl z)
  exact kend H locs σ1 τ1 _ a1 a2 a3 hPA hPB hS
set_option maxHeartbeats 4000000 in
theorem lc_24 {H : Heap} {locs : List Loc} {ls : Array Slot} {i : Nat} {σ τ : zS} {S : aS} (C : LwC p s m c b L xs GA GB) (hi : i + 6 ≤ L) (hA : RA σ S) (hB : RB τ S) (hI : Inv S) (hPA : va_P (gD GA) zcl (zW GA zshA σ) H) (hPB : va_P (gD GB) zcl (zW GB zshB τ) H) (hS : va_S (fun q => s.heap.size ≤ q) s.heap H locs) (hl : lv_has ls 4 [(3, .int (nI i)), (2, .ref (ga GB 0)), (1, .ref (ga GA 0)), (0, .ref b)]) (kend : ∀ (H1 : Heap) (locs1 : List Loc) (σ1 τ1 : zS) (S1 : aS), RA σ1 S1 → RB τ1 S1 → Inv S1 → va_P (gD GA) zcl (zW GA zshA σ1) H1 → va_P (gD GB) zcl (zW GB zshB τ1) H1 → va_S (fun q => s.heap.size ≤ q) s.heap H1 locs1 → W p l e room_1 s m #[Value.ref b] below meth c H1 locs1 63 2182 Q (F0 m 1207 ls [])) : W p l e room_1 s m #[Value.ref b] below meth c H locs 63 2182 Q (F0 m 976 ls []) := by
  obtain ⟨hx, hb, hml, hown, hts⟩ := C.1
  refine lv_aload_n hx hb dL_law_976 rfl (lv_at hl 2 rfl) ?_
  obtain ⟨r, σ1, τ1, e1, e2, a1, a2, a3⟩ := ag_next hA hB hI
  refine lw_call (As := []) (st := []) C.1 C.2.2.2.2.1 C.2.2.2.2.2.2 zy_X9_next zv_X9_next ml_L_119 rcA_0 (by decide) (m_X9_next e1) rfl rfl (Nat.le_of_ble_eq_true rfl) hl.1 dL_law_977 hPA hPB hS (fun H locs hPA hPB hS => ?_)
  refine lv_aload_n hx hb dL_law_980 rfl (lv_at hl 1 rfl) ?_
  refine lw_call (As := []) (st := [.int r]) C.1 C.2.2.2.2.2.1 (fun i j h1 h2 z => C.2.2.2.2.2.2 j i h2 h1 z.symm) zy_X10_next zv_X10_next ml_L_122 rcB_0 (by decide) (m_X10_next e2) rfl rfl (Nat.le_of_ble_eq_true rfl) hl.1 dL_law_981 hPB hPA hS (fun H locs hPB hPA hS => ?_)
  refine lv_icmp_eq (tgt := 1207) hx hb dL_law_984 (by decide) (fun _ => ?_) (fun z => absurd rfl z)
  exact kend H locs σ1 τ1 _ a1 a2 a3 hPA hPB hS
set_option maxHeartbeats 4000000 in
theorem lc_25 {H : Heap} {locs : List Loc} {ls : Array Slot} {i : Nat} {σ τ : zS} {S : aS} (C : LwC p s m c b L xs GA GB) (hi : i + 6 ≤ L) (hA : RA σ S) (hB : RB τ S) (hI : Inv S) (hPA : va_P (gD GA) zcl (zW GA zshA σ) H) (hPB : va_P (gD GB) zcl (zW GB zshB τ) H) (hS : va_S (fun q => s.heap.size ≤ q) s.heap H locs) (hl : lv_has ls 4 [(3, .int (nI i)), (2, .ref (ga GB 0)), (1, .ref (ga GA 0)), (0, .ref b)]) (kend : ∀ (H1 : Heap) (locs1 : List Loc) (σ1 τ1 : zS) (S1 : aS), RA σ1 S1 → RB τ1 S1 → Inv S1 → va_P (gD GA) zcl (zW GA zshA σ1) H1 → va_P (gD GB) zcl (zW GB zshB τ1) H1 → va_S (fun q => s.heap.size ≤ q) s.heap H1 locs1 → W p l e room_1 s m #[Value.ref b] below meth c H1 locs1 63 2182 Q (F0 m 1207 ls [])) : W p l e room_1 s m #[Value.ref b] below meth c H locs 63 2182 Q (F0 m 989 ls []) := by
  obtain ⟨hx, hb, hml, hown, hts⟩ := C.1
  refine lv_aload_n hx hb dL_law_989 rfl (lv_at hl 2 rfl) ?_
  refine lw_el (k := 1) (kI := 1) C (by omega) (by decide) rfl hl hS dL_law_990 dL_law_991 dL_law_992 dL_law_993 dL_law_994 ?_
  refine lw_el (k := 2) (kI := 2) C (by omega) (by decide) rfl hl hS dL_law_995 dL_law_996 dL_law_997 dL_law_998 dL_law_999 ?_
  refine lw_el (k := 3) (kI := 3) C (by omega) (by decide) rfl hl hS dL_law_1000 dL_law_1001 dL_law_1002 dL_law_1003 dL_law_1004 ?_
  refine lw_el (k := 4) (kI := 4) C (by omega) (by decide) rfl hl hS dL_law_1005 dL_law_1006 dL_law_1007 dL_law_1008 dL_law_1009 ?_
  obtain ⟨S1, r, σ1, τ1, e1, e2, a1, a2, a3⟩ := ag_counts hA hB hI (xs (i + 1)) (xs (i + 2)) (xs (i + 3)) (xs (i + 4))
  refine lw_call (As := [.int (xs (i + 1)), .int (xs (i + 2)), .int (xs (i + 3)), .int (xs (i + 4))]) (st := []) C.1 C.2.2.2.2.1 C.2.2.2.2.2.2 zy_X9_counts zv_X9_counts ml_L_123 rcA_0 (by decide) (m_X9_counts e1) rfl rfl (Nat.le_of_ble_eq_true rfl) hl.1 dL_law_1010 hPA hPB hS (fun H locs hPA hPB hS => ?_)
  refine lv_aload_n hx hb dL_law_1013 rfl (lv_at hl 1 rfl) ?_
  refine lw_el (k := 1) (kI := 1) C (by omega) (by decide) rfl hl hS dL_law_1014 dL_law_1015 dL_law_1016 dL_law_1017 dL_law_1018 ?_
  refine lw_el (k := 2) (kI := 2) C (by omega) (by decide) rfl hl hS dL_law_1019 dL_law_1020 dL_law_1021 dL_law_1022 dL_law_1023 ?_
  refine lw_el (k := 3) (kI := 3) C (by omega) (by decide) rfl hl hS dL_law_1024 dL_law_1025 dL_law_1026 dL_law_1027 dL_law_1028 ?_
  refine lw_el (k := 4) (kI := 4) C (by omega) (by decide) rfl hl hS dL_law_1029 dL_law_1030 dL_law_1031 dL_law_1032 dL_law_1033 ?_
  refine lw_call (As := [.int (xs (i + 1)), .int (xs (i + 2)), .int (xs (i + 3)), .int (xs (i + 4))]) (st := [.int r]) C.1 C.2.2.2.2.2.1 (fun i j h1 h2 z => C.2.2.2.2.2.2 j i h2 h1 z.symm) zy_X10_counts zv_X10_counts ml_L_127 rcB_0 (by decide) (m_X10_counts e2) rfl rfl (Nat.le_of_ble_eq_true rfl) hl.1 dL_law_1034 hPB hPA hS (fun H locs hPB hPA hS => ?_)
  refine lv_icmp_eq (tgt := 1207) hx hb dL_law_1037 (by decide) (fun _ => ?_) (fun z => absurd rfl z)
  exact kend H locs σ1 τ1 _ a1 a2 a3 hPA hPB hS
set_option maxHeartbeats 4000000 in
theorem lc_26 {H : Heap} {locs : List Loc} {ls : Array Slot} {i : Nat} {σ τ : zS} {S : aS} (C : LwC p s m c b L xs GA GB) (hi : i + 6 ≤ L) (hA : RA σ S) (hB : RB τ S) (hI : Inv S) (hPA : va_P (gD GA) zcl (zW GA zshA σ) H) (hPB : va_P (gD GB) zcl (zW GB zshB τ) H) (hS : va_S (fun q => s.heap.size ≤ q) s.heap H locs) (hl : lv_has ls 4 [(3, .int (nI i)), (2, .ref (ga GB 0)), (1, .ref (ga GA 0)), (0, .ref b)]) (kend : ∀ (H1 : Heap) (locs1 : List Loc) (σ1 τ1 : zS) (S1 : aS), RA σ1 S1 → RB τ1 S1 → Inv S1 → va_P (gD GA) zcl (zW GA zshA σ1) H1 → va_P (gD GB) zcl (zW GB zshB τ1) H1 → va_S (fun q => s.heap.size ≤ q) s.heap H1 locs1 → W p l e room_1 s m #[Value.ref b] below meth c H1 locs1 63 2182 Q (F0 m 1207 ls [])) : W p l e room_1 s m #[Value.ref b] below meth c H locs 63 2182 Q (F0 m 1042 ls []) := by
  obtain ⟨hx, hb, hml, hown, hts⟩ := C.1
  refine lv_aload_n hx hb dL_law_1042 rfl (lv_at hl 2 rfl) ?_
  refine lw_el (k := 1) (kI := 1) C (by omega) (by decide) rfl hl hS dL_law_1043 dL_law_1044 dL_law_1045 dL_law_1046 dL_law_1047 ?_
  refine lw_el (k := 2) (kI := 2) C (by omega) (by decide) rfl hl hS dL_law_1048 dL_law_1049 dL_law_1050 dL_law_1051 dL_law_1052 ?_
  refine lw_el (k := 3) (kI := 3) C (by omega) (by decide) rfl hl hS dL_law_1053 dL_law_1054 dL_law_1055 dL_law_1056 dL_law_1057 ?_
  obtain ⟨r, σ1, τ1, e1, e2, a1, a2, a3⟩ := ag_miss hA hB hI (xs (i + 1)) (xs (i + 2)) (xs (i + 3))
  refine lw_call (As := [.int (xs (i + 1)), .int (xs (i + 2)), .int (xs (i + 3))]) (st := []) C.1 C.2.2.2.2.1 C.2.2.2.2.2.2 zy_X9_miss zv_X9_miss ml_L_128 rcA_0 (by decide) (m_X9_miss e1) rfl rfl (Nat.le_of_ble_eq_true rfl) hl.1 dL_law_1058 hPA hPB hS (fun H locs hPA hPB hS => ?_)
  refine lv_aload_n hx hb dL_law_1061 rfl (lv_at hl 1 rfl) ?_
  refine lw_el (k := 1) (kI := 1) C (by omega) (by decide) rfl hl hS dL_law_1062 dL_law_1063 dL_law_1064 dL_law_1065 dL_law_1066 ?_
  refine lw_el (k := 2) (kI := 2) C (by omega) (by decide) rfl hl hS dL_law_1067 dL_law_1068 dL_law_1069 dL_law_1070 dL_law_1071 ?_
  refine lw_el (k := 3) (kI := 3) C (by omega) (by decide) rfl hl hS dL_law_1072 dL_law_1073 dL_law_1074 dL_law_1075 dL_law_1076 ?_
  refine lw_call (As := [.int (xs (i + 1)), .int (xs (i + 2)), .int (xs (i + 3))]) (st := [.int r]) C.1 C.2.2.2.2.2.1 (fun i j h1 h2 z => C.2.2.2.2.2.2 j i h2 h1 z.symm) zy_X10_miss zv_X10_miss ml_L_131 rcB_0 (by decide) (m_X10_miss e2) rfl rfl (Nat.le_of_ble_eq_true rfl) hl.1 dL_law_1077 hPB hPA hS (fun H locs hPB hPA hS => ?_)
  refine lv_icmp_eq (tgt := 1207) hx hb dL_law_1080 (by decide) (fun _ => ?_) (fun z => absurd rfl z)
  exact kend H locs σ1 τ1 _ a1 a2 a3 hPA hPB hS
set_option maxHeartbeats 4000000 in
theorem lc_27 {H : Heap} {locs : List Loc} {ls : Array Slot} {i : Nat} {σ τ : zS} {S : aS} (C : LwC p s m c b L xs GA GB) (hi : i + 6 ≤ L) (hA : RA σ S) (hB : RB τ S) (hI : Inv S) (hPA : va_P (gD GA) zcl (zW GA zshA σ) H) (hPB : va_P (gD GB) zcl (zW GB zshB τ) H) (hS : va_S (fun q => s.heap.size ≤ q) s.heap H locs) (hl : lv_has ls 4 [(3, .int (nI i)), (2, .ref (ga GB 0)), (1, .ref (ga GA 0)), (0, .ref b)]) (kend : ∀ (H1 : Heap) (locs1 : List Loc) (σ1 τ1 : zS) (S1 : aS), RA σ1 S1 → RB τ1 S1 → Inv S1 → va_P (gD GA) zcl (zW GA zshA σ1) H1 → va_P (gD GB) zcl (zW GB zshB τ1) H1 → va_S (fun q => s.heap.size ≤ q) s.heap H1 locs1 → W p l e room_1 s m #[Value.ref b] below meth c H1 locs1 63 2182 Q (F0 m 1207 ls [])) : W p l e room_1 s m #[Value.ref b] below meth c H locs 63 2182 Q (F0 m 1085 ls []) := by
  obtain ⟨hx, hb, hml, hown, hts⟩ := C.1
  refine lv_aload_n hx hb dL_law_1085 rfl (lv_at hl 2 rfl) ?_
  refine lw_el (k := 1) (kI := 1) C (by omega) (by decide) rfl hl hS dL_law_1086 dL_law_1087 dL_law_1088 dL_law_1089 dL_law_1090 ?_
  refine lw_el (k := 2) (kI := 2) C (by omega) (by decide) rfl hl hS dL_law_1091 dL_law_1092 dL_law_1093 dL_law_1094 dL_law_1095 ?_
  obtain ⟨r, σ1, τ1, e1, e2, a1, a2, a3⟩ := ag_law hA hB hI (xs (i + 1)) (xs (i + 2))
  refine lw_call (As := [.int (xs (i + 1)), .int (xs (i + 2))]) (st := []) C.1 C.2.2.2.2.1 C.2.2.2.2.2.2 zy_X9_law zv_X9_law ml_L_132 rcA_0 (by decide) (m_X9_law e1) rfl rfl (Nat.le_of_ble_eq_true rfl) hl.1 dL_law_1096 hPA hPB hS (fun H locs hPA hPB hS => ?_)
  refine lv_aload_n hx hb dL_law_1099 rfl (lv_at hl 1 rfl) ?_
  refine lw_el (k := 1) (kI := 1) C (by omega) (by decide) rfl hl hS dL_law_1100 dL_law_1101 dL_law_1102 dL_law_1103 dL_law_1104 ?_
  refine lw_el (k := 2) (kI := 2) C (by omega) (by decide) rfl hl hS dL_law_1105 dL_law_1106 dL_law_1107 dL_law_1108 dL_law_1109 ?_
  refine lw_call (As := [.int (xs (i + 1)), .int (xs (i + 2))]) (st := [.int r]) C.1 C.2.2.2.2.2.1 (fun i j h1 h2 z => C.2.2.2.2.2.2 j i h2 h1 z.symm) zy_X10_law zv_X10_law ml_L_135 rcB_0 (by decide) (m_X10_law e2) rfl rfl (Nat.le_of_ble_eq_true rfl) hl.1 dL_law_1110 hPB hPA hS (fun H locs hPB hPA hS => ?_)
  refine lv_icmp_eq (tgt := 1207) hx hb dL_law_1113 (by decide) (fun _ => ?_) (fun z => absurd rfl z)
  exact kend H locs σ1 τ1 _ a1 a2 a3 hPA hPB hS
set_option maxHeartbeats 4000000 in
theorem lc_28 {H : Heap} {locs : List Loc} {ls : Array Slot} {i : Nat} {σ τ : zS} {S : aS} (C : LwC p s m c b L xs GA GB) (hi : i + 6 ≤ L) (hA : RA σ S) (hB : RB τ S) (hI : Inv S) (hPA : va_P (gD GA) zcl (zW GA zshA σ) H) (hPB : va_P (gD GB) zcl (zW GB zshB τ) H) (hS : va_S (fun q => s.heap.size ≤ q) s.heap H locs) (hl : lv_has ls 4 [(3, .int (nI i)), (2, .ref (ga GB 0)), (1, .ref (ga GA 0)), (0, .ref b)]) (kend : ∀ (H1 : Heap) (locs1 : List Loc) (σ1 τ1 : zS) (S1 : aS), RA σ1 S1 → RB τ1 S1 → Inv S1 → va_P (gD GA) zcl (zW GA zshA σ1) H1 → va_P (gD GB) zcl (zW GB zshB τ1) H1 → va_S (fun q => s.heap.size ≤ q) s.heap H1 locs1 → W p l e room_1 s m #[Value.ref b] below meth c H1 locs1 63 2182 Q (F0 m 1207 ls [])) : W p l e room_1 s m #[Value.ref b] below meth c H locs 63 2182 Q (F0 m 1118 ls []) := by
  obtain ⟨hx, hb, hml, hown, hts⟩ := C.1
  refine lv_aload_n hx hb dL_law_1118 rfl (lv_at hl 2 rfl) ?_
  refine lw_el (k := 1) (kI := 1) C (by omega) (by decide) rfl hl hS dL_law_1119 dL_law_1120 dL_law_1121 dL_law_1122 dL_law_1123 ?_
  refine lw_el (k := 2) (kI := 2) C (by omega) (by decide) rfl hl hS dL_law_1124 dL_law_1125 dL_law_1126 dL_law_1127 dL_law_1128 ?_
  obtain ⟨S1, r, σ1, τ1, e1, e2, a1, a2, a3⟩ := ag_dated hA hB hI (xs (i + 1)) (xs (i + 2))
  refine lw_call (As := [.int (xs (i + 1)), .int (xs (i + 2))]) (st := []) C.1 C.2.2.2.2.1 C.2.2.2.2.2.2 zy_X9_dated zv_X9_dated ml_L_136 rcA_0 (by decide) (m_X9_dated e1) rfl rfl (Nat.le_of_ble_eq_true rfl) hl.1 dL_law_1129 hPA hPB hS (fun H locs hPA hPB hS => ?_)
  refine lv_aload_n hx hb dL_law_1132 rfl (lv_at hl 1 rfl) ?_
  refine lw_el (k := 1) (kI := 1) C (by omega) (by decide) rfl hl hS dL_law_1133 dL_law_1134 dL_law_1135 dL_law_1136 dL_law_1137 ?_
  refine lw_el (k := 2) (kI := 2) C (by omega) (by decide) rfl hl hS dL_law_1138 dL_law_1139 dL_law_1140 dL_law_1141 dL_law_1142 ?_
  refine lw_call (As := [.int (xs (i + 1)), .int (xs (i + 2))]) (st := [.int r]) C.1 C.2.2.2.2.2.1 (fun i j h1 h2 z => C.2.2.2.2.2.2 j i h2 h1 z.symm) zy_X10_dated zv_X10_dated ml_L_139 rcB_0 (by decide) (m_X10_dated e2) rfl rfl (Nat.le_of_ble_eq_true rfl) hl.1 dL_law_1143 hPB hPA hS (fun H locs hPB hPA hS => ?_)
  refine lv_icmp_eq (tgt := 1207) hx hb dL_law_1146 (by decide) (fun _ => ?_) (fun z => absurd rfl z)
  exact kend H locs σ1 τ1 _ a1 a2 a3 hPA hPB hS
set_option maxHeartbeats 4000000 in
theorem lc_29 {H : Heap} {locs : List Loc} {ls : Array Slot} {i : Nat} {σ τ : zS} {S : aS} (C : LwC p s m c b L xs GA GB) (hi : i + 6 ≤ L) (hA : RA σ S) (hB : RB τ S) (hI : Inv S) (hPA : va_P (gD GA) zcl (zW GA zshA σ) H) (hPB : va_P (gD GB) zcl (zW GB zshB τ) H) (hS : va_S (fun q => s.heap.size ≤ q) s.heap H locs) (hl : lv_has ls 4 [(3, .int (nI i)), (2, .ref (ga GB 0)), (1, .ref (ga GA 0)), (0, .ref b)]) (kend : ∀ (H1 : Heap) (locs1 : List Loc) (σ1 τ1 : zS) (S1 : aS), RA σ1 S1 → RB τ1 S1 → Inv S1 → va_P (gD GA) zcl (zW GA zshA σ1) H1 → va_P (gD GB) zcl (zW GB zshB τ1) H1 → va_S (fun q => s.heap.size ≤ q) s.heap H1 locs1 → W p l e room_1 s m #[Value.ref b] below meth c H1 locs1 63 2182 Q (F0 m 1207 ls [])) : W p l e room_1 s m #[Value.ref b] below meth c H locs 63 2182 Q (F0 m 1151 ls []) := by
  obtain ⟨hx, hb, hml, hown, hts⟩ := C.1
  refine lv_aload_n hx hb dL_law_1151 rfl (lv_at hl 2 rfl) ?_
  refine lw_el (k := 1) (kI := 1) C (by omega) (by decide) rfl hl hS dL_law_1152 dL_law_1153 dL_law_1154 dL_law_1155 dL_law_1156 ?_
  refine lw_el (k := 2) (kI := 2) C (by omega) (by decide) rfl hl hS dL_law_1157 dL_law_1158 dL_law_1159 dL_law_1160 dL_law_1161 ?_
  obtain ⟨r, σ1, τ1, e1, e2, a1, a2, a3⟩ := ag_learnt hA hB hI (xs (i + 1)) (xs (i + 2))
  refine lw_call (As := [.int (xs (i + 1)), .int (xs (i + 2))]) (st := []) C.1 C.2.2.2.2.1 C.2.2.2.2.2.2 zy_X9_learnt zv_X9_learnt ml_L_140 rcA_0 (by decide) (m_X9_learnt e1) rfl rfl (Nat.le_of_ble_eq_true rfl) hl.1 dL_law_1162 hPA hPB hS (fun H locs hPA hPB hS => ?_)
  refine lv_aload_n hx hb dL_law_1165 rfl (lv_at hl 1 rfl) ?_
  refine lw_el (k := 1) (kI := 1) C (by omega) (by decide) rfl hl hS dL_law_1166 dL_law_1167 dL_law_1168 dL_law_1169 dL_law_1170 ?_
  refine lw_el (k := 2) (kI := 2) C (by omega) (by decide) rfl hl hS dL_law_1171 dL_law_1172 dL_law_1173 dL_law_1174 dL_law_1175 ?_
  refine lw_call (As := [.int (xs (i + 1)), .int (xs (i + 2))]) (st := [.int r]) C.1 C.2.2.2.2.2.1 (fun i j h1 h2 z => C.2.2.2.2.2.2 j i h2 h1 z.symm) zy_X10_learnt zv_X10_learnt ml_L_143 rcB_0 (by decide) (m_X10_learnt e2) rfl rfl (Nat.le_of_ble_eq_true rfl) hl.1 dL_law_1176 hPB hPA hS (fun H locs hPB hPA hS => ?_)
  refine lv_icmp_eq (tgt := 1207) hx hb dL_law_1179 (by decide) (fun _ => ?_) (fun z => absurd rfl z)
  exact kend H locs σ1 τ1 _ a1 a2 a3 hPA hPB hS
set_option maxHeartbeats 4000000 in
theorem lc_30 {H : Heap} {locs : List Loc} {ls : Array Slot} {i : Nat} {σ τ : zS} {S : aS} (C : LwC p s m c b L xs GA GB) (hi : i + 6 ≤ L) (hA : RA σ S) (hB : RB τ S) (hI : Inv S) (hPA : va_P (gD GA) zcl (zW GA zshA σ) H) (hPB : va_P (gD GB) zcl (zW GB zshB τ) H) (hS : va_S (fun q => s.heap.size ≤ q) s.heap H locs) (hl : lv_has ls 4 [(3, .int (nI i)), (2, .ref (ga GB 0)), (1, .ref (ga GA 0)), (0, .ref b)]) (kend : ∀ (H1 : Heap) (locs1 : List Loc) (σ1 τ1 : zS) (S1 : aS), RA σ1 S1 → RB τ1 S1 → Inv S1 → va_P (gD GA) zcl (zW GA zshA σ1) H1 → va_P (gD GB) zcl (zW GB zshB τ1) H1 → va_S (fun q => s.heap.size ≤ q) s.heap H1 locs1 → W p l e room_1 s m #[Value.ref b] below meth c H1 locs1 63 2182 Q (F0 m 1207 ls [])) : W p l e room_1 s m #[Value.ref b] below meth c H locs 63 2182 Q (F0 m 1184 ls []) := by
  obtain ⟨hx, hb, hml, hown, hts⟩ := C.1
  refine lv_aload_n hx hb dL_law_1184 rfl (lv_at hl 2 rfl) ?_
  refine lw_el (k := 1) (kI := 1) C (by omega) (by decide) rfl hl hS dL_law_1185 dL_law_1186 dL_law_1187 dL_law_1188 dL_law_1189 ?_
  obtain ⟨r, σ1, τ1, e1, e2, a1, a2, a3⟩ := ag_count hA hB hI (xs (i + 1))
  refine lw_call (As := [.int (xs (i + 1))]) (st := []) C.1 C.2.2.2.2.1 C.2.2.2.2.2.2 zy_X9_count zv_X9_count ml_L_144 rcA_0 (by decide) (m_X9_count e1) rfl rfl (Nat.le_of_ble_eq_true rfl) hl.1 dL_law_1190 hPA hPB hS (fun H locs hPA hPB hS => ?_)
  refine lv_aload_n hx hb dL_law_1193 rfl (lv_at hl 1 rfl) ?_
  refine lw_el (k := 1) (kI := 1) C (by omega) (by decide) rfl hl hS dL_law_1194 dL_law_1195 dL_law_1196 dL_law_1197 dL_law_1198 ?_
  refine lw_call (As := [.int (xs (i + 1))]) (st := [.int r]) C.1 C.2.2.2.2.2.1 (fun i j h1 h2 z => C.2.2.2.2.2.2 j i h2 h1 z.symm) zy_X10_count zv_X10_count ml_L_147 rcB_0 (by decide) (m_X10_count e2) rfl rfl (Nat.le_of_ble_eq_true rfl) hl.1 dL_law_1199 hPB hPA hS (fun H locs hPB hPA hS => ?_)
  refine lv_icmp_eq (tgt := 1207) hx hb dL_law_1202 (by decide) (fun _ => ?_) (fun z => absurd rfl z)
  exact kend H locs σ1 τ1 _ a1 a2 a3 hPA hPB hS
set_option maxHeartbeats 4000000 in
set_option maxRecDepth 100000 in
/-- the switch -/
theorem lw_case {H : Heap} {locs : List Loc} {ls : Array Slot} {i : Nat} {σ τ : zS} {S : aS} (C : LwC p s m c b L xs GA GB) (hi : i + 6 ≤ L) (hA : RA σ S) (hB : RB τ S) (hI : Inv S) (hPA : va_P (gD GA) zcl (zW GA zshA σ) H) (hPB : va_P (gD GB) zcl (zW GB zshB τ) H) (hS : va_S (fun q => s.heap.size ≤ q) s.heap H locs) (hl : lv_has ls 4 [(3, .int (nI i)), (2, .ref (ga GB 0)), (1, .ref (ga GA 0)), (0, .ref b)]) {j : Nat} (hj : j < 32) (kend : ∀ (H1 : Heap) (locs1 : List Loc) (σ1 τ1 : zS) (S1 : aS), RA σ1 S1 → RB τ1 S1 → Inv S1 → va_P (gD GA) zcl (zW GA zshA σ1) H1 → va_P (gD GB) zcl (zW GB zshB τ1) H1 → va_S (fun q => s.heap.size ≤ q) s.heap H1 locs1 → W p l e room_1 s m #[Value.ref b] below meth c H1 locs1 63 2182 Q (F0 m 1207 ls [])) : W p l e room_1 s m #[Value.ref b] below meth c H locs 63 2182 Q (F0 m 33 ls [.int (nI j)]) := by
  obtain ⟨hx, hb, hml, hown, hts⟩ := C.1
  match j, hj with
  | 0, _ => exact lv_tableIn (off := 139) (tgt := 172) hx hb dL_law_33 (by decide) (by decide) (by decide) (by decide) (lc_0 C hi hA hB hI hPA hPB hS hl kend)
  | 1, _ => exact lv_tableIn (off := 202) (tgt := 235) hx hb dL_law_33 (by decide) (by decide) (by decide) (by decide) (lc_1 C hi hA hB hI hPA hPB hS hl kend)
  | 2, _ => exact lv_tableIn (off := 215) (tgt := 248) hx hb dL_law_33 (by decide) (by decide) (by decide) (by decide) (lc_2 C hi hA hB hI hPA hPB hS hl kend)
  | 3, _ => exact lv_tableIn (off := 228) (tgt := 261) hx hb dL_law_33 (by decide) (by decide) (by decide) (by decide) (lc_3 C hi hA hB hI hPA hPB hS hl kend)
  | 4, _ => exact lv_tableIn (off := 241) (tgt := 274) hx hb dL_law_33 (by decide) (by decide) (by decide) (by decide) (lc_4 C hi hA hB hI hPA hPB hS hl kend)
  | 5, _ => exact lv_tableIn (off := 274) (tgt := 307) hx hb dL_law_33 (by decide) (by decide) (by decide) (by decide) (lc_5 C hi hA hB hI hPA hPB hS hl kend)
  | 6, _ => exact lv_tableIn (off := 307) (tgt := 340) hx hb dL_law_33 (by decide) (by decide) (by decide) (by decide) (lc_6 C hi hA hB hI hPA hPB hS hl kend)
  | 7, _ => exact lv_tableIn (off := 350) (tgt := 383) hx hb dL_law_33 (by decide) (by decide) (by decide) (by decide) (lc_7 C hi hA hB hI hPA hPB hS hl kend)
  | 8, _ => exact lv_tableIn (off := 413) (tgt := 446) hx hb dL_law_33 (by decide) (by decide) (by decide) (by decide) (lc_8 C hi hA hB hI hPA hPB hS hl kend)
  | 9, _ => exact lv_tableIn (off := 456) (tgt := 489) hx hb dL_law_33 (by decide) (by decide) (by decide) (by decide) (lc_9 C hi hA hB hI hPA hPB hS hl kend)
  | 10, _ => exact lv_tableIn (off := 499) (tgt := 532) hx hb dL_law_33 (by decide) (by decide) (by decide) (by decide) (lc_10 C hi hA hB hI hPA hPB hS hl kend)
  | 11, _ => exact lv_tableIn (off := 532) (tgt := 565) hx hb dL_law_33 (by decide) (by decide) (by decide) (by decide) (lc_11 C hi hA hB hI hPA hPB hS hl kend)
  | 12, _ => exact lv_tableIn (off := 565) (tgt := 598) hx hb dL_law_33 (by decide) (by decide) (by decide) (by decide) (lc_12 C hi hA hB hI hPA hPB hS hl kend)
  | 13, _ => exact lv_tableIn (off := 588) (tgt := 621) hx hb dL_law_33 (by decide) (by decide) (by decide) (by decide) (lc_13 C hi hA hB hI hPA hPB hS hl kend)
  | 14, _ => exact lv_tableIn (off := 611) (tgt := 644) hx hb dL_law_33 (by decide) (by decide) (by decide) (by decide) (lc_14 C hi hA hB hI hPA hPB hS hl kend)
  | 15, _ => exact lv_tableIn (off := 644) (tgt := 677) hx hb dL_law_33 (by decide) (by decide) (by decide) (by decide) (lc_15 C hi hA hB hI hPA hPB hS hl kend)
  | 16, _ => exact lv_tableIn (off := 667) (tgt := 700) hx hb dL_law_33 (by decide) (by decide) (by decide) (by decide) (lc_16 C hi hA hB hI hPA hPB hS hl kend)
  | 17, _ => exact lv_tableIn (off := 700) (tgt := 733) hx hb dL_law_33 (by decide) (by decide) (by decide) (by decide) (lc_17 C hi hA hB hI hPA hPB hS hl kend)
  | 18, _ => exact lv_tableIn (off := 723) (tgt := 756) hx hb dL_law_33 (by decide) (by decide) (by decide) (by decide) (lc_18 C hi hA hB hI hPA hPB hS hl kend)
  | 19, _ => exact lv_tableIn (off := 746) (tgt := 779) hx hb dL_law_33 (by decide) (by decide) (by decide) (by decide) (lc_19 C hi hA hB hI hPA hPB hS hl kend)
  | 20, _ => exact lv_tableIn (off := 769) (tgt := 802) hx hb dL_law_33 (by decide) (by decide) (by decide) (by decide) (lc_20 C hi hA hB hI hPA hPB hS hl kend)
  | 21, _ => exact lv_tableIn (off := 848) (tgt := 881) hx hb dL_law_33 (by decide) (by decide) (by decide) (by decide) (lc_21 C hi hA hB hI hPA hPB hS hl kend)
  | 22, _ => exact lv_tableIn (off := 917) (tgt := 950) hx hb dL_law_33 (by decide) (by decide) (by decide) (by decide) (lc_22 C hi hA hB hI hPA hPB hS hl kend)
  | 23, _ => exact lv_tableIn (off := 930) (tgt := 963) hx hb dL_law_33 (by decide) (by decide) (by decide) (by decide) (lc_23 C hi hA hB hI hPA hPB hS hl kend)
  | 24, _ => exact lv_tableIn (off := 943) (tgt := 976) hx hb dL_law_33 (by decide) (by decide) (by decide) (by decide) (lc_24 C hi hA hB hI hPA hPB hS hl kend)
  | 25, _ => exact lv_tableIn (off := 956) (tgt := 989) hx hb dL_law_33 (by decide) (by decide) (by decide) (by decide) (lc_25 C hi hA hB hI hPA hPB hS hl kend)
  | 26, _ => exact lv_tableIn (off := 1009) (tgt := 1042) hx hb dL_law_33 (by decide) (by decide) (by decide) (by decide) (lc_26 C hi hA hB hI hPA hPB hS hl kend)
  | 27, _ => exact lv_tableIn (off := 1052) (tgt := 1085) hx hb dL_law_33 (by decide) (by decide) (by decide) (by decide) (lc_27 C hi hA hB hI hPA hPB hS hl kend)
  | 28, _ => exact lv_tableIn (off := 1085) (tgt := 1118) hx hb dL_law_33 (by decide) (by decide) (by decide) (by decide) (lc_28 C hi hA hB hI hPA hPB hS hl kend)
  | 29, _ => exact lv_tableIn (off := 1118) (tgt := 1151) hx hb dL_law_33 (by decide) (by decide) (by decide) (by decide) (lc_29 C hi hA hB hI hPA hPB hS hl kend)
  | 30, _ => exact lv_tableIn (off := 1151) (tgt := 1184) hx hb dL_law_33 (by decide) (by decide) (by decide) (by decide) (lc_30 C hi hA hB hI hPA hPB hS hl kend)
  | 31, _ => exact lv_tableOut (tgt := 1207) hx hb dL_law_33 (by decide) (by decide) (kend H locs σ τ S hA hB hI hPA hPB hS)
  | j + 32, h => omega
set_option maxHeartbeats 4000000 in
theorem lw_loop (C : LwC p s m c b L xs GA GB) (kend : ∀ (H1 : Heap) (locs1 : List Loc) (ls1 : Array Slot), va_S (fun q => s.heap.size ≤ q) s.heap H1 locs1 → W p l e room_1 s m #[Value.ref b] below meth c H1 locs1 63 2182 Q (F0 m 1213 ls1 [])) :
    ∀ (n i : Nat) (H : Heap) (locs : List Loc) (ls : Array Slot) (σ τ : zS) (S : aS), L < i + n → i ≤ L → RA σ S → RB τ S → Inv S → va_P (gD GA) zcl (zW GA zshA σ) H → va_P (gD GB) zcl (zW GB zshB τ) H → va_S (fun q => s.heap.size ≤ q) s.heap H locs → lv_has ls 4 [(3, .int (nI i)), (2, .ref (ga GB 0)), (1, .ref (ga GA 0)), (0, .ref b)] → W p l e room_1 s m #[Value.ref b] below meth c H locs 63 2182 Q (F0 m 18 ls []) := by
  have C0 := C
  obtain ⟨⟨hx, hb, hml, hown, hts⟩, hX, hbl, hL, -⟩ := C
  have hbA : ¬ (fun q : Nat => s.heap.size ≤ q) b := Nat.not_le.mpr hbl
  intro n
  induction n with
  | zero => intro i H locs ls σ τ S h1 h2; omega
  | succ n ih =>
    intro i H locs ls σ τ S h1 h2 hA hB hI hPA hPB hS hl
    refine lv_iload_n hx hb dL_law_18 rfl (lv_at hl 0 rfl) ?_
    refine lv_aload_n hx hb dL_law_19 rfl (lv_at hl 3 rfl) ?_
    refine va_slen hx hb hX hbl hbA hS dL_law_20 ?_
    refine lv_bipush (v := 6) hx hb dL_law_21 (by decide) ?_
    refine lv_isub hx hb dL_law_23 ?_
    have e6 : (Int32.ofNat L - 6).toInt = (L : Int) - 6 := pk_sub_toInt (a := L) (b := 6) (by omega) (by omega)
    have ei : (nI i).toInt = (i : Int) := nI_toInt (by omega)
    refine lv_icmp_gt (tgt := 1213) hx hb dL_law_24 (by decide) (fun _ => kend H locs ls hS) (fun hc => ?_)
    have hi6 : i + 6 ≤ L := by
      rw [Int32.lt_iff_toInt_lt, e6, ei] at hc
      omega
    refine lv_aload_n hx hb dL_law_27 rfl (lv_at hl 3 rfl) ?_
    refine lv_iload_n hx hb dL_law_28 rfl (lv_at hl 0 rfl) ?_
    refine va_sld hx hb hX hbl hbA hS (vp_in_nI (by omega) (by omega)) dL_law_29 ?_
    refine lv_bipush (v := 31) hx hb dL_law_30 (by decide) ?_
    refine lv_iand hx hb dL_law_32 ?_
    obtain ⟨j, hj, ej⟩ := pk_andE (xs (nI i).toNatClampNeg) (m := 31) 5 rfl
    rw [ej]
    refine lw_case C0 hi6 hA hB hI hPA hPB hS hl (by omega) (fun H1 locs1 σ1 τ1 S1 a1 a2 a3 p1 p2 hS1 => ?_)
    refine lv_iinc (v := nI (i + 6)) (lv' := [(3, .int (nI (i + 6))), (2, .ref (ga GB 0)), (1, .ref (ga GA 0)), (0, .ref b)]) hx hb dL_law_1207 hl (k := 0) rfl (nI_add i 6) (by decide) rfl (fun ls hl => ?_)
    refine lv_goto (tgt := 18) hx hb dL_law_1210 (by decide) ?_
    exact ih (i + 6) H1 locs1 ls σ1 τ1 S1 (by omega) hi6 a1 a2 a3 p1 p2 hS1 hl
end LAWC
