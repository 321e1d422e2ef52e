/-! THE MIDDLE LAYER. A state of a system: cell number, slot number ↦ int. -/
abbrev zS : Type := Nat → Nat → Int32
def zsa (σ : zS) (k : Nat) (g : Nat → Int32) : zS := fun a => if a = k then g else σ a
def zup (σ : zS) (k j : Nat) (v : Int32) : zS := zsa σ k (upd (σ k) j v)
/-- a cell's shape: an object (number of its kind, slots: int, long, reference to a cell), or a row (booleans?, length) -/
abbrev zC : Type := (Nat × List (Bool ⊕ Nat)) ⊕ (Bool × Nat)
abbrev zG : Type := (Nat → ClassId) × (Nat → Nat → Nat) × ClassId × ClassId × (Nat → Nat) × (Nat → Nat) × (Nat → Nat)
abbrev gD (G : zG) : va_G := (G.1, G.2.1)
abbrev gi (G : zG) : ClassId := G.2.2.1
abbrev gz (G : zG) : ClassId := G.2.2.2.1
abbrev ga (G : zG) : Nat → Nat := G.2.2.2.2.1
abbrev gk (G : zG) : Nat → Nat := G.2.2.2.2.2.1
abbrev gv (G : zG) : Nat → Nat := G.2.2.2.2.2.2
def zlo (x : Int64) : Int32 := Int32.ofBitVec (x.toBitVec.extractLsb' 0 32)
def zhi (x : Int64) : Int32 := Int32.ofBitVec (x.toBitVec.extractLsb' 32 32)
def zlg (lo hi : Int32) : Int64 := Int64.ofBitVec (hi.toBitVec ++ lo.toBitVec)
theorem zlg_eq (x : Int64) : zlg (zlo x) (zhi x) = x := by
  have h : (zlg (zlo x) (zhi x)).toBitVec = x.toBitVec := by
    show (BitVec.extractLsb' 32 32 x.toBitVec ++ BitVec.extractLsb' 0 32 x.toBitVec) = x.toBitVec
    apply BitVec.eq_of_getLsbD_eq
    intro i hi
    rw [BitVec.getLsbD_append]
    by_cases h : i < 32
    · simp [h]
    · have h2 : i - 32 < 32 := by omega
      have h3 : 32 + (i - 32) = i := by omega
      simp [h, h2, h3]
  exact Int64.toBitVec_inj.mp h
def zF (G : zG) (σ : zS) (k j : Nat) (o : Bool ⊕ Nat) : Value := match o with
  | .inl false => .int (σ k j)
  | .inl true => .long (zlg (σ k j) (σ k (j + 1000)))
  | .inr q => .ref (ga G q)
def zE (G : zG) (σ : zS) (k : Nat) (c : zC) : va_E := match c with
  | .inl o => .inr (o.1, o.2.mapIdx (zF G σ k))
  | .inr a => .inl (if a.1 then gz G else gi G, a.2, .inl (σ k))
def zW (G : zG) (sh : List zC) (σ : zS) : va_W := sh.mapIdx (fun k c => (ga G k, zE G σ k c))
abbrev ztys (G : zG) : List (ClassId × FieldType) := [(gi G, .int), (gz G, .boolean)]
theorem zW_get {G : zG} {sh : List zC} {σ : zS} {k : Nat} {c : zC} (h : sh[k]? = some c) : (zW G sh σ)[k]? = some (ga G k, zE G σ k c) := by
  simp [zW, List.getElem?_mapIdx, h]
theorem zE_congr {G : zG} {σ σ' : zS} {k : Nat} (h : σ' k = σ k) (c : zC) : zE G σ' k c = zE G σ k c := by
  have e : zF G σ' k = zF G σ k := by
    funext j o
    cases o with
    | inl b => cases b <;> simp [zF, h]
    | inr q => rfl
  cases c with
  | inl o => simp [zE, e]
  | inr a => simp [zE, h]
theorem zW_set {G : zG} {sh : List zC} {σ σ' : zS} {k : Nat} {c : zC} (h : sh[k]? = some c) (ho : ∀ a, a ≠ k → σ' a = σ a) : (zW G sh σ).set k (ga G k, zE G σ' k c) = zW G sh σ' := by
  apply List.ext_getElem?
  intro i
  have hl : k < (zW G sh σ).length := by
    have := (List.getElem?_eq_some_iff.mp h).1
    simpa [zW] using this
  by_cases hi : i = k
  · subst hi
    rw [List.getElem?_set_self hl, zW_get h]
  · rw [List.getElem?_set_ne (Ne.symm hi)]
    simp only [zW, List.getElem?_mapIdx]
    cases sh[i]? with
    | none => rfl
    | some c' => simp only [Option.map_some]; rw [zE_congr (ho i hi)]
theorem zD_any {G : zG} {sh : List zC} {σ σ' : zS} {A : Nat → Prop} (h : va_D A (zW G sh σ)) : va_D A (zW G sh σ') := by
  have key : ∀ (i : Nat) (p : Nat × va_E), (zW G sh σ')[i]? = some p → ∃ q, (zW G sh σ)[i]? = some q ∧ q.1 = p.1 := by
    intro i p hp
    simp only [zW, List.getElem?_mapIdx] at hp ⊢
    cases hc : sh[i]? with
    | none => rw [hc] at hp; cases hp
    | some c => rw [hc] at hp; cases hp; exact ⟨_, rfl, rfl⟩
  refine ⟨fun i j p q hi hj e => ?_, fun k q hk => ?_⟩
  · obtain ⟨p', h1, h2⟩ := key i p hi
    obtain ⟨q', h3, h4⟩ := key j q hj
    exact h.1 i j p' q' h1 h3 (h2.trans (e.trans h4.symm))
  · obtain ⟨q', h1, h2⟩ := key k q hk
    rw [← h2]
    exact h.2 k q' h1
def zA (G : zG) (sh : List zC) (sz : Nat) : Nat → Prop := fun q => (∃ k, k < sh.length ∧ q = ga G k) ∨ sz ≤ q
theorem zA_le {G : zG} {sh : List zC} {a b q : Nat} (h : a ≤ b) (hq : zA G sh b q) : zA G sh a q := hq.elim Or.inl (fun z => Or.inr (Nat.le_trans h z))
theorem zD_A {G : zG} {sh : List zC} {σ σ' : zS} {A : Nat → Prop} (sz : Nat) (h : va_D A (zW G sh σ)) : va_D (zA G sh sz) (zW G sh σ') := by
  have h' := zD_any (σ' := σ') h
  refine ⟨h'.1, fun k q hk => ?_⟩
  simp only [zW, List.getElem?_mapIdx] at hk
  cases hc : sh[k]? with
  | none => rw [hc] at hk; cases hk
  | some c => rw [hc] at hk; cases hk; exact Or.inl ⟨k, (List.getElem?_eq_some_iff.mp hc).1, rfl⟩
def zlen : List Nat := [5, 4, 4, 4, 4, 3, 4, 7, 3, 1]
def zbyt : List (List Int32) := [[112, 108, 97, 99, 101], [102, 108, 111, 119], [108, 97, 110, 100], [98, 111, 97, 116], [110, 101, 97, 114], [102, 97, 114], [80, 89, 90, 87], [70, 80, 89, 65, 66, 67, 83], [80, 81, 77], [78]]
def zStrs : List (String × Nat × String) := [(RX7, 87, "place"), (RX7, 89, "flow"), (RX7, 91, "land"), (RX7, 93, "boat"), (RX7, 95, "near"), (RX7, 97, "far"), (RX7, 99, "PYZW"), (RX7, 101, "FPYABCS"), (RX7, 103, "PQM"), (RX7, 105, "N")]
def zNests : List (String × Nat × MethodName × String) := [(RX7, 77, yX9_isWithin, "BlackGlass"), (RX7, 107, yX9_isPlace, "BlackGlass"), (RX3, 56, yX9_isWithin, "BlackGlass"), (RX0, 47, yX9_numberAt, "BlackGlass"), (RX0, 43, yX9_isWithin, "BlackGlass"), (RX2, 46, yX9_cut, "BlackGlass"), (RX2, 68, yX9_hasBit, "BlackGlass"), (RX2, 78, yX9_lesser, "BlackGlass"), (RX8, 120, yX9_cut, "BlackGlass"), (RX5, 84, yX9_hasBit, "BlackGlass"), (RX5, 56, yX9_isWithin, "BlackGlass"), (RX4, 27, yX9_hasBit, "BlackGlass"), (RX4, 49, yX9_lesser, "BlackGlass"), (RX4, 77, yX9_isWithin, "BlackGlass"), (RX6, 50, yX9_cut, "BlackGlass"), (RX1, 46, yX9_cut, "BlackGlass")]
/-- what else goes along: links among nest mates, the String constants, two statics -/
def zX (G : zG) (sh : List zC) (sz : Nat) (U : State) : Prop :=
  (∀ q ∈ zNests, va_Nw (.methodLinkNest q.1 q.2.1 q.2.2.1 q.2.2.2) U) ∧ (∀ (i : Nat) (q : String × Nat × String), zStrs[i]? = some q → vk_R q.1 q.2.1 q.2.2 (gk G i) U) ∧
  vk_S 10 zlen zbyt (gk G) (gv G) (zA G sh sz) U U.heap ∧ va_Z "java/lang/String" "COMPACT_STRINGS" "Z" (.int 1) (zA G sh sz) U U.heap ∧ va_Zq "jdk/internal/util/Preconditions" "SIOOBE_FORMATTER" "Ljava/util/function/BiFunction;" (zA G sh sz) U U.heap
theorem zX_same {G : zG} {sh : List zC} {sz : Nat} {u U : State} (hv : U.vm = u.vm) (hh : U.heap = u.heap) (h : zX G sh sz u) : zX G sh sz U := by
  obtain ⟨h1, h2, h3, h4, h5⟩ := h
  have ha : u.vm.Alike U.vm := by rw [hv]; exact Vm.Alike.refl _
  refine ⟨fun q hq => va_Nw.same rfl hv.symm (h1 q hq), fun i q hq => vk_R.same hv (h2 i q hq), ?_, ?_, ?_⟩
  · rw [hh]; exact vk_S.moved ha h3
  · rw [hh]; exact va_Z.moved ha h4
  · rw [hh]; exact va_Zq.moved ha h5
theorem zX_go {G : zG} {sh : List zC} {s U : State} {H : Heap} {locs : List Loc} (h : zX G sh s.heap.size s) (hS : va_S (zA G sh s.heap.size) s.heap H locs) (hW : s.WarmedH U.vm) (hU : U.heap = H) : zX G sh H.size U := by
  obtain ⟨h1, h2, h3, h4, h5⟩ := h
  have hn : ∀ q, zA G sh H.size q → zA G sh s.heap.size q := fun q hq => zA_le hS.1 hq
  refine ⟨fun q hq => va_Nw.warmM hW (h1 q hq), fun i q hq => vk_R.warm hW (h2 i q hq), ?_, ?_, ?_⟩
  · rw [hU]; exact (vk_S.moved hW.alike (h3.kept hS.2.1)).narrow hn
  · rw [hU]; exact (va_Z.moved hW.alike (h4.kept hS.2.1)).narrow hn
  · rw [hU]; exact (va_Zq.moved hW.alike (h5.kept hS.2.1)).narrow hn
/-! contracts -/
def zPc (G : zG) (sh : List zC) (sz : Nat) (av : List Value) (σ : zS) : Array Value → State → Prop := va_Pc av (fun U => U.heap.size = sz ∧ va_P (gD G) zcl (zW G sh σ) U.heap ∧ va_K (gD G) zcl (ztys G) U ∧ va_D (fun _ => True) (zW G sh σ) ∧ zX G sh sz U)
def zQc (G : zG) (sh : List zC) (sz : Nat) (o : Option Value) (σ' : zS) : Array Value → State → Outcome → State → Prop := fun _ st oc t => (oc = .returned o ∧ va_P (gD G) zcl (zW G sh σ') t.heap) ∧ va_F (zA G sh sz) st t
def zrm (n : Nat) : Room := { frames := n, cells := 0, slots := 0, locals := 35 * n }
def zM (l : Launch) (G : zG) (sh : List zC) (y : MethodName) (b : ByteArray) (mL : Nat) (ret : Option FieldType) (n : Nat) (av : List Value) (o : Option Value) (σ σ' : zS) : Prop :=
  ∀ sz : Nat, Met l y (.code y b mL ret :: zT) (zrm n) (zPc G sh sz av σ) (zQc G sh sz o σ') 0 0 (zA G sh sz)
theorem zPc_blind {G : zG} {sh : List zC} {sz : Nat} {av : List Value} {σ : zS} : FrameBlind (zPc G sh sz av σ) := by
  intro a U g mk h
  obtain ⟨h0, h1, h2, h3, h4, h5⟩ := h
  exact ⟨h0, h1, h2, va_K.moved (u := U) (U := U.calling g mk a) (Vm.Alike.refl U.vm) h3, h4, zX_same (u := U) (U := U.calling g mk a) rfl rfl h5⟩
/-! the context of a walk: machine; addresses, number of locals, level; the end -/
abbrev zK : Type := (Program × Launch × Env × State × MethodId × Array Value × List Frame × Method × Code) × (zG × Nat × Nat) × (Option Value × Int32 × zS)
abbrev kp (K : zK) : Program := K.1.1
abbrev kl (K : zK) : Launch := K.1.2.1
abbrev ke (K : zK) : Env := K.1.2.2.1
abbrev ks (K : zK) : State := K.1.2.2.2.1
abbrev km (K : zK) : MethodId := K.1.2.2.2.2.1
abbrev kg (K : zK) : Array Value := K.1.2.2.2.2.2.1
abbrev kb (K : zK) : List Frame := K.1.2.2.2.2.2.2.1
abbrev kt (K : zK) : Method := K.1.2.2.2.2.2.2.2.1
abbrev kc (K : zK) : Code := K.1.2.2.2.2.2.2.2.2
abbrev kG (K : zK) : zG := K.2.1.1
abbrev kL (K : zK) : Nat := K.2.1.2.1
abbrev kN (K : zK) : Nat := K.2.1.2.2
abbrev ko (K : zK) : Option Value := K.2.2.1
abbrev kr (K : zK) : Int32 := K.2.2.2.1
abbrev kx (K : zK) : zS := K.2.2.2.2
def Zw (sh : List zC) (K : zK) (pc : Nat) (lv : List (Nat × Value)) (st : List Value) (σ : zS) : Prop :=
  ∀ (H : Heap) (locs : List Loc) (ls : Array Slot), va_P (gD (kG K)) zcl (zW (kG K) sh σ) H → va_S (zA (kG K) sh (ks K).heap.size) (ks K).heap H locs → lv_has ls (kL K) lv →
    W (kp K) (kl K) (ke K) (zrm (kN K)) (ks K) (km K) (kg K) (kb K) (kt K) (kc K) H locs 0 0 (MQ (kb K) (zQc (kG K) sh (ks K).heap.size (ko K) (kx K)) (kg K) (ks K) 0 0 (zA (kG K) sh (ks K).heap.size)) (F0 (km K) pc ls st)
def zov (ret : Option FieldType) (G : zG) (r : Int32) : Option Value := match ret with
  | none => none
  | some (.object _) => some (.ref (gk G r.toNatClampNeg))
  | some _ => some (.int r)
def zOk (sh : List zC) (K : zK) (own : String) (cc : ByteArray) (ret : Option FieldType) (mL n : Nat) : Prop :=
  ((kp K).tables.exec = Jvm.exec ∧ (kc K).code = cc ∧ (kc K).maxLocals = kL K ∧ (ks K).vm.findClass own = some (km K).cls ∧ (∀ w ∈ zT, w.before (kg K) (ks K) = true)) ∧
  va_K (gD (kG K)) zcl (ztys (kG K)) (ks K) ∧ (∀ σ, va_D (zA (kG K) sh (ks K).heap.size) (zW (kG K) sh σ)) ∧ (kt K).locks = false ∧ (kt K).sig.returnType = ret ∧ zX (kG K) sh (ks K).heap.size (ks K) ∧ kL K = mL ∧ kN K = n ∧ ko K = zov ret (kG K) (kr K)
def Zf (sh : List zC) (K : zK) (X : Option (Int32 × zS)) (pc : Nat) (lv : List (Nat × Value)) (st : List Value) (σ : zS) : Prop := X = some (kr K, kx K) → Zw sh K pc lv st σ
section ZACC
variable {sh : List zC} {K : zK} {own : String} {cc : ByteArray} {ret : Option FieldType} {mL n : Nat}
theorem zOk.hx (C : zOk sh K own cc ret mL n) : (kp K).tables.exec = Jvm.exec := C.1.1
theorem zOk.hb (C : zOk sh K own cc ret mL n) : (kc K).code = cc := C.1.2.1
theorem zOk.hown (C : zOk sh K own cc ret mL n) : (ks K).vm.findClass own = some (km K).cls := C.1.2.2.2.1
theorem zOk.hts (C : zOk sh K own cc ret mL n) : ∀ w ∈ zT, w.before (kg K) (ks K) = true := C.1.2.2.2.2
theorem zOk.hK (C : zOk sh K own cc ret mL n) : va_K (gD (kG K)) zcl (ztys (kG K)) (ks K) := C.2.1
theorem zOk.hD (C : zOk sh K own cc ret mL n) (σ : zS) : va_D (zA (kG K) sh (ks K).heap.size) (zW (kG K) sh σ) := C.2.2.1 σ
theorem zOk.hlocks (C : zOk sh K own cc ret mL n) : (kt K).locks = false := C.2.2.2.1
theorem zOk.hr (C : zOk sh K own cc ret mL n) : (kt K).sig.returnType = ret := C.2.2.2.2.1
theorem zOk.hX (C : zOk sh K own cc ret mL n) : zX (kG K) sh (ks K).heap.size (ks K) := C.2.2.2.2.2.1
theorem zOk.hL (C : zOk sh K own cc ret mL n) : kL K = mL := C.2.2.2.2.2.2.1
theorem zOk.hN (C : zOk sh K own cc ret mL n) : kN K = n := C.2.2.2.2.2.2.2.1
theorem zOk.ho (C : zOk sh K own cc ret mL n) : ko K = zov ret (kG K) (kr K) := C.2.2.2.2.2.2.2.2
end ZACC
/-- the contract out of the walk -/
theorem z_met {l : Launch} {G : zG} {sh : List zC} {y : MethodName} {b : ByteArray} {mL n : Nat} {ret : Option FieldType} {av : List Value} {σ σ' : zS} {r : Int32} {X : Option (Int32 × zS)} (hy : plainName y.cls = true) (hlen : (lg_sl av).length ≤ mL) (hX : X = some (r, σ'))
    (body : ∀ K : zK, kl K = l → kG K = G → zOk sh K y.cls b ret mL n → Zf sh K X 0 (lv_args 0 av) [] σ) : zM l G sh y b mL ret n av (zov ret G r) σ σ' := by
  intro sz
  refine Met.ofW (cc := b) (maxL := mL) (ret := ret) hy rfl ?_
  intro p e s m args below meth c s₁ B hml hv
  obtain ⟨rfl, hsz, hP, hK, hD0, hX0⟩ := hv
  subst hsz
  have hts := atoms_spec (ws := .code y b mL ret :: zT) B.pre
  have hown : s.vm.findClass y.cls = some m.cls := findClass_of_methodNamed B.named
  have hl := lv_entry av (n := mL) hlen
  rw [lg_entry_eq]
  have C : zOk sh ((p, l, e, s, m, av.toArray, below, meth, c), (G, mL, n), (zov ret G r, r, σ')) y.cls b ret mL n :=
    ⟨⟨B.exec, B.bytes, hml, hown, fun w hw => hts w (List.mem_cons_of_mem _ hw)⟩, hK, fun τ => zD_A _ hD0, B.notSynchronized, B.returns, hX0, rfl, rfl, rfl⟩
  exact body _ rfl rfl C hX s.heap [] _ hP va_S.rf hl
