/-! new int[n][m], by the machine itself -/
def mo (c : ClassId) (N h0 i : Nat) : Cell := arrV c N (fun j => va_rf (if j < i then some (h0 + 1 + j) else none))
def mi (c : ClassId) (M : Nat) : Cell := arrV c M (fun _ => .int 0)
def mst (T : State) (c c2 : ClassId) (N M : Nat) : Nat → State
  | 0 => T.pushCell (mo c N T.heap.size 0)
  | i + 1 => ((mst T c c2 N M i).pushCell (mi c2 M)).setCell T.heap.size (mo c N T.heap.size (i + 1))
theorem mo_next (c : ClassId) (N h0 i : Nat) : (mo c N h0 i).setSlot i (.ref (h0 + 1 + i)) = mo c N h0 (i + 1) := by
  unfold mo
  rw [arrV_store]
  congr 1
  funext j
  unfold updV
  by_cases e : j = i
  · subst e
    simp [va_rf]
  · by_cases h : j < i
    · simp [e, h, Nat.lt_succ_of_lt h]
    · simp [e, h, show ¬ j < i + 1 by omega]
theorem mo_size (c : ClassId) (N h0 i : Nat) : (mo c N h0 i).slots.size = N := arrV_size _ _ _
theorem mi_size (c : ClassId) (M : Nat) : (mi c M).slots.size = M := arrV_size _ _ _
theorem mst_ok (T : State) (c c2 : ClassId) (N M : Nat) : ∀ i, (mst T c c2 N M i).heap.size = T.heap.size + 1 + i ∧ (mst T c c2 N M i).heap[T.heap.size]? = some (mo c N T.heap.size i) ∧ (mst T c c2 N M i).vm = T.vm ∧ (mst T c c2 N M i).slotsUsed = T.slotsUsed + N + i * M ∧ (∀ a, a < T.heap.size → (mst T c c2 N M i).heap[a]? = T.heap[a]?) ∧ (∀ j, j < i → (mst T c c2 N M i).heap[T.heap.size + 1 + j]? = some (mi c2 M))
  | 0 => by
    refine ⟨by simp [mst], by simp [mst], rfl, by simp [mst, mo_size], fun a ha => State.heap_pushCell_of_lt _ _ ha, fun j hj => absurd hj (Nat.not_lt_zero j)⟩
  | i + 1 => by
    obtain ⟨h1, h2, h3, h4, h5, h6⟩ := mst_ok T c c2 N M i
    have hl : T.heap.size < (mst T c c2 N M i).heap.size := by omega
    have h7 : ((mst T c c2 N M i).pushCell (mi c2 M)).heap[T.heap.size]? = some (mo c N T.heap.size i) := by rw [State.heap_pushCell_of_lt (h := hl)]; exact h2
    refine ⟨?_, State.heap_setCell_self h7, by simp [mst, h3], ?_, fun a ha => ?_, fun j hj => ?_⟩
    · simp [mst, State.setCell, h1]; omega
    · simp [mst, h4, mi_size, Nat.succ_mul]; omega
    · show (((mst T c c2 N M i).pushCell (mi c2 M)).setCell T.heap.size _).heap[a]? = _
      have ha2 : a < (mst T c c2 N M i).heap.size := by omega
      rw [State.heap_setCell_other (Nat.ne_of_gt ha), State.heap_pushCell_of_lt (h := ha2)]
      exact h5 a ha
    · show (((mst T c c2 N M i).pushCell (mi c2 M)).setCell T.heap.size _).heap[T.heap.size + 1 + j]? = _
      rw [State.heap_setCell_other (show T.heap.size ≠ T.heap.size + 1 + j by omega)]
      rcases Nat.lt_or_ge j i with q | q
      · have hj2 : T.heap.size + 1 + j < (mst T c c2 N M i).heap.size := by omega
        rw [State.heap_pushCell_of_lt (h := hj2)]
        exact h6 j q
      · have e : j = i := by omega
        subst e
        rw [← h1]
        exact State.heap_pushCell_size _ _
theorem mst_top (T : State) (f : JFrame) (c c2 : ClassId) (N M : Nat) : ∀ i, mst (T.setTop f) c c2 N M i = (mst T c c2 N M i).setTop f
  | 0 => rfl
  | i + 1 => by simp only [mst, mst_top T f c c2 N M i, State.heap_setTop, State.pushCell_setTop, State.setCell_setTop]
section MSEM
variable {E : CtlPost} {e : Env} {d : Bool} {acts : List Action} {s : State}
theorem mw_new {c comp : ClassId} {k : Class} {type : FieldType} {len : Nat} {v : Value} (hk : s.vm.classes[c]? = some k) (hkind : k.kind = .array comp type) (h0 : ¬ len > e.platform.arrayLengthLimit) (h1 : ¬ len * componentBytes type > e.platform.maxHeapBytes) (hfit : fits type v = true) (hdef : v.isDefault = true) {Q : Addr → Pre} (h2 : s.heap.size < e.platform.maxCells) (h3 : s.slotsUsed + len ≤ e.platform.maxSlots) (hq : Q s.heap.size d acts (s.pushCell (arrV c len (fun _ => v)))) : wp (Jvm.newArray c len v) Q E e d acts s := by
  have e1 : ∀ i x, (Array.replicate len v)[i]? = some x → s.fitsSlot c .none i x = true := by
    intro i x hx
    rw [Array.getElem?_replicate] at hx
    split at hx
    · cases hx
      simp [State.fitsSlot, State.slotType?, hk, hkind, hfit]
    · cases hx
  have e2 : allocActs (Array.replicate len v) s.heap.size acts = acts := by
    have h9 : ((Array.replicate len v).all (·.isDefault)) = true := by
      rw [Array.all_replicate]
      split <;> simp [hdef]
    unfold allocActs
    rw [if_pos h9]
  rw [← arrV_new] at hq
  simp only [Jvm.newArray, Jvm.arrayFits, wp_bind', W.ask, W.ite, h0, if_false, wp_pure', W.theClass, hk, hkind, h1, W.alloc, W.stop, Option.some.injEq, exists_eq_left', Array.size_replicate, e2]
  rw [if_neg (by omega)]
  exact ⟨h2, h3, e1, hq⟩
theorem mw_make {c c2 c3 : ClassId} {k k2 : Class} {n m : Int32} (hk : s.vm.classes[c]? = some k) (hkind : k.kind = .array c2 (.array .int)) (hk2 : s.vm.classes[c2]? = some k2) (hkind2 : k2.kind = .array c3 .int) (hn : ¬ n < 0) (hm : ¬ m < 0) (a1 : ¬ n.toNatClampNeg > e.platform.arrayLengthLimit) (a2 : ¬ n.toNatClampNeg * componentBytes (.array .int) > e.platform.maxHeapBytes) (a3 : ¬ m.toNatClampNeg > e.platform.arrayLengthLimit) (a4 : ¬ m.toNatClampNeg * componentBytes .int > e.platform.maxHeapBytes) (a5 : s.heap.size + 1 + n.toNatClampNeg ≤ e.platform.maxCells) (a6 : s.slotsUsed + n.toNatClampNeg + n.toNatClampNeg * m.toNatClampNeg ≤ e.platform.maxSlots) {Q : Addr → Pre} (hq : ∀ d' acts', Q s.heap.size d' acts' (mst s c c2 n.toNatClampNeg m.toNatClampNeg n.toNatClampNeg)) : wp (multianewarray.make c [n, m]) Q E e d acts s := by
  have hno : ([m].find? (· < 0)) = none := by simp [hm]
  have e0 : mo c n.toNatClampNeg s.heap.size 0 = arrV c n.toNatClampNeg (fun _ => .null) := by
    unfold mo
    congr 1
  rw [multianewarray.make]
  simp only [wp_bind', W.ite, hn, if_false, wp_pure', W.theClass, hk, hkind, Option.some.injEq, exists_eq_left']
  refine mw_new hk hkind a1 a2 rfl rfl (by omega) (by have := Nat.zero_le (n.toNatClampNeg * m.toNatClampNeg); omega) ?_
  rw [← e0]
  simp only [hno]
  rw [ite_self, wp_bind', Std.Legacy.Range.forIn_eq_forIn_range']
  have hsz : ([:n.toNatClampNeg] : Std.Legacy.Range).size = n.toNatClampNeg := by simp [Std.Legacy.Range.size]
  rw [hsz]
  show wp (forIn (List.range' 0 n.toNatClampNeg 1) PUnit.unit _) _ E e d acts _
  refine wp_forIn_inv (fun rest s' => ∃ i, i ≤ n.toNatClampNeg ∧ rest = List.range' i (n.toNatClampNeg - i) ∧ s' = mst s c c2 n.toNatClampNeg m.toNatClampNeg i) _ _ ⟨0, Nat.zero_le _, rfl, rfl⟩ ?_ ?_
  · rintro x rest s' d' acts' Q' ⟨i, hi, hl, rfl⟩ hnext
    have hlt : i < n.toNatClampNeg := by
      rcases Nat.lt_or_ge i n.toNatClampNeg with q | q
      · exact q
      · rw [show n.toNatClampNeg - i = 0 by omega] at hl
        simp at hl
    rw [show n.toNatClampNeg - i = (n.toNatClampNeg - (i + 1)) + 1 by omega, List.range'_succ] at hl
    have hx : x = i := (List.cons.inj hl).1
    have hr : rest = List.range' (i + 1) (n.toNatClampNeg - (i + 1)) := (List.cons.inj hl).2
    subst hx
    obtain ⟨f1, f2, f3, f4, -⟩ := mst_ok s c c2 n.toNatClampNeg m.toNatClampNeg x
    have hmul : x * m.toNatClampNeg + m.toNatClampNeg ≤ n.toNatClampNeg * m.toNatClampNeg := by
      have := Nat.mul_le_mul_right m.toNatClampNeg (show x + 1 ≤ n.toNatClampNeg from hlt)
      rw [Nat.succ_mul] at this
      exact this
    simp only [wp_bind']
    rw [multianewarray.make]
    simp only [wp_bind', W.ite, hm, if_false, wp_pure', W.theClass, f3, hk2, hkind2, Option.some.injEq, exists_eq_left']
    refine mw_new (by rw [f3]; exact hk2) hkind2 a3 a4 rfl rfl (by rw [f1]; omega) (by rw [f4]; omega) ?_
    have hlt0 : s.heap.size < (mst s c c2 n.toNatClampNeg m.toNatClampNeg x).heap.size := by rw [f1]; omega
    simp only [wp_bind', W.writeLoc, wp_pure']
    refine ⟨mo c n.toNatClampNeg s.heap.size x, by rw [State.heap_pushCell_of_lt (h := hlt0)]; exact f2, (fun q => by cases q), by rw [mo_size]; exact hlt, ?_, hnext _ _ _ ⟨x + 1, hlt, hr, ?_⟩⟩
    · show State.fitsSlot _ c .none _ _ = true
      simp [State.fitsSlot, State.slotType?, f3, hk, hkind]
      rfl
    · rw [f1, mo_next]
      rfl
  · rintro s' d' acts' ⟨i, hi, hl, rfl⟩
    have hiN : i = n.toNatClampNeg := by
      rcases Nat.lt_or_ge i n.toNatClampNeg with q | q
      · rw [show n.toNatClampNeg - i = (n.toNatClampNeg - (i + 1)) + 1 by omega, List.range'_succ] at hl
        cases hl
      · omega
    subst hiN
    simp only [wp_pure']
    exact hq _ _
end MSEM
theorem mA_spec {args : Array Value} {s : State} (h : (Cond.arrayOver (.array .int)).before args s = true) : mAS s := by
  simp only [Cond.before, Cond.holds, Cond.value, beq_iff_eq] at h
  cases hc : s.vm.findClass (FieldType.array .int).toString with
  | none => simp [hc] at h
  | some c2 =>
    simp only [hc, Option.bind_some, Option.bind_eq_some_iff, Option.map_eq_some_iff] at h
    obtain ⟨c, hi, k, hk, hb⟩ := h
    obtain ⟨hlt, hp, -⟩ := Array.findIdx?_eq_some_iff_getElem.mp hi
    have hkk : s.vm.classes[c] = k := (Array.getElem?_eq_some_iff.mp hk).2
    rw [hkk] at hp
    cases hkind : k.kind with
    | array c4 ty =>
      rw [hkind] at hb hp
      simp at hb hp
      exact ⟨c2, c, k, hc, hk, by rw [hkind, hp, hb.1], hb.2⟩
    | _ => rw [hkind] at hb; simp at hb
section MSTAND
variable {p : Program} {l : Launch} {e : Env} {R : Room} {s : State} {m : MethodId} {args : Array Value} {below : List Frame} {meth : Method} {c : Code} {T : State} {locs : List Loc} {cells slots : Nat}
theorem mst_stand (X : Stand p l e R s m args below meth c T locs cells slots) (cA c2 : ClassId) (N M : Nat) : ∀ i, ∃ J : List Loc, (∀ x ∈ J, x.base = T.heap.size) ∧ Stand p l e R s m args below meth c (mst T cA c2 N M i) (locs ++ J) (cells + 1 + i) (slots + N + i * M)
  | 0 => by
    have h := X.pushed (mo cA N T.heap.size 0)
    rw [mo_size] at h
    exact ⟨[], ⟨(fun x hx => absurd hx List.not_mem_nil), by simpa [mst] using h⟩⟩
  | i + 1 => by
    obtain ⟨J, hJ, Xi⟩ := mst_stand X cA c2 N M i
    obtain ⟨f1, f2, -⟩ := mst_ok T cA c2 N M i
    have h7 : ((mst T cA c2 N M i).pushCell (mi c2 M)).heap[T.heap.size]? = some (mo cA N T.heap.size i) := by
      have h8 : T.heap.size < (mst T cA c2 N M i).heap.size := by omega
      rw [State.heap_pushCell_of_lt (h := h8)]
      exact f2
    have h := (Xi.pushed (mi c2 M)).stored h7 i (.ref (T.heap.size + 1 + i))
    rw [mi_size, mo_next] at h
    refine ⟨J ++ [⟨T.heap.size, i⟩], fun x hx => ?_, ?_⟩
    · rcases List.mem_append.mp hx with q | q
      · exact hJ x q
      · rw [List.mem_singleton.mp q]
    · have e3 : slots + N + (i + 1) * M = slots + N + i * M + M := by rw [Nat.succ_mul]; omega
      rw [e3, ← List.append_assoc]
      exact h
theorem mst_step (X : Stand p l e R s m args below meth c T locs cells slots) (hexec : p.tables.exec = Jvm.exec) {own : String} {index : Nat} (hown : s.vm.findClass own = some m.cls) (hcl : (Cond.classLink own index "[[I").before args s = true) (hov : mAS s) (harr : (Cond.arrayClass .int).before args s = true) {g : JFrame} (hg : g.method = m) (hdg : decode c.code g.pc = .ok (.multianewarray index 2, 4)) {n k : Int32} {rest : List Value} (hst : g.stack = .int k :: .int n :: rest) (hn : ¬ n < 0) (hk : ¬ k < 0) (hb1 : n.toNatClampNeg * 4 ≤ 536870912) (hb2 : k.toNatClampNeg * 4 ≤ 536870912) (hc : cells + (1 + n.toNatClampNeg) ≤ R.cells) (hs : slots + (n.toNatClampNeg + n.toNatClampNeg * k.toNatClampNeg) ≤ R.slots) :
    ∃ (vm₁ : Vm) (cA c2 : ClassId) (J : List Loc), s.WarmedH vm₁ ∧ s.vm.findClass "[[I" = some cA ∧ s.vm.findClass "[I" = some c2 ∧ (∀ x ∈ J, x.base = T.heap.size) ∧ Stand p l e R s m args below meth c (mst (T.setVm vm₁) cA c2 n.toNatClampNeg k.toNatClampNeg n.toNatClampNeg) (locs ++ J) (cells + 1 + n.toNatClampNeg) (slots + n.toNatClampNeg + n.toNatClampNeg * k.toNatClampNeg) ∧ ∀ target, Steps p.tables e below ((mst (T.setVm vm₁) cA c2 n.toNatClampNeg k.toNatClampNeg n.toNatClampNeg).setTop { g with pc := g.pc + 4, stack := .ref T.heap.size :: rest }) target → Steps p.tables e below (T.setTop g) target := by
  subst hg
  have hpl : e.platform.magicAccessors = ({} : Platform).magicAccessors := by rw [X.admits.platform]
  obtain ⟨c2, cA, kA, hc2, hkA, hkindA, hnA⟩ := hov
  obtain ⟨c2', k2, c3, hc2', hk2, hkind2⟩ := Cond.arrayClass_spec harr
  have e2 : c2' = c2 := Option.some.inj (hc2'.symm.trans hc2)
  subst e2
  obtain ⟨c0, hfc0, hcl0⟩ := Cond.classLink_spec hown hcl e.platform hpl
  cases hnA.symm.trans hfc0
  obtain ⟨hg₁, hwarm₁, hready₁⟩ := State.classEntry (e := e) X.warmed hcl0
  generalize T.vm.noted g.method.cls index (.cls cA) = vm₁ at hg₁ hwarm₁ hready₁
  have hal : s.vm.Alike vm₁ := hwarm₁.alike
  obtain ⟨kA₁, hkA₁, heA⟩ := hal.2.2 _ _ hkA
  obtain ⟨k2₁, hk2₁, he2⟩ := hal.2.2 _ _ hk2
  have X₁ := X.noted hwarm₁
  obtain ⟨hr1, hr2⟩ := X.roomAbove hc hs
  obtain ⟨J, hJ, XF⟩ := mst_stand X₁ cA c2' n.toNatClampNeg k.toNatClampNeg n.toNatClampNeg
  refine ⟨vm₁, cA, c2', J, hwarm₁, hnA, hc2, hJ, XF, fun target hrest => ?_⟩
  jvm_step X.here [hexec, hdg]
  simp only [multianewarray.sem, wp_bind', W.resolveClassAt_links (State.method?_setTop g X.here.top) hg₁]
  rw [W.popN, if_neg (by decide)]
  refine ⟨g, State.topJava?_setTop' (s := T.setVm vm₁) g X.here.top, [.int n, .int k], rest, rfl, hst, ?_⟩
  simp only [List.mapM_cons, List.mapM_nil, wp_bind', wp_pure']
  refine mw_make (k := kA₁) (k2 := k2₁) (c2 := c2') (c3 := c3) hkA₁ (by rw [heA]; exact hkindA) hk2₁ (by rw [he2]; exact hkind2) hn hk (by rw [Launch.admits_arrayLengthLimit X.admits]; omega) (by rw [Launch.admits_maxHeapBytes X.admits]; show ¬ n.toNatClampNeg * 4 > 536870912; omega) (by rw [Launch.admits_arrayLengthLimit X.admits]; omega) (by rw [Launch.admits_maxHeapBytes X.admits]; show ¬ k.toNatClampNeg * 4 > 536870912; omega) (by show T.heap.size + 1 + _ ≤ _; omega) (by show T.slotsUsed + _ + _ ≤ _; omega) (fun d' acts' => ?_)
  have eS : ((T.setTop g).setVm vm₁).setTop { g with stack := rest } = (T.setVm vm₁).setTop { g with stack := rest } := by
    show ((T.setVm vm₁).setTop g).setTop _ = _
    rw [State.setTop_setTop]
  rw [eS, mst_top]
  simp only [wp_bind', W.mark, W.pushRef, State.topJava?_setTop' _ XF.here.top, Option.some.injEq, exists_eq_left', State.setTop_setTop, State.heap_setTop]
  intro acts
  simp [jvm, XF.here.top]
  exact hrest
end MSTAND
/-- the rows that come -/
def mrows (cT : Nat → ClassId) (M q N : Nat) : va_W := (List.range N).map (fun i => (q + 1 + i, .inl (cT 0, M, .inl (fun _ => 0))))
theorem k_mna {Y : Yd} {D : va_G} {cT : Nat → ClassId} {A : Nat → Prop} {V : Vc} {pc : Nat} {L : List (Option Value)} {st : List Value} {ws : va_W} {cells slots lv mc ms N M idx : Nat} {n k : Int32} (B : Big V A lv mc ms) (d : decode Y.2.1 pc = .ok (.multianewarray idx 2, 4)) (w1 : Cond.classLink Y.1.cls idx "[[I" ∈ gt) (w3 : Cond.arrayClass .int ∈ gt) (hn : ¬ n < 0) (hk : ¬ k < 0) (hN : n.toNatClampNeg = N) (hM : k.toNatClampNeg = M) (hb1 : N * 4 ≤ 536870912) (hb2 : M * 4 ≤ 536870912) (hc : cells + (1 + N) ≤ mc) (hs : slots + (N + N * M) ≤ ms) (kk : ∀ q, RunC Y D cT A V (pc + 4) L (.ref q :: st) (ws ++ ((q, .inl (cT 3, N, .inr (.inr (.inr (.inr (fun i => if i < N then some (q + 1 + i) else none)))))) :: mrows cT M q N)) (cells + 1 + N) (slots + N + N * M)) : RunC Y D cT A V pc L (.int k :: .int n :: st) ws cells slots := by
  subst hN
  subst hM
  intro l p e R s m args below meth c Q hV C H locs ls hP hD hS hl
  obtain ⟨b1, b2, b3, b4, b5⟩ := B _ _ _ _ _ _ _ _ _ _ _ hV
  intro T hT X
  obtain ⟨vm₁, cA, c2, J, hW, fA, f2, hJ, X', step⟩ := mst_step X C.1 C.2.2.2.2.2.1 (C.2.2.2.2.2.2.1 _ w1) C.2.2.2.2.2.2.2.1.2.2.1 (C.2.2.2.2.2.2.1 _ w3) (g := F0 m pc ls (.int k :: .int n :: st)) rfl (by rw [C.2.1]; exact d) rfl hn hk hb1 hb2 (by omega) (by omega)
  have hK := C.2.2.2.2.2.2.2.1.1
  have eA : cA = cT 3 := Option.some.inj (fA.symm.trans (hK.2 3 (cT 3, .array .int) rfl).2)
  have e2 : c2 = cT 0 := Option.some.inj (f2.symm.trans (hK.2 0 (cT 0, .int) rfl).2)
  subst eA
  subst e2
  obtain ⟨f1, g2, -, -, g5, g6⟩ := mst_ok (T.setVm vm₁) (cT 3) (cT 0) n.toNatClampNeg k.toNatClampNeg n.toNatClampNeg
  have hTs : (T.setVm vm₁).heap.size = H.size := by show T.heap.size = _; rw [hT]
  have hold : ∀ q : Nat, q < H.size → (mst (T.setVm vm₁) (cT 3) (cT 0) n.toNatClampNeg k.toNatClampNeg n.toNatClampNeg).heap[q]? = H[q]? := fun q hq => by
    rw [g5 q (by rw [hTs]; exact hq)]
    show T.heap[q]? = _
    rw [hT]
  rw [hTs] at f1 g2 g6
  have hQ := kk H.size l p e R s m args below meth c Q hV C (mst (T.setVm vm₁) (cT 3) (cT 0) n.toNatClampNeg k.toNatClampNeg n.toNatClampNeg).heap (locs ++ J) ls ?_ ?_ ?_ hl _ rfl X'
  · obtain ⟨t, a1, b1⟩ := hQ
    refine ⟨t, step t ?_, b1⟩
    rw [hT]
    exact a1
  · refine va_P.app (fun i q hq => (hP i q hq).kept (hold q.1 ((hP i q hq).lt))) (fun i q hq => ?_)
    cases i with
    | zero =>
      simp only [List.getElem?_cons_zero, Option.some.injEq] at hq
      subst hq
      exact g2
    | succ i =>
      simp only [List.getElem?_cons_succ, mrows, List.getElem?_map] at hq
      rcases Nat.lt_or_ge i n.toNatClampNeg with z | z
      · rw [List.getElem?_range z] at hq
        simp only [Option.map_some, Option.some.injEq] at hq
        subst hq
        exact g6 i z
      · rw [List.getElem?_eq_none (by simp; exact z)] at hq
        cases hq
  · have hnew : ∀ (i : Nat) (q : Nat × va_E), ((H.size, (.inl (cT 3, n.toNatClampNeg, .inr (.inr (.inr (.inr (fun i => if i < n.toNatClampNeg then some (H.size + 1 + i) else none))))) : va_E)) :: mrows cT k.toNatClampNeg H.size n.toNatClampNeg)[i]? = some q → q.1 = H.size + i := by
      intro i q hq
      cases i with
      | zero =>
        simp only [List.getElem?_cons_zero, Option.some.injEq] at hq
        subst hq
        rfl
      | succ i =>
        simp only [List.getElem?_cons_succ, mrows, List.getElem?_map] at hq
        rcases Nat.lt_or_ge i n.toNatClampNeg with z | z
        · rw [List.getElem?_range z] at hq
          simp only [Option.map_some, Option.some.injEq] at hq
          subst hq
          show H.size + 1 + i = _
          omega
        · rw [List.getElem?_eq_none (by simp; exact z)] at hq
          cases hq
    refine va_D.app hD ⟨fun i j p q hp hq e => ?_, fun i q hq => ?_⟩ (fun i j x y hx hy e => ?_)
    · have h1 := hnew i p hp
      have h2 := hnew j q hq
      omega
    · have h1 := hnew i q hq
      rw [h1]
      exact b5 _ (by have := hS.1; omega)
    · have h1 := (hP i x hx).lt
      have h2 := hnew j y hy
      omega
  · refine ⟨by rw [f1]; have := hS.1; omega, fun q h1 h2 => ?_, fun q hq => ?_⟩
    · rw [hold q (by have := hS.1; omega)]
      exact hS.2.1 q h1 h2
    · rcases List.mem_append.mp hq with z | z
      · exact hS.2.2 q z
      · rw [hJ q z]
        rw [hT]
        exact b5 _ hS.1
