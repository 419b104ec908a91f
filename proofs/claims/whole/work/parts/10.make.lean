/-! making the two objects: worlds as lists, cells that come -/
def nest2 : List Cond := [.methodLinkNest RX7 23 yX1_init "ChainedMen", .methodLinkNest RX7 30 yX0_init "ChainedMen", .methodLinkNest RX7 41 yX2_init "ChainedMen", .methodLinkNest RX7 76 yX6_init "ChainedMen"]
def tysC (cT : Nat → ClassId) : List (ClassId × FieldType) := [(cT 0, .int), (cT 1, .byte), (cT 2, .boolean), (cT 3, .array .int), (cT 4, .object "ChainedMen$Course")]
/-- the class of arrays of arrays -/
def mAS (U : State) : Prop := ∃ c2 c k, U.vm.findClass (FieldType.array .int).toString = some c2 ∧ U.vm.classes[c]? = some k ∧ k.kind = .array c2 (.array .int) ∧ U.vm.findClass ("[" ++ (FieldType.array .int).toString) = some c
theorem mAS.moved {u U : State} (hvm : u.vm.Alike U.vm) (h : mAS u) : mAS U := by
  obtain ⟨c2, c, k, h1, h2, h3, h4⟩ := h
  obtain ⟨k', hk', he⟩ := hvm.2.2 _ _ h2
  exact ⟨c2, c, k', by rw [hvm.findClass]; exact h1, hk', by rw [he]; exact h3, by rw [hvm.findClass]; exact h4⟩
def KK (D : va_G) (cT : Nat → ClassId) (U : State) : Prop := va_K D vwCl (tysC cT) U ∧ (∀ w ∈ nest2, va_Nw w U) ∧ mAS U ∧ va_AO "ChainedMen$Course" U
theorem KK.warm {D : va_G} {cT : Nat → ClassId} {s U : State} (hW : s.WarmedH U.vm) (h : KK D cT s) : KK D cT U := by
  refine ⟨va_K.moved hW.alike h.1, fun w hw => ?_, h.2.2.1.moved hW.alike, va_AO.moved hW.alike h.2.2.2⟩
  have h1 := h.2.1 w hw
  simp only [nest2, List.mem_cons, List.not_mem_nil, or_false] at hw
  rcases hw with rfl | rfl | rfl | rfl <;> exact va_Nw.warmM hW h1
theorem KK.same {D : va_G} {cT : Nat → ClassId} {s U : State} (hv : s.vm = U.vm) (ha : s.vm.Alike U.vm) (h : KK D cT s) : KK D cT U := by
  refine ⟨va_K.moved ha h.1, fun w hw => ?_, h.2.2.1.moved ha, va_AO.moved ha h.2.2.2⟩
  have h1 := h.2.1 w hw
  simp only [nest2, List.mem_cons, List.not_mem_nil, or_false] at hw
  rcases hw with rfl | rfl | rfl | rfl <;> exact va_Nw.same rfl hv h1
abbrev Vc : Type := Launch → Program → Env → Room → State → MethodId → Array Value → List Frame → Method → Code → (State → Prop) → Prop
def Cc (Y : Yd) (D : va_G) (cT : Nat → ClassId) (p : Program) (s : State) (m : MethodId) (args : Array Value) (meth : Method) (c : Code) : Prop :=
  p.tables.exec = Jvm.exec ∧ c.code = Y.2.1 ∧ meth.sig.returnType = Y.2.2.2 ∧ meth.locks = false ∧ c.maxLocals = Y.2.2.1 ∧ s.vm.findClass Y.1.cls = some m.cls ∧ (∀ w ∈ gt, w.before args s = true) ∧ KK D cT s ∧ (Y.1.name = "<init>" → meth.name = "<init>")
def RunC (Y : Yd) (D : va_G) (cT : Nat → ClassId) (A : Nat → Prop) (V : Vc) (pc : Nat) (L : List (Option Value)) (st : List Value) (ws : va_W) (cells slots : Nat) : Prop :=
  ∀ (l : Launch) (p : Program) (e : Env) (R : Room) (s : State) (m : MethodId) (args : Array Value) (below : List Frame) (meth : Method) (c : Code) (Q : State → Prop), V l p e R s m args below meth c Q → Cc Y D cT p s m args meth c →
  ∀ (H : Heap) (locs : List Loc) (ls : Array Slot), va_P D vwCl ws H → va_D A ws → va_S A s.heap H locs → Lv id ls Y.2.2.1 L → W p l e R s m args below meth c H locs cells slots Q (F0 m pc ls st)
def Big (V : Vc) (A : Nat → Prop) (lv mc ms : Nat) : Prop := ∀ (l : Launch) (p : Program) (e : Env) (R : Room) (s : State) (m : MethodId) (args : Array Value) (below : List Frame) (meth : Method) (c : Code) (Q : State → Prop), V l p e R s m args below meth c Q → lv ≤ R.frames ∧ 40 * lv ≤ R.locals ∧ mc ≤ R.cells ∧ ms ≤ R.slots ∧ ∀ q, s.heap.size ≤ q → A q
def rmC (lv mc ms : Nat) : Room := { frames := lv, cells := mc, slots := ms, locals := 40 * lv }
/-- a method that makes cells: over the world ws0 it comes to a world of the kind Post -/
def QC (D : va_G) (Post : va_W → Prop) (A : Nat → Prop) : Array Value → State → Outcome → State → Prop := fun _ st o t => (o = .returned none ∧ ∃ w1, Post w1 ∧ va_P D vwCl w1 t.heap ∧ va_D A w1) ∧ va_F A st t
def MetC (Y : Yd) (D : va_G) (cT : Nat → ClassId) (lv mc ms : Nat) (As : List Value) (ws0 : va_W) (Post : va_W → Prop) : Prop := ∀ (l : Launch) (sz : Nat), Met l Y.1 (wsY Y) (rmC lv mc ms) (va_Pc As (fun U => U.heap.size = sz ∧ va_P D vwCl ws0 U.heap ∧ va_D (fun _ => True) ws0 ∧ KK D cT U)) (QC D Post (va_A ws0 sz)) mc ms (va_A ws0 sz)
def VC (D : va_G) (lv mc ms : Nat) (Post : va_W → Prop) (A : Nat → Prop) : Vc := fun l p e R s m args below meth c Q => R = rmC lv mc ms ∧ Q = MQ below (QC D Post A) args s mc ms A ∧ ∀ q, s.heap.size ≤ q → A q
theorem Big.vc {D : va_G} {lv mc ms : Nat} {Post : va_W → Prop} {A : Nat → Prop} : Big (VC D lv mc ms Post A) A lv mc ms := by
  intro l p e R s m args below meth c Q hV
  obtain ⟨rfl, -, hA⟩ := hV
  exact ⟨Nat.le_refl _, Nat.le_refl _, Nat.le_refl _, Nat.le_refl _, hA⟩
section MAKE
variable {Y : Yd} {D : va_G} {cT : Nat → ClassId} {A : Nat → Prop} {V : Vc} {pc : Nat} {L : List (Option Value)} {st : List Value} {ws : va_W} {cells slots lv mc ms : Nat}
theorem k_iconst {n : Int} {v : Int32} (d : decode Y.2.1 pc = .ok (.iconst n, 1)) (hv : Int32.ofInt n = v) (k : RunC Y D cT A V (pc + 1) L (.int v :: st) ws cells slots) : RunC Y D cT A V pc L st ws cells slots :=
  fun l p e R s m args below meth c Q hV C H locs ls hP hD hS hl => lv_iconst C.1 C.2.1 d hv (k l p e R s m args below meth c Q hV C H locs ls hP hD hS hl)
theorem k_bipush {n : Int} {v : Int32} (d : decode Y.2.1 pc = .ok (.bipush n, 2)) (hv : (Int8.ofInt n).toInt32 = v) (k : RunC Y D cT A V (pc + 2) L (.int v :: st) ws cells slots) : RunC Y D cT A V pc L st ws cells slots :=
  fun l p e R s m args below meth c Q hV C H locs ls hP hD hS hl => lv_bipush C.1 C.2.1 d hv (k l p e R s m args below meth c Q hV C H locs ls hP hD hS hl)
theorem k_sipush {n : Int} {v : Int32} (d : decode Y.2.1 pc = .ok (.sipush n, 3)) (hv : (Int16.ofInt n).toInt32 = v) (k : RunC Y D cT A V (pc + 3) L (.int v :: st) ws cells slots) : RunC Y D cT A V pc L st ws cells slots :=
  fun l p e R s m args below meth c Q hV C H locs ls hP hD hS hl => lv_sipush C.1 C.2.1 d hv (k l p e R s m args below meth c Q hV C H locs ls hP hD hS hl)
theorem k_ldc {idx : Nat} {v : Int32} (d : decode Y.2.1 pc = .ok (.ldc idx, 2)) (hw : Cond.constant Y.1.cls idx v ∈ gt) (k : RunC Y D cT A V (pc + 2) L (.int v :: st) ws cells slots) : RunC Y D cT A V pc L st ws cells slots :=
  fun l p e R s m args below meth c Q hV C H locs ls hP hD hS hl => lv_ldc C.1 C.2.1 C.2.2.2.2.2.1 (C.2.2.2.2.2.2.1 _ hw) d (k l p e R s m args below meth c Q hV C H locs ls hP hD hS hl)
theorem k_aload_n {n : Fin 4} {x : Nat} (d : decode Y.2.1 pc = .ok (.aload_n n, 1)) (hi : L[n.val]? = some (some (.ref x))) (k : RunC Y D cT A V (pc + 1) L (.ref x :: st) ws cells slots) : RunC Y D cT A V pc L st ws cells slots :=
  fun l p e R s m args below meth c Q hV C H locs ls hP hD hS hl => lv_aload_n C.1 C.2.1 d rfl (hl.get hi) (k l p e R s m args below meth c Q hV C H locs ls hP hD hS hl)
theorem k_iload_n {n : Fin 4} {x : Int32} (d : decode Y.2.1 pc = .ok (.iload_n n, 1)) (hi : L[n.val]? = some (some (.int x))) (k : RunC Y D cT A V (pc + 1) L (.int x :: st) ws cells slots) : RunC Y D cT A V pc L st ws cells slots :=
  fun l p e R s m args below meth c Q hV C H locs ls hP hD hS hl => lv_iload_n C.1 C.2.1 d rfl (hl.get hi) (k l p e R s m args below meth c Q hV C H locs ls hP hD hS hl)
theorem k_iload {i : Nat} {x : Int32} (d : decode Y.2.1 pc = .ok (.iload i, 2)) (hi : L[i]? = some (some (.int x))) (k : RunC Y D cT A V (pc + 2) L (.int x :: st) ws cells slots) : RunC Y D cT A V pc L st ws cells slots :=
  fun l p e R s m args below meth c Q hV C H locs ls hP hD hS hl => lv_iload C.1 C.2.1 d (hl.get hi) (k l p e R s m args below meth c Q hV C H locs ls hP hD hS hl)
theorem k_istore_n {n : Fin 4} {x : Int32} (d : decode Y.2.1 pc = .ok (.istore_n n, 1)) (hn : n.val < Y.2.2.1) {L' : List (Option Value)} (hL : lst n.val (.int x) L = L') (k : RunC Y D cT A V (pc + 1) L' st ws cells slots) : RunC Y D cT A V pc L (.int x :: st) ws cells slots := by
  subst hL
  exact fun l p e R s m args below meth c Q hV C H locs ls hP hD hS hl => lv_istore_n C.1 C.2.1 d rfl hl hn rfl (fun ls' h' => k l p e R s m args below meth c Q hV C H locs ls' hP hD hS (Lv.put (v := .int x) h'))
theorem k_istore {i : Nat} {x : Int32} (d : decode Y.2.1 pc = .ok (.istore i, 2)) (hn : i < Y.2.2.1) {L' : List (Option Value)} (hL : lst i (.int x) L = L') (k : RunC Y D cT A V (pc + 2) L' st ws cells slots) : RunC Y D cT A V pc L (.int x :: st) ws cells slots := by
  subst hL
  exact fun l p e R s m args below meth c Q hV C H locs ls hP hD hS hl => lv_istore C.1 C.2.1 d hl hn rfl (fun ls' h' => k l p e R s m args below meth c Q hV C H locs ls' hP hD hS (Lv.put (v := .int x) h'))
theorem k_astore_n {n : Fin 4} {x : Nat} (d : decode Y.2.1 pc = .ok (.astore_n n, 1)) (hn : n.val < Y.2.2.1) {L' : List (Option Value)} (hL : lst n.val (.ref x) L = L') (k : RunC Y D cT A V (pc + 1) L' st ws cells slots) : RunC Y D cT A V pc L (.ref x :: st) ws cells slots := by
  subst hL
  exact fun l p e R s m args below meth c Q hV C H locs ls hP hD hS hl => lv_astore_n C.1 C.2.1 d rfl hl hn rfl (fun ls' h' => k l p e R s m args below meth c Q hV C H locs ls' hP hD hS (Lv.put (v := .ref x) h'))
theorem k_iinc {i : Nat} {n : Int} {x v : Int32} (d : decode Y.2.1 pc = .ok (.iinc i n, 3)) (hi : L[i]? = some (some (.int x))) (hv : x + Int32.ofInt n = v) (hn : i < Y.2.2.1) {L' : List (Option Value)} (hL : lst i (.int v) L = L') (k : RunC Y D cT A V (pc + 3) L' st ws cells slots) : RunC Y D cT A V pc L st ws cells slots := by
  subst hL
  intro l p e R s m args below meth c Q hV C H locs ls hP hD hS hl
  have h1 := lvm_mem (A := id) L 0 i _ hi
  rw [Nat.zero_add] at h1
  obtain ⟨k9, hk9⟩ := List.getElem?_of_mem h1
  exact lv_iinc (v := v) C.1 C.2.1 d hl hk9 hv hn rfl (fun ls' h' => k l p e R s m args below meth c Q hV C H locs ls' hP hD hS (Lv.put (v := .int v) h'))
theorem k_ishl {x y v : Int32} (d : decode Y.2.1 pc = .ok (.ishl, 1)) (hv : x <<< (y &&& 31) = v) (k : RunC Y D cT A V (pc + 1) L (.int v :: st) ws cells slots) : RunC Y D cT A V pc L (.int y :: .int x :: st) ws cells slots := by
  subst hv
  exact fun l p e R s m args below meth c Q hV C H locs ls hP hD hS hl => lv_ishl C.1 C.2.1 d (k l p e R s m args below meth c Q hV C H locs ls hP hD hS hl)
theorem k_dup {v : Value} (d : decode Y.2.1 pc = .ok (.dup, 1)) (hv : v.category = 1) (k : RunC Y D cT A V (pc + 1) L (v :: v :: st) ws cells slots) : RunC Y D cT A V pc L (v :: st) ws cells slots :=
  fun l p e R s m args below meth c Q hV C H locs ls hP hD hS hl => lv_dup C.1 C.2.1 d hv (k l p e R s m args below meth c Q hV C H locs ls hP hD hS hl)
theorem k_goto {off : Int} (tgt : Nat) (d : decode Y.2.1 pc = .ok (.goto off, 3)) (ht : (pc : Int) + off = (tgt : Int)) (k : RunC Y D cT A V tgt L st ws cells slots) : RunC Y D cT A V pc L st ws cells slots :=
  fun l p e R s m args below meth c Q hV C H locs ls hP hD hS hl => lv_goto C.1 C.2.1 d ht (k l p e R s m args below meth c Q hV C H locs ls hP hD hS hl)
theorem k_icmp_ge_t {x y : Int32} {off : Int} (tgt : Nat) (d : decode Y.2.1 pc = .ok (.if_icmp .ge off, 3)) (ht : (pc : Int) + off = (tgt : Int)) (hc : y ≤ x) (k : RunC Y D cT A V tgt L st ws cells slots) : RunC Y D cT A V pc L (.int y :: .int x :: st) ws cells slots :=
  fun l p e R s m args below meth c Q hV C H locs ls hP hD hS hl => lv_icmp_ge C.1 C.2.1 d ht (fun _ => k l p e R s m args below meth c Q hV C H locs ls hP hD hS hl) (fun q => absurd hc q)
theorem k_icmp_ge_f {x y : Int32} {off : Int} (tgt : Nat) (d : decode Y.2.1 pc = .ok (.if_icmp .ge off, 3)) (ht : (pc : Int) + off = (tgt : Int)) (hc : ¬ y ≤ x) (k : RunC Y D cT A V (pc + 3) L st ws cells slots) : RunC Y D cT A V pc L (.int y :: .int x :: st) ws cells slots :=
  fun l p e R s m args below meth c Q hV C H locs ls hP hD hS hl => lv_icmp_ge C.1 C.2.1 d ht (fun q => absurd q hc) (fun _ => k l p e R s m args below meth c Q hV C H locs ls hP hD hS hl)
theorem k_obj {idx a : Nat} (B : Big V A lv mc ms) (hlv : 1 ≤ lv) (d : decode Y.2.1 pc = .ok (.invokespecial idx, 3)) (w1 : Cond.methodLink Y.1.cls idx Lib.objectInit ∈ gt) (w2 : Cond.instanceMethod Lib.objectInit ∈ gt) (w3 : Cond.code Lib.objectInit ⟨#[0xb1]⟩ 1 none ∈ gt) (hr8 : (st.map fun v => v.category).sum ≤ 8) (k : RunC Y D cT A V (pc + 3) L st ws cells slots) : RunC Y D cT A V pc L (.ref a :: st) ws cells slots := by
  intro l p e R s m args below meth c Q hV C H locs ls hP hD hS hl
  obtain ⟨b1, b2, -⟩ := B _ _ _ _ _ _ _ _ _ _ _ hV
  refine W.objInit C.1 C.2.1 C.2.2.2.2.2.1 (C.2.2.2.2.2.2.1 _ w1) (C.2.2.2.2.2.2.1 _ w2) (C.2.2.2.2.2.2.1 _ w3) rfl (by rw [C.2.2.2.2.1]; exact hl.1) rfl d (by omega) ?_ (k l p e R s m args below meth c Q hV C H locs ls hP hD hS hl)
  have := lv_room (m := m) (pc := pc) (ls := ls) (rest := .ref a :: st) (st := st) hr8
  omega
theorem ra_one {D : va_G} {cT : Nat → ClassId} {s : State} {cA : ClassId} {ty : FieldType} {t : Nat} (h1 : va_K D vwCl (tysC cT) s) (ht : (tysC cT)[t]? = some (cT t, ty)) (hp : ∀ n, ty ≠ .object n) (h2 : va_RA s cA ty) : cA = cT t := by
  have h3 := (h1.2 t _ ht).2
  cases ty with
  | object n => exact absurd rfl (hp n)
  | _ => exact Option.some.inj (h2.symm.trans h3)
/-- an array of numbers comes -/
theorem k_newa {at_ : ArrayType} {ty : FieldType} {t N : Nat} {n : Int32} (B : Big V A lv mc ms) (d : decode Y.2.1 pc = .ok (.newarray at_, 2)) (hty : newarray.typeOf at_ = ty) (hw : Cond.arrayClass ty ∈ gt) (ht : ∀ c : Nat → ClassId, (tysC c)[t]? = some (c t, ty)) (hp : ∀ n, ty ≠ .object n) (hdf : defaultValue ty = .int 0) (hn : ¬ n < 0) (hN : n.toNatClampNeg = N) (hb : N * componentBytes ty ≤ 536870912) (hc : cells + 1 ≤ mc) (hs : slots + N ≤ ms) (k : ∀ q, RunC Y D cT A V (pc + 2) L (.ref q :: st) (ws ++ [(q, .inl (cT t, N, .inl (fun _ => 0)))]) (cells + 1) (slots + N)) : RunC Y D cT A V pc L (.int n :: st) ws cells slots := by
  intro l p e R s m args below meth c Q hV C H locs ls hP hD hS hl
  obtain ⟨b1, b2, b3, b4, b5⟩ := B _ _ _ _ _ _ _ _ _ _ _ hV
  refine va_newa (a0 := (N, .inl (fun _ => 0))) C.1 C.2.1 (by rw [hty]; exact C.2.2.2.2.2.2.1 _ hw) hty C.2.2.2.2.2.2.2.1.1 hP hD hS b5 (fun cA => by rw [hdf]; rfl) hn hN hb (by omega) (by omega) d (fun q cA H1 hK1 hP1 hD1 hS1 => ?_)
  have e1 : cA = cT t := ra_one C.2.2.2.2.2.2.2.1.1 (ht cT) hp ((hK1.2 5 (cA, ty) rfl).2)
  subst e1
  exact k q l p e R s m args below meth c Q hV C H1 locs ls hP1 hD1 hS1 hl
/-- an array of references comes -/
theorem k_newq {N idx : Nat} {n : Int32} (B : Big V A lv mc ms) (d : decode Y.2.1 pc = .ok (.anewarray idx, 3)) (hl1 : Cond.classLink Y.1.cls idx "ChainedMen$Course" ∈ gt)  (hn : ¬ n < 0) (hN : n.toNatClampNeg = N) (hb : N * 4 ≤ 536870912) (hc : cells + 1 ≤ mc) (hs : slots + N ≤ ms) (k : ∀ q, RunC Y D cT A V (pc + 3) L (.ref q :: st) (ws ++ [(q, .inl (cT 4, N, .inr (.inr (.inr (.inr (fun _ => none))))))]) (cells + 1) (slots + N)) : RunC Y D cT A V pc L (.int n :: st) ws cells slots := by
  intro l p e R s m args below meth c Q hV C H locs ls hP hD hS hl
  obtain ⟨b1, b2, b3, b4, b5⟩ := B _ _ _ _ _ _ _ _ _ _ _ hV
  refine va_newq C.1 C.2.1 C.2.2.2.2.2.1 (C.2.2.2.2.2.2.1 _ hl1) C.2.2.2.2.2.2.2.1.2.2.2 C.2.2.2.2.2.2.2.1.1 hP hD hS b5 hn hN hb (by omega) (by omega) d (fun q cA H1 hK1 hP1 hD1 hS1 => ?_)
  obtain ⟨-, -, -, -, -, f1⟩ := (hK1.2 5 (cA, .object "ChainedMen$Course") rfl).2
  obtain ⟨-, -, -, -, -, f2⟩ := (C.2.2.2.2.2.2.2.1.1.2 4 (cT 4, .object "ChainedMen$Course") rfl).2
  have e1 : cA = cT 4 := Option.some.inj (f1.symm.trans f2)
  subst e1
  exact k q l p e R s m args below meth c Q hV C H1 locs ls hP1 hD1 hS1 hl
/-- an object comes -/
theorem k_new {C1 : String} {T : u_T} {N ci idx : Nat} {fs : List Value} (ty : Nat → FieldType) (B : Big V A lv mc ms) (d : decode Y.2.1 pc = .ok (.new idx, 3)) (hin : ∀ w ∈ u_ws C1 T N, w ∈ gt) (hty : ∀ k, k < N → parseFieldDescriptor (T k).2.2.1 = some (ty k)) (w1 : Cond.classLink Y.1.cls idx C1 ∈ gt) (w2 : Cond.instantiable C1 N ∈ gt) (w3 : Cond.initialized C1 ∈ gt) (hci : vwCl[ci]? = some (C1, T, N)) (hfs : ∀ j, j < N → defaultValue (ty j) = vp_V fs j) (hc : cells + 1 ≤ mc) (hs : slots + N ≤ ms) (k : ∀ q, RunC Y D cT A V (pc + 3) L (.ref q :: st) (ws ++ [(q, .inr (ci, fs))]) (cells + 1) (slots + N)) : RunC Y D cT A V pc L st ws cells slots := by
  intro l p e R s m args below meth c Q hV C H locs ls hP hD hS hl
  obtain ⟨b1, b2, b3, b4, b5⟩ := B _ _ _ _ _ _ _ _ _ _ _ hV
  exact va_new (C := C1) (T := T) (N := N) C.1 C.2.1 C.2.2.2.2.2.2.1 hin ty hty C.2.2.2.2.2.1 (C.2.2.2.2.2.2.1 _ w1) (C.2.2.2.2.2.2.1 _ w2) (C.2.2.2.2.2.2.1 _ w3) C.2.2.2.2.2.2.2.1.1 hP hD hS b5 hci hfs (by omega) (by omega) d (fun q H1 hP1 hD1 hS1 => k q l p e R s m args below meth c Q hV C H1 locs ls hP1 hD1 hS1 hl)
/-- a field that is written once -/
theorem k_putF {C1 : String} {T : u_T} {N ci idx a q0 kf : Nat} {v : Value} {fs : List Value} {ws' : va_W} (ty0 : Nat → FieldType) (d : decode Y.2.1 pc = .ok (.putfield idx, 3)) (hin : ∀ w ∈ u_ws C1 T N, w ∈ gt) (hty : ∀ k, k < N → parseFieldDescriptor (T k).2.2.1 = some (ty0 k)) (hnm : ∀ a, a < N → ∀ b, b < N → a ≠ b → (T a).2.1 ≠ (T b).2.1) (hlink : Cond.fieldLink Y.1.cls idx C1 (T kf).2.1 (T kf).2.2.1 ∈ gt) (he : ws[q0]? = some (a, .inr (ci, fs))) (hci : vwCl[ci]? = some (C1, T, N)) (hk : kf < N) (hdecl : (T kf).1 = C1) (hfin : (T kf).2.2.2 = true) (hini : Y.1.name = "<init>") (hown : C1 = Y.1.cls) (hn : narrow (ty0 kf) v = v) (hfit : fits (ty0 kf) v = true) (hl2 : kf < fs.length) (hws : ws.set q0 (a, .inr (ci, fs.set kf v)) = ws') (k : RunC Y D cT A V (pc + 3) L st ws' cells slots) : RunC Y D cT A V pc L (v :: .ref a :: st) ws cells slots := by
  subst hws
  exact fun l p e R s m args below meth c Q hV C H locs ls hP hD hS hl => va_putF (D := D) (ci := ci) (v := v) (ty := ty0 kf) (C := C1) (T := T) (N := N) (ref := C1) C.1 C.2.1 C.2.2.2.2.2.2.1 hin ty0 hty hnm C.2.2.2.2.2.1 C.2.2.2.2.2.2.2.1.1 hP hD hS q0 he hci kf hk (C.2.2.2.2.2.2.1 _ hlink) (fun x hx => by rw [hdecl] at hx; exact hx) hfin (C.2.2.2.2.2.2.2.2 hini) (by rw [hdecl, hown]) (hty kf hk) hn hfit hl2 d (fun H1 locs1 hP1 hD1 hS1 => k l p e R s m args below meth c Q hV C H1 locs1 ls hP1 hD1 hS1 hl)
theorem k_put {C1 : String} {T : u_T} {N ci idx a q0 kf : Nat} {v : Value} {fs : List Value} {ws' : va_W} (ty0 : Nat → FieldType) (d : decode Y.2.1 pc = .ok (.putfield idx, 3)) (hin : ∀ w ∈ u_ws C1 T N, w ∈ gt) (hty : ∀ k, k < N → parseFieldDescriptor (T k).2.2.1 = some (ty0 k)) (hnm : ∀ a, a < N → ∀ b, b < N → a ≠ b → (T a).2.1 ≠ (T b).2.1) (hlink : Cond.fieldLink Y.1.cls idx C1 (T kf).2.1 (T kf).2.2.1 ∈ gt) (he : ws[q0]? = some (a, .inr (ci, fs))) (hci : vwCl[ci]? = some (C1, T, N)) (hk : kf < N) (hdecl : (T kf).1 = C1) (hfin : (T kf).2.2.2 = false) (hn : narrow (ty0 kf) v = v) (hfit : fits (ty0 kf) v = true) (hl2 : kf < fs.length) (hws : ws.set q0 (a, .inr (ci, fs.set kf v)) = ws') (k : RunC Y D cT A V (pc + 3) L st ws' cells slots) : RunC Y D cT A V pc L (v :: .ref a :: st) ws cells slots := by
  subst hws
  exact fun l p e R s m args below meth c Q hV C H locs ls hP hD hS hl => va_put (D := D) (ci := ci) (v := v) (ty := ty0 kf) (C := C1) (T := T) (N := N) (ref := C1) C.1 C.2.1 C.2.2.2.2.2.2.1 hin ty0 hty hnm C.2.2.2.2.2.1 C.2.2.2.2.2.2.2.1.1 hP hD hS q0 he hci kf hk (C.2.2.2.2.2.2.1 _ hlink) (fun x hx => by rw [hdecl] at hx; exact hx) hfin (hty kf hk) hn hfit hl2 d (fun H1 locs1 hP1 hD1 hS1 => k l p e R s m args below meth c Q hV C H1 locs1 ls hP1 hD1 hS1 hl)
theorem k_get {C1 : String} {T : u_T} {N ci idx a q0 kf : Nat} {v : Value} {fs : List Value} (d : decode Y.2.1 pc = .ok (.getfield idx, 3)) (hin : ∀ w ∈ u_ws C1 T N, w ∈ gt) (hlink : Cond.fieldLink Y.1.cls idx C1 (T kf).2.1 (T kf).2.2.1 ∈ gt) (he : ws[q0]? = some (a, .inr (ci, fs))) (hci : vwCl[ci]? = some (C1, T, N)) (hk : kf < N) (hdecl : (T kf).1 = C1) (hv : fs[kf]? = some v) (k : RunC Y D cT A V (pc + 3) L (v :: st) ws cells slots) : RunC Y D cT A V pc L (.ref a :: st) ws cells slots :=
  fun l p e R s m args below meth c Q hV C H locs ls hP hD hS hl => va_get (D := D) (ci := ci) (v := v) (C := C1) (T := T) (N := N) (ref := C1) C.1 C.2.1 C.2.2.2.2.2.2.1 hin C.2.2.2.2.2.1 C.2.2.2.2.2.2.2.1.1 hP q0 he hci kf hk (C.2.2.2.2.2.2.1 _ hlink) (fun x hx => by rw [hdecl] at hx; exact hx) hv d (k l p e R s m args below meth c Q hV C H locs ls hP hD hS hl)
theorem k_iast {a q0 n : Nat} {f : Nat → Int32} {i x : Int32} {ws' : va_W} (d : decode Y.2.1 pc = .ok (.iastore, 1)) (he : ws[q0]? = some (a, .inl (cT 0, n, .inl f))) (hin : vp_in i n) (hws : ws.set q0 (a, .inl (cT 0, n, .inl (upd f i.toNatClampNeg x))) = ws') (k : RunC Y D cT A V (pc + 1) L st ws' cells slots) : RunC Y D cT A V pc L (.int x :: .int i :: .ref a :: st) ws cells slots := by
  subst hws
  exact fun l p e R s m args below meth c Q hV C H locs ls hP hD hS hl => va_iast C.1 C.2.1 C.2.2.2.2.2.2.2.1.1 hP hD hS q0 0 he rfl hin d (fun H1 locs1 hP1 hD1 hS1 => k l p e R s m args below meth c Q hV C H1 locs1 ls hP1 hD1 hS1 hl)
theorem k_alen {a q0 n : Nat} {f : Nat → Int32} {v : Int32} (d : decode Y.2.1 pc = .ok (.arraylength, 1)) (he : ws[q0]? = some (a, .inl (cT 0, n, .inl f))) (hv : Int32.ofNat n = v) (k : RunC Y D cT A V (pc + 1) L (.int v :: st) ws cells slots) : RunC Y D cT A V pc L (.ref a :: st) ws cells slots :=
  fun l p e R s m args below meth c Q hV C H locs ls hP hD hS hl => va_alen C.1 C.2.1 C.2.2.2.2.2.2.2.1.1 hP q0 0 he (ty := .int) (x := (n, .inl f)) rfl hv d (k l p e R s m args below meth c Q hV C H locs ls hP hD hS hl)
theorem k_aast {a b q0 qk n ci : Nat} {r : vw_C} {vs : List Value} {f : Nat → Option Nat} {i : Int32} {ws' : va_W} (d : decode Y.2.1 pc = .ok (.aastore, 1)) (he : ws[q0]? = some (a, .inl (cT 4, n, .inr (.inr (.inr (.inr f)))))) (hv : ws[qk]? = some (b, .inr (ci, vs))) (hci : vwCl[ci]? = some r) (hr : r.1 = "ChainedMen$Course") (hin : vp_in i n) (hws : ws.set q0 (a, .inl (cT 4, n, .inr (.inr (.inr (.inr (va_up f i.toNatClampNeg (some b))))))) = ws') (k : RunC Y D cT A V (pc + 1) L st ws' cells slots) : RunC Y D cT A V pc L (.ref b :: .int i :: .ref a :: st) ws cells slots := by
  subst hws
  exact fun l p e R s m args below meth c Q hV C H locs ls hP hD hS hl => va_astq C.1 C.2.1 C.2.2.2.2.2.2.2.1.1 hP hD hS q0 4 qk ci he (by rw [hr]; rfl) hv hci hin d (fun H1 locs1 hP1 hD1 hS1 => k l p e R s m args below meth c Q hV C H1 locs1 ls hP1 hD1 hS1 hl)
end MAKE
section MAKECALL
variable {Y : Yd} {D : va_G} {cT : Nat → ClassId} {A : Nat → Prop} {V : Vc} {pc : Nat} {L : List (Option Value)} {st rest : List Value} {wr wc : va_W} {cells slots lv mc ms : Nat}
theorem backC {p : Program} {l : Launch} {e : Env} {R : Room} {s : State} {m : MethodId} {args : Array Value} {below : List Frame} {meth : Method} {c : Code} {H : Heap} {locs : List Loc} {Q : State → Prop} {Post : va_W → Prop} {ls : Array Slot} {st0 rest0 : List Value} {a : Array Value} {nc ns : Nat}
    (hr : va_Run p l e R s m args below meth c H locs cells slots nc ns (F0 m pc ls st0) rest0 (QC D Post (va_A wc H.size) a) (va_A wc H.size)) (hP : va_P D vwCl (wr ++ wc) H) (hD : va_D A (wr ++ wc)) (hS : va_S A s.heap H locs) (hA : ∀ q, s.heap.size ≤ q → A q)
    (kk : ∀ (w1 : va_W) (H1 : Heap) (locs1 : List Loc), Post w1 → va_P D vwCl (wr ++ w1) H1 → va_D A (wr ++ w1) → va_S A s.heap H1 locs1 → W p l e R s m args below meth c H1 locs1 (cells + nc) (slots + ns) Q (F0 m (pc + 3) ls rest0)) : W p l e R s m args below meth c H locs cells slots Q (F0 m pc ls st0) := by
  have hF : ∀ q, va_A wc H.size q → A q := by
    intro q h
    rcases h with ⟨k, e, h⟩ | h
    · exact hD.2 (wr.length + k) (q, e) (by rw [List.getElem?_append_right (by omega)]; simpa using h)
    · exact hA q (Nat.le_trans hS.1 h)
  intro T0 hT X
  obtain ⟨v, st₀, t, T', L, h0, X', hL, e1, e2, ⟨⟨hv, w1, hpost, hp1, hd1⟩, hz, hk⟩, step⟩ := hr T0 hT X
  have hv' : v = none := by cases hv; rfl
  subst hv'
  rw [h0] at hz hk
  have apart : ∀ (k : Nat) (q : Nat × va_E), wr[k]? = some q → q.1 < H.size ∧ ¬ va_A wc H.size q.1 := by
    intro k q hq
    have hkl : k < wr.length := (List.getElem?_eq_some_iff.mp hq).1
    have h2 : (wr ++ wc)[k]? = some q := by rw [List.getElem?_append_left hkl]; exact hq
    have hl := (hP k q h2).lt
    refine ⟨hl, fun h => ?_⟩
    rcases h with ⟨k2, e, h⟩ | h
    · have h4 : (wr ++ wc)[wr.length + k2]? = some (q.1, e) := by rw [List.getElem?_append_right (by omega)]; simpa using h
      have hij := hD.1 k (wr.length + k2) q (q.1, e) h2 h4 rfl
      omega
    · omega
  have hPr : va_P D vwCl (wr ++ w1) T'.heap := by
    refine va_P.app (fun k q hq => ?_) (by rw [e1]; exact hp1)
    obtain ⟨g1, g2⟩ := apart k q hq
    have hkl : k < wr.length := (List.getElem?_eq_some_iff.mp hq).1
    exact (hP k q (by rw [List.getElem?_append_left hkl]; exact hq)).kept (by rw [e1]; exact hk q.1 g1 g2)
  have hDr : va_D A (wr ++ w1) := by
    refine va_D.app ⟨fun i j p q hp hq e => ?_, fun k q hq => ?_⟩ (hd1.weaken (fun k q _ h => hF q.1 h)) (fun i j x y hx hy hxy => (apart i x hx).2 (by rw [hxy]; exact hd1.2 j y hy))
    · have h1 : i < wr.length := (List.getElem?_eq_some_iff.mp hp).1
      have h2 : j < wr.length := (List.getElem?_eq_some_iff.mp hq).1
      exact hD.1 i j p q (by rw [List.getElem?_append_left h1]; exact hp) (by rw [List.getElem?_append_left h2]; exact hq) e
    · have h1 : k < wr.length := (List.getElem?_eq_some_iff.mp hq).1
      exact hD.2 k q (by rw [List.getElem?_append_left h1]; exact hq)
  obtain ⟨t2, a1, b1⟩ := kk w1 T'.heap (locs ++ L) hpost hPr hDr
    ⟨Nat.le_trans hS.1 (by rw [e1]; exact hz), fun q h1 h2 => by rw [e1, hk q (Nat.lt_of_lt_of_le h1 hS.1) (fun z => h2 (hF q z))]; exact hS.2.1 q h1 h2, fun q hq => by
      rcases List.mem_append.mp hq with h | h
      · exact hS.2.2 q h
      · exact hF _ (hL q h)⟩ T' rfl X'
  exact ⟨t2, step t2 a1, b1⟩
theorem preC {Y : Yd} {p : Program} {s : State} {m : MethodId} {args : Array Value} {meth : Method} {c : Code} {H : Heap} {As : List Value} (C : Cc Y D cT p s m args meth c) (hP : va_P D vwCl (wr ++ wc) H) (hD : va_D A (wr ++ wc)) : FrameBlind (va_Pc As (fun U => U.heap.size = H.size ∧ va_P D vwCl wc U.heap ∧ va_D (fun _ => True) wc ∧ KK D cT U)) ∧ ∀ U : State, U.heap = H → s.WarmedH U.vm → (va_Pc As (fun U => U.heap.size = H.size ∧ va_P D vwCl wc U.heap ∧ va_D (fun _ => True) wc ∧ KK D cT U)) As.toArray U := by
  have sub : ∀ (k : Nat) (q : Nat × va_E), wc[k]? = some q → (wr ++ wc)[wr.length + k]? = some q := fun k q h => by rw [List.getElem?_append_right (by omega)]; simpa using h
  refine ⟨fun a U g mk hp => ?_, fun U hU hW => ⟨rfl, by rw [hU], ?_, ?_, C.2.2.2.2.2.2.2.1.warm hW⟩⟩
  · obtain ⟨h0, h1, h2, h3, h4⟩ := hp
    exact ⟨h0, h1, h2, h3, KK.same (s := U) (U := U.calling g mk a) rfl (Vm.Alike.refl U.vm) h4⟩
  · rw [hU]
    exact fun k q h => hP _ q (sub k q h)
  · exact ⟨fun i j p q hp hq e => by have := hD.1 _ _ p q (sub i p hp) (sub j q hq) e; omega, fun _ _ _ => trivial⟩
/-- a constructor -/
theorem k_init {Z : Yd} {Post : va_W → Prop} {n l2 nc ns idx b : Nat} {As : List Value} {ws : va_W} (B : Big V A lv mc ms) (d : decode Y.2.1 pc = .ok (.invokespecial idx, 3)) (yo : YO Z) (hz : Z.2.2.2 = none) (hnm : Z.1.name = "<init>") (w1 : Cond.instanceMethod Z.1 ∈ gt) (hl1 : Cond.methodLink Y.1.cls idx Z.1 ∈ gt) (hn : (parseMethodDescriptor Z.1.desc).map (fun d => d.parameters.length) = some n) (hlv : l2 + 1 ≤ lv) (hlen : As.length = n) (hst : st = As.reverse ++ .ref b :: rest) (hr8 : (rest.map fun v => v.category).sum ≤ 8) (hws : ws = wr ++ wc) (hM : MetC Z D cT l2 nc ns (.ref b :: As) wc Post) (hc : cells + nc ≤ mc) (hs : slots + ns ≤ ms) (kk : ∀ w1, Post w1 → RunC Y D cT A V (pc + 3) L rest (wr ++ w1) (cells + nc) (slots + ns)) : RunC Y D cT A V pc L st ws cells slots := by
  subst hws
  intro l p e R s m args below meth c Q hV C H locs ls hP hD hS hl
  obtain ⟨b1, b2, b3, b4, b5⟩ := B _ _ _ _ _ _ _ _ _ _ _ hV
  have hm5 : Z.2.2.1 ≤ 20 := yo.2.2.2.2
  have hpre := preC (As := .ref b :: As) C hP hD
  refine backC (va_runI (bytes := Z.2.1) (maxL := Z.2.2.1) (ws := wsY Z) (rm := rmC l2 nc ns) (mc := nc) (ms := ns) (n := n) (As := As) (rest := rest) (b := b) ⟨C.1, C.2.1, C.2.2.2.2.1, C.2.2.2.2.2.1, C.2.2.2.2.2.2.1⟩ (hM l H.size) ⟨?_, hnm, C.2.2.2.2.2.2.1 _ w1⟩ hpre rfl hlen hl.1 hst (lv_room hr8) d ⟨by omega, by omega⟩) hP hD hS b5 (fun w1 H1 locs1 hpo hP1 hD1 hS1 => kk w1 hpo l p e R s m args below meth c Q hV C H1 locs1 ls hP1 hD1 hS1 hl)
  have hcode : Cond.code Z.1 Z.2.1 Z.2.2.1 none ∈ gt := by have := yo.1; rw [hz] at this; exact this
  refine ⟨rfl, rfl, by show l2 + 1 ≤ R.frames; omega, ?_, pay_in C.2.2.2.2.2.2.1 (gt_good (wsY_in yo)), by unfold wsY; rw [hz]; exact List.mem_cons_self, C.2.2.2.2.2.2.1 _ hcode, C.2.2.2.2.2.2.1 _ yo.2.1, yo.2.2.1, arity_ok hn, C.2.2.2.2.2.2.1 _ hl1⟩
  show 8 + (Z.2.2.1 + 11) + 40 * l2 ≤ R.locals
  omega
theorem k_initN {Z : Yd} {Post : va_W → Prop} {n l2 nc ns idx b : Nat} {As : List Value} {ws : va_W} (B : Big V A lv mc ms) (d : decode Y.2.1 pc = .ok (.invokespecial idx, 3)) (yo : YO Z) (hz : Z.2.2.2 = none) (hnm : Z.1.name = "<init>") (w1 : Cond.instanceMethod Z.1 ∈ gt) (hl1 : Cond.methodLinkNest Y.1.cls idx Z.1 "ChainedMen" ∈ nest2) (hn : (parseMethodDescriptor Z.1.desc).map (fun d => d.parameters.length) = some n) (hlv : l2 + 1 ≤ lv) (hlen : As.length = n) (hst : st = As.reverse ++ .ref b :: rest) (hr8 : (rest.map fun v => v.category).sum ≤ 8) (hws : ws = wr ++ wc) (hM : MetC Z D cT l2 nc ns (.ref b :: As) wc Post) (hc : cells + nc ≤ mc) (hs : slots + ns ≤ ms) (kk : ∀ w1, Post w1 → RunC Y D cT A V (pc + 3) L rest (wr ++ w1) (cells + nc) (slots + ns)) : RunC Y D cT A V pc L st ws cells slots := by
  subst hws
  intro l p e R s m args below meth c Q hV C H locs ls hP hD hS hl
  obtain ⟨b1, b2, b3, b4, b5⟩ := B _ _ _ _ _ _ _ _ _ _ _ hV
  have hm5 : Z.2.2.1 ≤ 20 := yo.2.2.2.2
  have hpre := preC (As := .ref b :: As) C hP hD
  refine backC (va_runIN (host := "ChainedMen") (bytes := Z.2.1) (maxL := Z.2.2.1) (ws := wsY Z) (rm := rmC l2 nc ns) (mc := nc) (ms := ns) (n := n) (As := As) (rest := rest) (b := b) ⟨C.1, C.2.1, C.2.2.2.2.1, C.2.2.2.2.2.1, C.2.2.2.2.2.2.1⟩ (hM l H.size) ⟨?_, hnm, C.2.2.2.2.2.2.1 _ w1⟩ hpre rfl hlen hl.1 hst (lv_room hr8) d ⟨by omega, by omega⟩) hP hD hS b5 (fun w1 H1 locs1 hpo hP1 hD1 hS1 => kk w1 hpo l p e R s m args below meth c Q hV C H1 locs1 ls hP1 hD1 hS1 hl)
  have hcode : Cond.code Z.1 Z.2.1 Z.2.2.1 none ∈ gt := by have := yo.1; rw [hz] at this; exact this
  refine ⟨⟨rfl, rfl, by show l2 + 1 ≤ R.frames; omega, ?_, pay_in C.2.2.2.2.2.2.1 (gt_good (wsY_in yo)), by unfold wsY; rw [hz]; exact List.mem_cons_self⟩, C.2.2.2.2.2.2.1 _ hcode, C.2.2.2.2.2.2.1 _ yo.2.1, yo.2.2.1, arity_ok hn, va_Nw.use rfl (C.2.2.2.2.2.2.2.1.2.1 _ hl1)⟩
  show 8 + (Z.2.2.1 + 11) + 40 * l2 ≤ R.locals
  omega
/-- a method of the class itself; a method of an object, over the whole world -/
theorem k_callS {Z : Yd} {Post : va_W → Prop} {n l2 idx : Nat} {As : List Value} {ws : va_W} (B : Big V A lv mc ms) (d : decode Y.2.1 pc = .ok (.invokestatic idx, 3)) (yo : YO Z) (ys : Cond.static Z.1 ∈ gt) (hl1 : Cond.methodLink Y.1.cls idx Z.1 ∈ gt) (hn : (parseMethodDescriptor Z.1.desc).map (fun d => d.parameters.length) = some n) (hlv : l2 + 1 ≤ lv) (hlen : As.length = n) (hst : st = As.reverse ++ rest) (hr8 : (rest.map fun v => v.category).sum ≤ 8) (hws : ws = wr ++ wc) (hM : MetC Z D cT l2 0 0 As wc Post) (hc : cells ≤ mc) (hs : slots ≤ ms) (kk : ∀ w1, Post w1 → RunC Y D cT A V (pc + 3) L rest (wr ++ w1) cells slots) : RunC Y D cT A V pc L st ws cells slots := by
  subst hws
  intro l p e R s m args below meth c Q hV C H locs ls hP hD hS hl
  obtain ⟨b1, b2, b3, b4, b5⟩ := B _ _ _ _ _ _ _ _ _ _ _ hV
  have hm5 : Z.2.2.1 ≤ 20 := yo.2.2.2.2
  have hpre := preC (As := As) C hP hD
  refine backC (nc := 0) (ns := 0) (va_runS (bytes := Z.2.1) (maxL := Z.2.2.1) (ret := Z.2.2.2) (ws := wsY Z) (rm := rmC l2 0 0) (mc := 0) (ms := 0) (n := n) (As := As) (rest := rest) ⟨C.1, C.2.1, C.2.2.2.2.1, C.2.2.2.2.2.1, C.2.2.2.2.2.2.1⟩ (hM l H.size) ⟨?_, C.2.2.2.2.2.2.1 _ ys⟩ hpre rfl hlen hl.1 hst (lv_room hr8) d ⟨by omega, by omega⟩) hP hD hS b5 (fun w1 H1 locs1 hpo hP1 hD1 hS1 => kk w1 hpo l p e R s m args below meth c Q hV C H1 locs1 ls hP1 hD1 hS1 hl)
  refine ⟨rfl, rfl, by show l2 + 1 ≤ R.frames; omega, ?_, pay_in C.2.2.2.2.2.2.1 (gt_good (wsY_in yo)), List.mem_cons_self, C.2.2.2.2.2.2.1 _ yo.1, C.2.2.2.2.2.2.1 _ yo.2.1, yo.2.2.1, arity_ok hn, C.2.2.2.2.2.2.1 _ hl1⟩
  show 8 + (Z.2.2.1 + 11) + 40 * l2 ≤ R.locals
  omega
theorem k_callV {Z : Yd} {Post : va_W → Prop} {n l2 idx b q0 ci : Nat} {q : vw_C} {fs : List Value} {As : List Value} {ws : va_W} (B : Big V A lv mc ms) (d : decode Y.2.1 pc = .ok (.invokevirtual idx, 3)) (yo : YO Z) (yi : YI Z) (hl1 : Cond.methodLink Y.1.cls idx Z.1 ∈ gt) (hn : (parseMethodDescriptor Z.1.desc).map (fun d => d.parameters.length) = some n) (hlv : l2 + 1 ≤ lv) (he : ws[q0]? = some (b, .inr (ci, fs))) (hci : vwCl[ci]? = some q) (hcl : q.1 = Z.1.cls) (hlen : As.length = n) (hst : st = As.reverse ++ .ref b :: rest) (hr8 : (rest.map fun v => v.category).sum ≤ 8) (hM : MetC Z D cT l2 0 0 (.ref b :: As) ws Post) (hc : cells ≤ mc) (hs : slots ≤ ms) (kk : ∀ w1, Post w1 → RunC Y D cT A V (pc + 3) L rest w1 cells slots) : RunC Y D cT A V pc L st ws cells slots := by
  intro l p e R s m args below meth c Q hV C H locs ls hP hD hS hl
  obtain ⟨b1, b2, b3, b4, b5⟩ := B _ _ _ _ _ _ _ _ _ _ _ hV
  have hm5 : Z.2.2.1 ≤ 20 := yo.2.2.2.2
  have hpre := preC (wr := []) (wc := ws) (As := .ref b :: As) C hP hD
  have hrecv := va_recv C.2.2.2.2.2.2.2.1.1 hP hci he
  rw [hcl] at hrecv
  refine backC (wr := []) (wc := ws) (nc := 0) (ns := 0) (va_runV (C := Z.1.cls) (bytes := Z.2.1) (maxL := Z.2.2.1) (ret := Z.2.2.2) (ws := wsY Z) (rm := rmC l2 0 0) (mc := 0) (ms := 0) (n := n) (As := As) (rest := rest) (b := b) ⟨C.1, C.2.1, C.2.2.2.2.1, C.2.2.2.2.2.1, C.2.2.2.2.2.2.1⟩ (hM l H.size) ⟨?_, C.2.2.2.2.2.2.1 _ yi.1, C.2.2.2.2.2.2.1 _ yi.2⟩ ⟨hpre.1, hrecv, hpre.2⟩ rfl hlen hl.1 hst (lv_room hr8) d ⟨by omega, by omega⟩) hP hD hS b5 (fun w1 H1 locs1 hpo hP1 hD1 hS1 => kk w1 hpo l p e R s m args below meth c Q hV C H1 locs1 ls hP1 hD1 hS1 hl)
  refine ⟨rfl, rfl, by show l2 + 1 ≤ R.frames; omega, ?_, pay_in C.2.2.2.2.2.2.1 (gt_good (wsY_in yo)), List.mem_cons_self, C.2.2.2.2.2.2.1 _ yo.1, C.2.2.2.2.2.2.1 _ yo.2.1, yo.2.2.1, arity_ok hn, C.2.2.2.2.2.2.1 _ hl1⟩
  show 8 + (Z.2.2.1 + 11) + 40 * l2 ≤ R.locals
  omega
theorem k_ret {Post : va_W → Prop} {ws : va_W} {A : Nat → Prop} (d : decode Y.2.1 pc = .ok (.return_, 1)) (hr : Y.2.2.2 = none) (hc : cells ≤ mc) (hs : slots ≤ ms) (hp : Post ws) : RunC Y D cT A (VC D lv mc ms Post A) pc L [] ws cells slots := by
  intro l p e R s m args below meth c Q hV C H locs ls hP hD hS hl
  obtain ⟨rfl, rfl, -⟩ := hV
  refine W.widen (k := mc) (n := ms) hc hs ?_
  exact W.vret C.1 C.2.1 (by rw [C.2.2.1, hr]) (fun t ht hW => ⟨⟨rfl, ws, hp, by rw [ht]; exact hP, hD⟩, hS.F ht⟩) hS.2.2 d C.2.2.2.1
theorem metC_of {As : List Value} {ws0 : va_W} {Post : va_W → Prop} (yo : YO Y) (ha : (As.map fun v => v.category).sum ≤ Y.2.2.1) (k : ∀ A : Nat → Prop, RunC Y D cT A (VC D lv mc ms Post A) 0 (ini Y.2.2.1 As) [] ws0 0 0) : MetC Y D cT lv mc ms As ws0 Post := by
  intro l sz
  refine Met.ofW (cc := Y.2.1) (maxL := Y.2.2.1) (ret := Y.2.2.2) yo.2.2.2.1 rfl ?_
  intro p e s m args below meth c s₁ B hml hv
  obtain ⟨rfl, hsz, hP, hD, hK⟩ := hv
  subst hsz
  have hts := atoms_spec (ws := wsY Y) B.pre
  have e0 : As.map (rv id) = As := by
    have : ∀ v : Value, rv id v = v := fun v => by cases v <;> rfl
    rw [List.map_congr_left (fun v _ => this v), List.map_id']
  have hl := lv_entry As (n := Y.2.2.1) (by have := sl_len id As; rw [e0] at this; rw [this]; exact ha)
  rw [lg_entry_eq]
  refine k (va_A ws0 s.heap.size) l p e (rmC lv mc ms) s m _ below meth c _ ⟨rfl, rfl, fun q h => Or.inr h⟩ ⟨B.exec, B.bytes, B.returns, B.notSynchronized, hml, findClass_of_methodNamed B.named, fun w hw => hts w (List.mem_cons_of_mem _ hw), hK, fun hn => (name_of_methodNamed B.named B.method).1.trans hn⟩ s.heap [] _ hP hD.self va_S.rf ⟨hl.1, hl.2.1, fun q hq => ?_⟩
  obtain ⟨j, v, h1, rfl⟩ := lvm_of _ 0 q hq
  apply hl.2.2
  have h2 := ini_args id As _ 0 j v h1
  rw [e0] at h2
  exact h2
end MAKECALL
