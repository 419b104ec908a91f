/-! THE JUDGEMENT: from (pc, locals L, stack st, picture h) every machine that V admits comes where V says -/
abbrev Vt : Type := Gp → Launch → Program → Env → Room → State → MethodId → Array Value → List Frame → Method → Code → Nat → Nat → (State → Prop) → Prop
def Cx (Y : Yd) (g : Gp) (p : Program) (s : State) (m : MethodId) (args : Array Value) (meth : Method) (c : Code) : Prop :=
  p.tables.exec = Jvm.exec ∧ c.code = Y.2.1 ∧ meth.sig.returnType = Y.2.2.2 ∧ meth.locks = false ∧ c.maxLocals = Y.2.2.1 ∧ s.vm.findClass Y.1.cls = some m.cls ∧ (∀ w ∈ gt, w.before args s = true) ∧ va_K g.1 vwCl (tysL g) s ∧ Stat g s s.heap ∧ Nst s
def Run (Y : Yd) (V : Vt) (pc : Nat) (L : List (Option Value)) (st : List Value) (h : Hp) : Prop :=
  ∀ (g : Gp) (l : Launch) (p : Program) (e : Env) (R : Room) (s : State) (m : MethodId) (args : Array Value) (below : List Frame) (meth : Method) (c : Code) (cells slots : Nat) (Q : State → Prop), V g l p e R s m args below meth c cells slots Q → Cx Y g p s m args meth c →
  ∀ (H : Heap) (locs : List Loc) (ls : Array Slot), va_P g.1 vwCl (wl g h) H → va_D (AS g) (wl g h) → va_S (AS g) s.heap H locs → Lv g.2.2 ls Y.2.2.1 L → W p l e R s m args below meth c H locs cells slots Q (F0 m pc ls (st.map (rv g.2.2)))
/-- an ordinary method's end -/
def VM (lv : Nat) (T : To) : Vt := fun g l p e R s m args below meth c cells slots Q => R = rm lv ∧ cells = 0 ∧ slots = 0 ∧ Q = MQ below (Qx g T) args s 0 0 (AS g)
/-- V leaves room for a callee of level n -/
def Fits (V : Vt) (n : Nat) : Prop := ∀ (g : Gp) (l : Launch) (p : Program) (e : Env) (R : Room) (s : State) (m : MethodId) (args : Array Value) (below : List Frame) (meth : Method) (c : Code) (cells slots : Nat) (Q : State → Prop), V g l p e R s m args below meth c cells slots Q → n + 1 ≤ R.frames ∧ 40 * (n + 1) ≤ R.locals ∧ cells ≤ R.cells ∧ slots ≤ R.slots
theorem Fits.vm {lv n : Nat} {T : To} (h : n < lv) : Fits (VM lv T) n := by
  intro g l p e R s m args below meth c cells slots Q hV
  obtain ⟨rfl, rfl, rfl, -⟩ := hV
  refine ⟨h, ?_, Nat.zero_le _, Nat.zero_le _⟩
  show 40 * (n + 1) ≤ 40 * lv
  omega
/-- names for a computed thing -/
abbrev nm {α β : Type} (a : α) (f : α → β) : β := f a
abbrev jn {α β : Type} (a : α) (f : α → β) : β := f a
section CORE
variable {Y : Yd} {V : Vt} {pc : Nat} {L : List (Option Value)} {st : List Value} {h : Hp} {ρ : Type} {o : ρ}
theorem r_iconst {n : Int} {v : Int32} (d : decode Y.2.1 pc = .ok (.iconst n, 1)) (hv : Int32.ofInt n = v) (k : Run Y V (pc + 1) L (.int v :: st) h) : Run Y V pc L st h :=
  fun g l p e R s m args below meth c cells slots Q hV C H locs ls hP hD hS hl => lv_iconst C.1 C.2.1 d hv (k g l p e R s m args below meth c cells slots Q hV C H locs ls hP hD hS hl)
theorem r_bipush {n : Int} {v : Int32} (d : decode Y.2.1 pc = .ok (.bipush n, 2)) (hv : (Int8.ofInt n).toInt32 = v) (k : Run Y V (pc + 2) L (.int v :: st) h) : Run Y V pc L st h :=
  fun g l p e R s m args below meth c cells slots Q hV C H locs ls hP hD hS hl => lv_bipush C.1 C.2.1 d hv (k g l p e R s m args below meth c cells slots Q hV C H locs ls hP hD hS hl)
theorem r_sipush {n : Int} {v : Int32} (d : decode Y.2.1 pc = .ok (.sipush n, 3)) (hv : (Int16.ofInt n).toInt32 = v) (k : Run Y V (pc + 3) L (.int v :: st) h) : Run Y V pc L st h :=
  fun g l p e R s m args below meth c cells slots Q hV C H locs ls hP hD hS hl => lv_sipush C.1 C.2.1 d hv (k g l p e R s m args below meth c cells slots Q hV C H locs ls hP hD hS hl)
theorem r_lconst {n : Fin 2} {v : Int64} (d : decode Y.2.1 pc = .ok (.lconst n, 1)) (hv : Int64.ofNat (n : Nat) = v) (k : Run Y V (pc + 1) L (.long v :: st) h) : Run Y V pc L st h :=
  fun g l p e R s m args below meth c cells slots Q hV C H locs ls hP hD hS hl => lv_lconst C.1 C.2.1 d hv (k g l p e R s m args below meth c cells slots Q hV C H locs ls hP hD hS hl)
theorem r_ldc {idx : Nat} {v : Int32} (d : decode Y.2.1 pc = .ok (.ldc idx, 2)) (hw : Cond.constant Y.1.cls idx v ∈ gt) (k : Run Y V (pc + 2) L (.int v :: st) h) : Run Y V pc L st h :=
  fun g l p e R s m args below meth c cells slots Q hV C H locs ls hP hD hS hl => lv_ldc C.1 C.2.1 C.2.2.2.2.2.1 (C.2.2.2.2.2.2.1 _ hw) d (k g l p e R s m args below meth c cells slots Q hV C H locs ls hP hD hS hl)
theorem r_ldcw {idx : Nat} {v : Int32} (d : decode Y.2.1 pc = .ok (.ldc_w idx, 3)) (hw : Cond.constant Y.1.cls idx v ∈ gt) (k : Run Y V (pc + 3) L (.int v :: st) h) : Run Y V pc L st h :=
  fun g l p e R s m args below meth c cells slots Q hV C H locs ls hP hD hS hl => lv_ldcw C.1 C.2.1 C.2.2.2.2.2.1 (C.2.2.2.2.2.2.1 _ hw) d (k g l p e R s m args below meth c cells slots Q hV C H locs ls hP hD hS hl)
theorem r_ldc2 {idx : Nat} {v : Int64} (d : decode Y.2.1 pc = .ok (.ldc2_w idx, 3)) (hw : Cond.constantLong Y.1.cls idx v ∈ gt) (k : Run Y V (pc + 3) L (.long v :: st) h) : Run Y V pc L st h :=
  fun g l p e R s m args below meth c cells slots Q hV C H locs ls hP hD hS hl => lv_ldc2 C.1 C.2.1 C.2.2.2.2.2.1 (C.2.2.2.2.2.2.1 _ hw) d (k g l p e R s m args below meth c cells slots Q hV C H locs ls hP hD hS hl)
theorem r_iload_n {n : Fin 4} {x : Int32} (d : decode Y.2.1 pc = .ok (.iload_n n, 1)) (hi : L[n.val]? = some (some (.int x))) (k : Run Y V (pc + 1) L (.int x :: st) h) : Run Y V pc L st h :=
  fun g l p e R s m args below meth c cells slots Q hV C H locs ls hP hD hS hl => lv_iload_n C.1 C.2.1 d rfl (hl.get hi) (k g l p e R s m args below meth c cells slots Q hV C H locs ls hP hD hS hl)
theorem r_iload {i : Nat} {x : Int32} (d : decode Y.2.1 pc = .ok (.iload i, 2)) (hi : L[i]? = some (some (.int x))) (k : Run Y V (pc + 2) L (.int x :: st) h) : Run Y V pc L st h :=
  fun g l p e R s m args below meth c cells slots Q hV C H locs ls hP hD hS hl => lv_iload C.1 C.2.1 d (hl.get hi) (k g l p e R s m args below meth c cells slots Q hV C H locs ls hP hD hS hl)
theorem r_lload_n {n : Fin 4} {x : Int64} (d : decode Y.2.1 pc = .ok (.lload_n n, 1)) (hi : L[n.val]? = some (some (.long x))) (k : Run Y V (pc + 1) L (.long x :: st) h) : Run Y V pc L st h :=
  fun g l p e R s m args below meth c cells slots Q hV C H locs ls hP hD hS hl => lv_lload_n C.1 C.2.1 d rfl (hl.get hi) (k g l p e R s m args below meth c cells slots Q hV C H locs ls hP hD hS hl)
theorem r_lload {i : Nat} {x : Int64} (d : decode Y.2.1 pc = .ok (.lload i, 2)) (hi : L[i]? = some (some (.long x))) (k : Run Y V (pc + 2) L (.long x :: st) h) : Run Y V pc L st h :=
  fun g l p e R s m args below meth c cells slots Q hV C H locs ls hP hD hS hl => lv_lload C.1 C.2.1 d (hl.get hi) (k g l p e R s m args below meth c cells slots Q hV C H locs ls hP hD hS hl)
theorem r_aload_n {n : Fin 4} {x : Nat} (d : decode Y.2.1 pc = .ok (.aload_n n, 1)) (hi : L[n.val]? = some (some (.ref x))) (k : Run Y V (pc + 1) L (.ref x :: st) h) : Run Y V pc L st h :=
  fun g l p e R s m args below meth c cells slots Q hV C H locs ls hP hD hS hl => lv_aload_n C.1 C.2.1 d rfl (hl.get hi) (k g l p e R s m args below meth c cells slots Q hV C H locs ls hP hD hS hl)
theorem r_istore_n {n : Fin 4} {x : Int32} {F : Int32 → Option ρ} (d : decode Y.2.1 pc = .ok (.istore_n n, 1)) (hn : n.val < Y.2.2.1) (hf : nm x F = some o) (k : ∀ x, F x = some o → Run Y V (pc + 1) (lst n.val (.int x) L) st h) : Run Y V pc L (.int x :: st) h :=
  fun g l p e R s m args below meth c cells slots Q hV C H locs ls hP hD hS hl => lv_istore_n C.1 C.2.1 d rfl hl hn rfl (fun ls' h' => k x hf g l p e R s m args below meth c cells slots Q hV C H locs ls' hP hD hS (Lv.put (v := .int x) h'))
theorem r_istore {i : Nat} {x : Int32} {F : Int32 → Option ρ} (d : decode Y.2.1 pc = .ok (.istore i, 2)) (hn : i < Y.2.2.1) (hf : nm x F = some o) (k : ∀ x, F x = some o → Run Y V (pc + 2) (lst i (.int x) L) st h) : Run Y V pc L (.int x :: st) h :=
  fun g l p e R s m args below meth c cells slots Q hV C H locs ls hP hD hS hl => lv_istore C.1 C.2.1 d hl hn rfl (fun ls' h' => k x hf g l p e R s m args below meth c cells slots Q hV C H locs ls' hP hD hS (Lv.put (v := .int x) h'))
theorem r_lstore_n {n : Fin 4} {x : Int64} {F : Int64 → Option ρ} (d : decode Y.2.1 pc = .ok (.lstore_n n, 1)) (hn : n.val + 1 < Y.2.2.1) (hf : nm x F = some o) (k : ∀ x, F x = some o → Run Y V (pc + 1) (lst2 n.val (.long x) L) st h) : Run Y V pc L (.long x :: st) h :=
  fun g l p e R s m args below meth c cells slots Q hV C H locs ls hP hD hS hl => lv_lstore_n C.1 C.2.1 d rfl hl hn rfl (fun ls' h' => k x hf g l p e R s m args below meth c cells slots Q hV C H locs ls' hP hD hS (Lv.put2 (v := .long x) h'))
theorem r_lstore {i : Nat} {x : Int64} {F : Int64 → Option ρ} (d : decode Y.2.1 pc = .ok (.lstore i, 2)) (hn : i + 1 < Y.2.2.1) (hf : nm x F = some o) (k : ∀ x, F x = some o → Run Y V (pc + 2) (lst2 i (.long x) L) st h) : Run Y V pc L (.long x :: st) h :=
  fun g l p e R s m args below meth c cells slots Q hV C H locs ls hP hD hS hl => lv_lstore C.1 C.2.1 d hl hn rfl (fun ls' h' => k x hf g l p e R s m args below meth c cells slots Q hV C H locs ls' hP hD hS (Lv.put2 (v := .long x) h'))
theorem r_astore_n {n : Fin 4} {x : Nat} (d : decode Y.2.1 pc = .ok (.astore_n n, 1)) (hn : n.val < Y.2.2.1) (k : Run Y V (pc + 1) (lst n.val (.ref x) L) st h) : Run Y V pc L (.ref x :: st) h :=
  fun g l p e R s m args below meth c cells slots Q hV C H locs ls hP hD hS hl => lv_astore_n C.1 C.2.1 d rfl hl hn rfl (fun ls' h' => k g l p e R s m args below meth c cells slots Q hV C H locs ls' hP hD hS (Lv.put (v := .ref x) h'))
theorem r_iinc {i : Nat} {n : Int} {x v : Int32} {F : Int32 → Option ρ} (d : decode Y.2.1 pc = .ok (.iinc i n, 3)) (hi : L[i]? = some (some (.int x))) (hv : Int32.ofInt n = v) (hn : i < Y.2.2.1) (hf : nm (x + v) F = some o) (k : ∀ x, F x = some o → Run Y V (pc + 3) (lst i (.int x) L) st h) : Run Y V pc L st h := by
  intro g l p e R s m args below meth c cells slots Q hV C H locs ls hP hD hS hl
  have h1 := lvm_mem (A := g.2.2) L 0 i _ hi
  rw [Nat.zero_add] at h1
  obtain ⟨k9, hk9⟩ := List.getElem?_of_mem h1
  exact lv_iinc (v := x + v) C.1 C.2.1 d hl hk9 (by rw [hv]) hn rfl (fun ls' h' => k (x + v) hf g l p e R s m args below meth c cells slots Q hV C H locs ls' hP hD hS (Lv.put (v := .int (x + v)) h'))
theorem r_iadd {x y : Int32} (d : decode Y.2.1 pc = .ok (.iadd, 1)) (k : Run Y V (pc + 1) L (.int (x + y) :: st) h) : Run Y V pc L (.int y :: .int x :: st) h :=
  fun g l p e R s m args below meth c cells slots Q hV C H locs ls hP hD hS hl => lv_iadd C.1 C.2.1 d (k g l p e R s m args below meth c cells slots Q hV C H locs ls hP hD hS hl)
theorem r_isub {x y : Int32} (d : decode Y.2.1 pc = .ok (.isub, 1)) (k : Run Y V (pc + 1) L (.int (x - y) :: st) h) : Run Y V pc L (.int y :: .int x :: st) h :=
  fun g l p e R s m args below meth c cells slots Q hV C H locs ls hP hD hS hl => lv_isub C.1 C.2.1 d (k g l p e R s m args below meth c cells slots Q hV C H locs ls hP hD hS hl)
theorem r_imul {x y : Int32} (d : decode Y.2.1 pc = .ok (.imul, 1)) (k : Run Y V (pc + 1) L (.int (x * y) :: st) h) : Run Y V pc L (.int y :: .int x :: st) h :=
  fun g l p e R s m args below meth c cells slots Q hV C H locs ls hP hD hS hl => lv_imul C.1 C.2.1 d (k g l p e R s m args below meth c cells slots Q hV C H locs ls hP hD hS hl)
theorem r_iand {x y : Int32} (d : decode Y.2.1 pc = .ok (.iand, 1)) (k : Run Y V (pc + 1) L (.int (x &&& y) :: st) h) : Run Y V pc L (.int y :: .int x :: st) h :=
  fun g l p e R s m args below meth c cells slots Q hV C H locs ls hP hD hS hl => lv_iand C.1 C.2.1 d (k g l p e R s m args below meth c cells slots Q hV C H locs ls hP hD hS hl)
theorem r_ior {x y : Int32} (d : decode Y.2.1 pc = .ok (.ior, 1)) (k : Run Y V (pc + 1) L (.int (x ||| y) :: st) h) : Run Y V pc L (.int y :: .int x :: st) h :=
  fun g l p e R s m args below meth c cells slots Q hV C H locs ls hP hD hS hl => lv_ior C.1 C.2.1 d (k g l p e R s m args below meth c cells slots Q hV C H locs ls hP hD hS hl)
theorem r_ixor {x y : Int32} (d : decode Y.2.1 pc = .ok (.ixor, 1)) (k : Run Y V (pc + 1) L (.int (x ^^^ y) :: st) h) : Run Y V pc L (.int y :: .int x :: st) h :=
  fun g l p e R s m args below meth c cells slots Q hV C H locs ls hP hD hS hl => lv_ixor C.1 C.2.1 d (k g l p e R s m args below meth c cells slots Q hV C H locs ls hP hD hS hl)
theorem r_ishl {x y : Int32} (d : decode Y.2.1 pc = .ok (.ishl, 1)) (k : Run Y V (pc + 1) L (.int (x <<< (y &&& 31)) :: st) h) : Run Y V pc L (.int y :: .int x :: st) h :=
  fun g l p e R s m args below meth c cells slots Q hV C H locs ls hP hD hS hl => lv_ishl C.1 C.2.1 d (k g l p e R s m args below meth c cells slots Q hV C H locs ls hP hD hS hl)
theorem r_ishr {x y : Int32} (d : decode Y.2.1 pc = .ok (.ishr, 1)) (k : Run Y V (pc + 1) L (.int (x >>> (y &&& 31)) :: st) h) : Run Y V pc L (.int y :: .int x :: st) h :=
  fun g l p e R s m args below meth c cells slots Q hV C H locs ls hP hD hS hl => lv_ishr C.1 C.2.1 d (k g l p e R s m args below meth c cells slots Q hV C H locs ls hP hD hS hl)
theorem r_iushr {x y : Int32} (d : decode Y.2.1 pc = .ok (.iushr, 1)) (k : Run Y V (pc + 1) L (.int ((x.toUInt32 >>> (y.toUInt32 &&& Int32.toUInt32 31)).toInt32) :: st) h) : Run Y V pc L (.int y :: .int x :: st) h :=
  fun g l p e R s m args below meth c cells slots Q hV C H locs ls hP hD hS hl => lv_iushr C.1 C.2.1 d rfl (k g l p e R s m args below meth c cells slots Q hV C H locs ls hP hD hS hl)
theorem r_ineg {x : Int32} (d : decode Y.2.1 pc = .ok (.ineg, 1)) (k : Run Y V (pc + 1) L (.int (-x) :: st) h) : Run Y V pc L (.int x :: st) h :=
  fun g l p e R s m args below meth c cells slots Q hV C H locs ls hP hD hS hl => lv_ineg C.1 C.2.1 d (k g l p e R s m args below meth c cells slots Q hV C H locs ls hP hD hS hl)
theorem r_i2l {x : Int32} (d : decode Y.2.1 pc = .ok (.i2l, 1)) (k : Run Y V (pc + 1) L (.long x.toInt64 :: st) h) : Run Y V pc L (.int x :: st) h :=
  fun g l p e R s m args below meth c cells slots Q hV C H locs ls hP hD hS hl => lv_i2l C.1 C.2.1 d rfl (k g l p e R s m args below meth c cells slots Q hV C H locs ls hP hD hS hl)
theorem r_l2i {x : Int64} (d : decode Y.2.1 pc = .ok (.l2i, 1)) (k : Run Y V (pc + 1) L (.int x.toInt32 :: st) h) : Run Y V pc L (.long x :: st) h :=
  fun g l p e R s m args below meth c cells slots Q hV C H locs ls hP hD hS hl => lv_l2i C.1 C.2.1 d rfl (k g l p e R s m args below meth c cells slots Q hV C H locs ls hP hD hS hl)
theorem r_i2b {x : Int32} (d : decode Y.2.1 pc = .ok (.i2b, 1)) (k : Run Y V (pc + 1) L (.int x.toInt8.toInt32 :: st) h) : Run Y V pc L (.int x :: st) h :=
  fun g l p e R s m args below meth c cells slots Q hV C H locs ls hP hD hS hl => lv_i2b C.1 C.2.1 d rfl (k g l p e R s m args below meth c cells slots Q hV C H locs ls hP hD hS hl)
theorem r_ladd {x y : Int64} (d : decode Y.2.1 pc = .ok (.ladd, 1)) (k : Run Y V (pc + 1) L (.long (x + y) :: st) h) : Run Y V pc L (.long y :: .long x :: st) h :=
  fun g l p e R s m args below meth c cells slots Q hV C H locs ls hP hD hS hl => lv_ladd C.1 C.2.1 d (k g l p e R s m args below meth c cells slots Q hV C H locs ls hP hD hS hl)
theorem r_lmul {x y : Int64} (d : decode Y.2.1 pc = .ok (.lmul, 1)) (k : Run Y V (pc + 1) L (.long (x * y) :: st) h) : Run Y V pc L (.long y :: .long x :: st) h :=
  fun g l p e R s m args below meth c cells slots Q hV C H locs ls hP hD hS hl => lv_lmul C.1 C.2.1 d (k g l p e R s m args below meth c cells slots Q hV C H locs ls hP hD hS hl)
theorem r_lcmp {x y : Int64} (d : decode Y.2.1 pc = .ok (.lcmp, 1)) (k : Run Y V (pc + 1) L (.int (lg_cmp x y) :: st) h) : Run Y V pc L (.long y :: .long x :: st) h :=
  fun g l p e R s m args below meth c cells slots Q hV C H locs ls hP hD hS hl => W.lcmp C.1 C.2.1 d (k g l p e R s m args below meth c cells slots Q hV C H locs ls hP hD hS hl)
/-- division: by a divisor that isn't 0; else the machine throws -/
def dvI (x y : Int32) : Option Int32 := if y = 0 then none else some (x / y)
def rmI (x y : Int32) : Option Int32 := if y = 0 then none else some (x - x / y * y)
def dvL (x y : Int64) : Option Int64 := if y = 0 then none else some (x / y)
def rmL (x y : Int64) : Option Int64 := if y = 0 then none else some (x - x / y * y)
theorem r_idiv {x y : Int32} {F : Int32 → Option ρ} (d : decode Y.2.1 pc = .ok (.idiv, 1)) (hf : (dvI x y).bind F = some o) (k : ∀ z, F z = some o → Run Y V (pc + 1) L (.int z :: st) h) : Run Y V pc L (.int y :: .int x :: st) h := by
  by_cases hy : y = 0
  · rw [dvI, if_pos hy] at hf; cases hf
  · rw [dvI, if_neg hy] at hf
    exact fun g l p e R s m args below meth c cells slots Q hV C H locs ls hP hD hS hl => lv_idiv C.1 C.2.1 d hy (k (x / y) hf g l p e R s m args below meth c cells slots Q hV C H locs ls hP hD hS hl)
theorem r_irem {x y : Int32} {F : Int32 → Option ρ} (d : decode Y.2.1 pc = .ok (.irem, 1)) (hf : (rmI x y).bind F = some o) (k : ∀ z, F z = some o → Run Y V (pc + 1) L (.int z :: st) h) : Run Y V pc L (.int y :: .int x :: st) h := by
  by_cases hy : y = 0
  · rw [rmI, if_pos hy] at hf; cases hf
  · rw [rmI, if_neg hy] at hf
    exact fun g l p e R s m args below meth c cells slots Q hV C H locs ls hP hD hS hl => lv_irem C.1 C.2.1 d hy (k (x - x / y * y) hf g l p e R s m args below meth c cells slots Q hV C H locs ls hP hD hS hl)
theorem r_ldiv {x y : Int64} {F : Int64 → Option ρ} (d : decode Y.2.1 pc = .ok (.ldiv, 1)) (hf : (dvL x y).bind F = some o) (k : ∀ z, F z = some o → Run Y V (pc + 1) L (.long z :: st) h) : Run Y V pc L (.long y :: .long x :: st) h := by
  by_cases hy : y = 0
  · rw [dvL, if_pos hy] at hf; cases hf
  · rw [dvL, if_neg hy] at hf
    exact fun g l p e R s m args below meth c cells slots Q hV C H locs ls hP hD hS hl => lv_ldiv C.1 C.2.1 d hy (k (x / y) hf g l p e R s m args below meth c cells slots Q hV C H locs ls hP hD hS hl)
theorem r_lrem {x y : Int64} {F : Int64 → Option ρ} (d : decode Y.2.1 pc = .ok (.lrem, 1)) (hf : (rmL x y).bind F = some o) (k : ∀ z, F z = some o → Run Y V (pc + 1) L (.long z :: st) h) : Run Y V pc L (.long y :: .long x :: st) h := by
  by_cases hy : y = 0
  · rw [rmL, if_pos hy] at hf; cases hf
  · rw [rmL, if_neg hy] at hf
    exact fun g l p e R s m args below meth c cells slots Q hV C H locs ls hP hD hS hl => lv_lrem C.1 C.2.1 d hy (k (x - x / y * y) hf g l p e R s m args below meth c cells slots Q hV C H locs ls hP hD hS hl)
/-- divisors that are numbers of the text -/
theorem r_idivK {x y : Int32} (d : decode Y.2.1 pc = .ok (.idiv, 1)) (hy : ¬ y = 0) (k : Run Y V (pc + 1) L (.int (x / y) :: st) h) : Run Y V pc L (.int y :: .int x :: st) h :=
  fun g l p e R s m args below meth c cells slots Q hV C H locs ls hP hD hS hl => lv_idiv C.1 C.2.1 d hy (k g l p e R s m args below meth c cells slots Q hV C H locs ls hP hD hS hl)
abbrev rem32 (x y : Int32) : Int32 := x - x / y * y
abbrev rem64 (x y : Int64) : Int64 := x - x / y * y
theorem r_iremK {x y : Int32} (d : decode Y.2.1 pc = .ok (.irem, 1)) (hy : ¬ y = 0) (k : Run Y V (pc + 1) L (.int (rem32 x y) :: st) h) : Run Y V pc L (.int y :: .int x :: st) h :=
  fun g l p e R s m args below meth c cells slots Q hV C H locs ls hP hD hS hl => lv_irem C.1 C.2.1 d hy (k g l p e R s m args below meth c cells slots Q hV C H locs ls hP hD hS hl)
theorem r_ldivK {x y : Int64} (d : decode Y.2.1 pc = .ok (.ldiv, 1)) (hy : ¬ y = 0) (k : Run Y V (pc + 1) L (.long (x / y) :: st) h) : Run Y V pc L (.long y :: .long x :: st) h :=
  fun g l p e R s m args below meth c cells slots Q hV C H locs ls hP hD hS hl => lv_ldiv C.1 C.2.1 d hy (k g l p e R s m args below meth c cells slots Q hV C H locs ls hP hD hS hl)
theorem r_lremK {x y : Int64} (d : decode Y.2.1 pc = .ok (.lrem, 1)) (hy : ¬ y = 0) (k : Run Y V (pc + 1) L (.long (rem64 x y) :: st) h) : Run Y V pc L (.long y :: .long x :: st) h :=
  fun g l p e R s m args below meth c cells slots Q hV C H locs ls hP hD hS hl => lv_lrem C.1 C.2.1 d hy (k g l p e R s m args below meth c cells slots Q hV C H locs ls hP hD hS hl)
theorem r_dup {v : Value} (d : decode Y.2.1 pc = .ok (.dup, 1)) (hv : v.category = 1) (k : Run Y V (pc + 1) L (v :: v :: st) h) : Run Y V pc L (v :: st) h :=
  fun g l p e R s m args below meth c cells slots Q hV C H locs ls hP hD hS hl => lv_dup C.1 C.2.1 d (by rw [rv_cat]; exact hv) (k g l p e R s m args below meth c cells slots Q hV C H locs ls hP hD hS hl)
theorem r_dup2 {v w : Value} (d : decode Y.2.1 pc = .ok (.dup2, 1)) (hv : v.category = 1) (hw : w.category = 1) (k : Run Y V (pc + 1) L (v :: w :: v :: w :: st) h) : Run Y V pc L (v :: w :: st) h :=
  fun g l p e R s m args below meth c cells slots Q hV C H locs ls hP hD hS hl => lv_dup2_11 C.1 C.2.1 d (by rw [rv_cat]; exact hv) (by rw [rv_cat]; exact hw) (k g l p e R s m args below meth c cells slots Q hV C H locs ls hP hD hS hl)
theorem r_pop {v : Value} (d : decode Y.2.1 pc = .ok (.pop, 1)) (hv : v.category = 1) (k : Run Y V (pc + 1) L st h) : Run Y V pc L (v :: st) h :=
  fun g l p e R s m args below meth c cells slots Q hV C H locs ls hP hD hS hl => lv_pop C.1 C.2.1 d (by rw [rv_cat]; exact hv) (k g l p e R s m args below meth c cells slots Q hV C H locs ls hP hD hS hl)
theorem r_goto {off : Int} (tgt : Nat) (d : decode Y.2.1 pc = .ok (.goto off, 3)) (ht : (pc : Int) + off = (tgt : Int)) (k : Run Y V tgt L st h) : Run Y V pc L st h :=
  fun g l p e R s m args below meth c cells slots Q hV C H locs ls hP hD hS hl => lv_goto C.1 C.2.1 d ht (k g l p e R s m args below meth c cells slots Q hV C H locs ls hP hD hS hl)
/-- locals are forgotten -/
theorem r_less {L' : List (Option Value)} (hl : ∀ (i : Nat) (v : Value), L'[i]? = some (some v) → L[i]? = some (some v)) (k : Run Y V pc L' st h) : Run Y V pc L st h :=
  fun g l p e R s m args below meth c cells slots Q hV C H locs ls hP hD hS h1 => k g l p e R s m args below meth c cells slots Q hV C H locs ls hP hD hS (h1.less hl)
end CORE
section BRANCH
variable {Y : Yd} {V : Vt} {pc : Nat} {L : List (Option Value)} {st : List Value} {h : Hp} {ρ : Type} {o : ρ}
theorem r_if_eq {x : Int32} {off : Int} (tgt : Nat) {P N : Option ρ} (d : decode Y.2.1 pc = .ok (.ifCond .eq off, 3)) (ht : (pc : Int) + off = (tgt : Int)) (hf : (if x = 0 then P else N) = some o) (kt : x = 0 → P = some o → Run Y V tgt L st h) (kf : ¬ x = 0 → N = some o → Run Y V (pc + 3) L st h) : Run Y V pc L (.int x :: st) h :=
  fun g l p e R s m args below meth c cells slots Q hV C H locs ls hP hD hS hl => lv_if_eq C.1 C.2.1 d ht (fun q => kt q (by rw [if_pos q] at hf; exact hf) g l p e R s m args below meth c cells slots Q hV C H locs ls hP hD hS hl) (fun q => kf q (by rw [if_neg q] at hf; exact hf) g l p e R s m args below meth c cells slots Q hV C H locs ls hP hD hS hl)
theorem r_icmp_eq {x y : Int32} {off : Int} (tgt : Nat) {P N : Option ρ} (d : decode Y.2.1 pc = .ok (.if_icmp .eq off, 3)) (ht : (pc : Int) + off = (tgt : Int)) (hf : (if x = y then P else N) = some o) (kt : x = y → P = some o → Run Y V tgt L st h) (kf : ¬ x = y → N = some o → Run Y V (pc + 3) L st h) : Run Y V pc L (.int y :: .int x :: st) h :=
  fun g l p e R s m args below meth c cells slots Q hV C H locs ls hP hD hS hl => lv_icmp_eq C.1 C.2.1 d ht (fun q => kt q (by rw [if_pos q] at hf; exact hf) g l p e R s m args below meth c cells slots Q hV C H locs ls hP hD hS hl) (fun q => kf q (by rw [if_neg q] at hf; exact hf) g l p e R s m args below meth c cells slots Q hV C H locs ls hP hD hS hl)
theorem r_if_ne {x : Int32} {off : Int} (tgt : Nat) {P N : Option ρ} (d : decode Y.2.1 pc = .ok (.ifCond .ne off, 3)) (ht : (pc : Int) + off = (tgt : Int)) (hf : (if x = 0 then P else N) = some o) (kt : ¬ x = 0 → N = some o → Run Y V tgt L st h) (kf : x = 0 → P = some o → Run Y V (pc + 3) L st h) : Run Y V pc L (.int x :: st) h :=
  fun g l p e R s m args below meth c cells slots Q hV C H locs ls hP hD hS hl => lv_if_ne C.1 C.2.1 d ht (fun q => kt q (by rw [if_neg q] at hf; exact hf) g l p e R s m args below meth c cells slots Q hV C H locs ls hP hD hS hl) (fun q => kf q (by rw [if_pos q] at hf; exact hf) g l p e R s m args below meth c cells slots Q hV C H locs ls hP hD hS hl)
theorem r_icmp_ne {x y : Int32} {off : Int} (tgt : Nat) {P N : Option ρ} (d : decode Y.2.1 pc = .ok (.if_icmp .ne off, 3)) (ht : (pc : Int) + off = (tgt : Int)) (hf : (if x = y then P else N) = some o) (kt : ¬ x = y → N = some o → Run Y V tgt L st h) (kf : x = y → P = some o → Run Y V (pc + 3) L st h) : Run Y V pc L (.int y :: .int x :: st) h :=
  fun g l p e R s m args below meth c cells slots Q hV C H locs ls hP hD hS hl => lv_icmp_ne C.1 C.2.1 d ht (fun q => kt q (by rw [if_neg q] at hf; exact hf) g l p e R s m args below meth c cells slots Q hV C H locs ls hP hD hS hl) (fun q => kf q (by rw [if_pos q] at hf; exact hf) g l p e R s m args below meth c cells slots Q hV C H locs ls hP hD hS hl)
theorem r_if_lt {x : Int32} {off : Int} (tgt : Nat) {P N : Option ρ} (d : decode Y.2.1 pc = .ok (.ifCond .lt off, 3)) (ht : (pc : Int) + off = (tgt : Int)) (hf : (if x < 0 then P else N) = some o) (kt : x < 0 → P = some o → Run Y V tgt L st h) (kf : ¬ x < 0 → N = some o → Run Y V (pc + 3) L st h) : Run Y V pc L (.int x :: st) h :=
  fun g l p e R s m args below meth c cells slots Q hV C H locs ls hP hD hS hl => lv_if_lt C.1 C.2.1 d ht (fun q => kt q (by rw [if_pos q] at hf; exact hf) g l p e R s m args below meth c cells slots Q hV C H locs ls hP hD hS hl) (fun q => kf q (by rw [if_neg q] at hf; exact hf) g l p e R s m args below meth c cells slots Q hV C H locs ls hP hD hS hl)
theorem r_icmp_lt {x y : Int32} {off : Int} (tgt : Nat) {P N : Option ρ} (d : decode Y.2.1 pc = .ok (.if_icmp .lt off, 3)) (ht : (pc : Int) + off = (tgt : Int)) (hf : (if x < y then P else N) = some o) (kt : x < y → P = some o → Run Y V tgt L st h) (kf : ¬ x < y → N = some o → Run Y V (pc + 3) L st h) : Run Y V pc L (.int y :: .int x :: st) h :=
  fun g l p e R s m args below meth c cells slots Q hV C H locs ls hP hD hS hl => lv_icmp_lt C.1 C.2.1 d ht (fun q => kt q (by rw [if_pos q] at hf; exact hf) g l p e R s m args below meth c cells slots Q hV C H locs ls hP hD hS hl) (fun q => kf q (by rw [if_neg q] at hf; exact hf) g l p e R s m args below meth c cells slots Q hV C H locs ls hP hD hS hl)
theorem r_if_ge {x : Int32} {off : Int} (tgt : Nat) {P N : Option ρ} (d : decode Y.2.1 pc = .ok (.ifCond .ge off, 3)) (ht : (pc : Int) + off = (tgt : Int)) (hf : (if 0 ≤ x then P else N) = some o) (kt : 0 ≤ x → P = some o → Run Y V tgt L st h) (kf : ¬ 0 ≤ x → N = some o → Run Y V (pc + 3) L st h) : Run Y V pc L (.int x :: st) h :=
  fun g l p e R s m args below meth c cells slots Q hV C H locs ls hP hD hS hl => lv_if_ge C.1 C.2.1 d ht (fun q => kt q (by rw [if_pos q] at hf; exact hf) g l p e R s m args below meth c cells slots Q hV C H locs ls hP hD hS hl) (fun q => kf q (by rw [if_neg q] at hf; exact hf) g l p e R s m args below meth c cells slots Q hV C H locs ls hP hD hS hl)
theorem r_icmp_ge {x y : Int32} {off : Int} (tgt : Nat) {P N : Option ρ} (d : decode Y.2.1 pc = .ok (.if_icmp .ge off, 3)) (ht : (pc : Int) + off = (tgt : Int)) (hf : (if y ≤ x then P else N) = some o) (kt : y ≤ x → P = some o → Run Y V tgt L st h) (kf : ¬ y ≤ x → N = some o → Run Y V (pc + 3) L st h) : Run Y V pc L (.int y :: .int x :: st) h :=
  fun g l p e R s m args below meth c cells slots Q hV C H locs ls hP hD hS hl => lv_icmp_ge C.1 C.2.1 d ht (fun q => kt q (by rw [if_pos q] at hf; exact hf) g l p e R s m args below meth c cells slots Q hV C H locs ls hP hD hS hl) (fun q => kf q (by rw [if_neg q] at hf; exact hf) g l p e R s m args below meth c cells slots Q hV C H locs ls hP hD hS hl)
theorem r_if_gt {x : Int32} {off : Int} (tgt : Nat) {P N : Option ρ} (d : decode Y.2.1 pc = .ok (.ifCond .gt off, 3)) (ht : (pc : Int) + off = (tgt : Int)) (hf : (if 0 < x then P else N) = some o) (kt : 0 < x → P = some o → Run Y V tgt L st h) (kf : ¬ 0 < x → N = some o → Run Y V (pc + 3) L st h) : Run Y V pc L (.int x :: st) h :=
  fun g l p e R s m args below meth c cells slots Q hV C H locs ls hP hD hS hl => lv_if_gt C.1 C.2.1 d ht (fun q => kt q (by rw [if_pos q] at hf; exact hf) g l p e R s m args below meth c cells slots Q hV C H locs ls hP hD hS hl) (fun q => kf q (by rw [if_neg q] at hf; exact hf) g l p e R s m args below meth c cells slots Q hV C H locs ls hP hD hS hl)
theorem r_icmp_gt {x y : Int32} {off : Int} (tgt : Nat) {P N : Option ρ} (d : decode Y.2.1 pc = .ok (.if_icmp .gt off, 3)) (ht : (pc : Int) + off = (tgt : Int)) (hf : (if y < x then P else N) = some o) (kt : y < x → P = some o → Run Y V tgt L st h) (kf : ¬ y < x → N = some o → Run Y V (pc + 3) L st h) : Run Y V pc L (.int y :: .int x :: st) h :=
  fun g l p e R s m args below meth c cells slots Q hV C H locs ls hP hD hS hl => lv_icmp_gt C.1 C.2.1 d ht (fun q => kt q (by rw [if_pos q] at hf; exact hf) g l p e R s m args below meth c cells slots Q hV C H locs ls hP hD hS hl) (fun q => kf q (by rw [if_neg q] at hf; exact hf) g l p e R s m args below meth c cells slots Q hV C H locs ls hP hD hS hl)
theorem r_if_le {x : Int32} {off : Int} (tgt : Nat) {P N : Option ρ} (d : decode Y.2.1 pc = .ok (.ifCond .le off, 3)) (ht : (pc : Int) + off = (tgt : Int)) (hf : (if x ≤ 0 then P else N) = some o) (kt : x ≤ 0 → P = some o → Run Y V tgt L st h) (kf : ¬ x ≤ 0 → N = some o → Run Y V (pc + 3) L st h) : Run Y V pc L (.int x :: st) h :=
  fun g l p e R s m args below meth c cells slots Q hV C H locs ls hP hD hS hl => lv_if_le C.1 C.2.1 d ht (fun q => kt q (by rw [if_pos q] at hf; exact hf) g l p e R s m args below meth c cells slots Q hV C H locs ls hP hD hS hl) (fun q => kf q (by rw [if_neg q] at hf; exact hf) g l p e R s m args below meth c cells slots Q hV C H locs ls hP hD hS hl)
theorem r_icmp_le {x y : Int32} {off : Int} (tgt : Nat) {P N : Option ρ} (d : decode Y.2.1 pc = .ok (.if_icmp .le off, 3)) (ht : (pc : Int) + off = (tgt : Int)) (hf : (if x ≤ y then P else N) = some o) (kt : x ≤ y → P = some o → Run Y V tgt L st h) (kf : ¬ x ≤ y → N = some o → Run Y V (pc + 3) L st h) : Run Y V pc L (.int y :: .int x :: st) h :=
  fun g l p e R s m args below meth c cells slots Q hV C H locs ls hP hD hS hl => lv_icmp_le C.1 C.2.1 d ht (fun q => kt q (by rw [if_pos q] at hf; exact hf) g l p e R s m args below meth c cells slots Q hV C H locs ls hP hD hS hl) (fun q => kf q (by rw [if_neg q] at hf; exact hf) g l p e R s m args below meth c cells slots Q hV C H locs ls hP hD hS hl)
end BRANCH
/-! fields -/
/-- what is known of a field's entry: class ci, place k, of type ty -/
def FT (own : String) (idx ci k : Nat) (ty : FieldType) : Prop := ∃ (C : String) (T : u_T) (N : Nat) (ty0 : Nat → FieldType), vwCl[ci]? = some (C, T, N) ∧ k < N ∧ (Cond.fieldLink own idx C (T k).2.1 (T k).2.2.1 ∈ gt) ∧ (∀ w ∈ u_ws C T N, w ∈ gt) ∧ (T k).1 = C ∧ (∀ j, j < N → parseFieldDescriptor (T j).2.2.1 = some (ty0 j)) ∧ (∀ a, a < N → ∀ b, b < N → a ≠ b → (T a).2.1 ≠ (T b).2.1) ∧ (fk ci k ≠ 1 → (T k).2.2.2 = false) ∧ ty0 k = ty
/-- the values that a boolean place takes -/
def ckZ (v : Int32) : Option Int32 := if v = 0 ∨ v = 1 then some v else none
theorem ckZ_nar {v : Int32} (h : v = 0 ∨ v = 1) : narrow .boolean (.int v) = .int v ∧ fits .boolean (.int v) = true := by
  rcases h with rfl | rfl <;> exact ⟨by decide +kernel, by decide +kernel⟩
theorem sh_N {a ci n : Nat} (hs : sh a = (0, ci, n)) : (∃ (C : String) (T : u_T), vwCl[ci]? = some (C, T, n)) := by
  have ha : a < NN := sh_l hs (by decide)
  have key : ∀ a, a < NN → (sh a).1 = 0 → ((vwCl[(sh a).2.1]?).map (fun q => q.2.2)) = some (sh a).2.2 := by decide +kernel
  have h1 := key a ha (by rw [hs])
  rw [hs] at h1
  cases h2 : vwCl[ci]? with
  | none => rw [h2] at h1; cases h1
  | some q =>
    rw [h2] at h1
    obtain ⟨C, T, N⟩ := q
    have : N = n := by simpa using h1
    subst this
    exact ⟨C, T, rfl⟩
/-- a reference that changes: of the kind E, or the walk has no end -/
def gO (h : Hp) (a k : Nat) (E : Nat × Nat × Nat) : Option Nat := match gR h a k with
  | none => none
  | some b => if sh b = E then some b else none
section FIELDS
variable {Y : Yd} {V : Vt} {pc : Nat} {L : List (Option Value)} {st : List Value} {h : Hp} {ρ : Type} {o : ρ}
theorem r_get {a ci n k idx : Nat} (d : decode Y.2.1 pc = .ok (.getfield idx, 3)) (hs : sh a = (0, ci, n)) {ty : FieldType} (ft : FT Y.1.cls idx ci k ty) {v : Value} (hv : ∀ A : Nat → Nat, fv A h ci a k = rv A v) (kk : Run Y V (pc + 3) L (v :: st) h) : Run Y V pc L (.ref a :: st) h := by
  intro g l p e R s m args below meth c cells slots Q hV C H locs ls hP hD hS hl
  obtain ⟨C1, T, N, ty0, hc, hk, hlink, hin, hdecl, -⟩ := ft
  obtain ⟨C2, T2, h2⟩ := sh_N hs
  have e0 := Option.some.inj (hc.symm.trans h2)
  have hN : N = n := congrArg (fun q : vw_C => q.2.2) e0
  subst hN
  refine va_get (D := g.1) (ci := ci) (v := rv g.2.2 v) (C := C1) (T := T) (N := N) (ref := C1) C.1 C.2.1 C.2.2.2.2.2.2.1 hin C.2.2.2.2.2.1 C.2.2.2.2.2.2.2.1 hP a (fs := (List.range N).map (fv g.2.2 h ci a)) ?_ hc k hk (C.2.2.2.2.2.2.1 _ hlink) (fun x hx => by rw [hdecl] at hx; exact hx) ?_ d (kk g l p e R s m args below meth c cells slots Q hV C H locs ls hP hD hS hl)
  · rw [wl_at g h (sh_l hs (by decide)), ce_obj hs]
  · rw [fv_at hk, hv]
theorem r_getI {a ci n k idx : Nat} (d : decode Y.2.1 pc = .ok (.getfield idx, 3)) (hs : sh a = (0, ci, n)) {ty : FieldType} (ft : FT Y.1.cls idx ci k ty) (hk : fk ci k = 0) (kk : Run Y V (pc + 3) L (.int (gI h a k) :: st) h) : Run Y V pc L (.ref a :: st) h :=
  r_get d hs ft (fun A => by unfold fv; rw [hk]; rfl) kk
theorem r_getS {a ci n k idx b : Nat} (d : decode Y.2.1 pc = .ok (.getfield idx, 3)) (hs : sh a = (0, ci, n)) {ty : FieldType} (ft : FT Y.1.cls idx ci k ty) (hk : fk ci k = 1) (hb : rf a k = b) (kk : Run Y V (pc + 3) L (.ref b :: st) h) : Run Y V pc L (.ref a :: st) h :=
  r_get d hs ft (fun A => by unfold fv; rw [hk, hb]; rfl) kk
theorem r_getL {a ci n k idx : Nat} (d : decode Y.2.1 pc = .ok (.getfield idx, 3)) (hs : sh a = (0, ci, n)) {ty : FieldType} (ft : FT Y.1.cls idx ci k ty) (hk : fk ci k = 3) (kk : Run Y V (pc + 3) L (.long (gL h a k) :: st) h) : Run Y V pc L (.ref a :: st) h :=
  r_get d hs ft (fun A => by unfold fv; rw [hk]; rfl) kk
theorem r_getR {a ci n k idx : Nat} {E : Nat × Nat × Nat} {F : Nat → Option ρ} (d : decode Y.2.1 pc = .ok (.getfield idx, 3)) (hs : sh a = (0, ci, n)) {ty : FieldType} (ft : FT Y.1.cls idx ci k ty) (hk : fk ci k = 2) (hf : (gO h a k E).bind F = some o) (kk : ∀ b, sh b = E → F b = some o → Run Y V (pc + 3) L (.ref b :: st) h) : Run Y V pc L (.ref a :: st) h := by
  unfold gO at hf
  cases hr : gR h a k with
  | none => rw [hr] at hf; cases hf
  | some b =>
    rw [hr] at hf
    dsimp only at hf
    by_cases q : sh b = E
    · rw [if_pos q] at hf
      exact r_get d hs ft (fun A => by unfold fv; rw [hk, hr]; rfl) (kk b q hf)
    · rw [if_neg q] at hf; cases hf
/-- a field is written -/
theorem r_put {a ci n k idx : Nat} {h' : Hp} {v : Value} (d : decode Y.2.1 pc = .ok (.putfield idx, 3)) (hs : sh a = (0, ci, n)) {ty : FieldType} (ft : FT Y.1.cls idx ci k ty) (hk1 : fk ci k ≠ 1) (hv : ∀ A : Nat → Nat, fv A h' ci a k = rv A v) (ho : ∀ (A : Nat → Nat) (j : Nat), j ≠ k → fv A h' ci a j = fv A h ci a j) (hc' : ∀ (g : Gp) (b : Nat), b ≠ a → ce g h' b = ce g h b)
    (hn : ∀ (A : Nat → Nat), narrow ty (rv A v) = rv A v ∧ fits ty (rv A v) = true) (kk : Run Y V (pc + 3) L st h') : Run Y V pc L (v :: .ref a :: st) h := by
  intro g l p e R s m args below meth c cells slots Q hV C H locs ls hP hD hS hl
  obtain ⟨C1, T, N, ty0, hc, hk, hlink, hin, hdecl, hty, hnm, hfin, rfl⟩ := ft
  obtain ⟨C2, T2, h2⟩ := sh_N hs
  have e0 := Option.some.inj (hc.symm.trans h2)
  have hN : N = n := congrArg (fun q : vw_C => q.2.2) e0
  subst hN
  have ha : a < NN := sh_l hs (by decide)
  obtain ⟨n1, n2⟩ := hn g.2.2
  refine va_put (D := g.1) (ci := ci) (v := rv g.2.2 v) (ty := ty0 k) (C := C1) (T := T) (N := N) (ref := C1) C.1 C.2.1 C.2.2.2.2.2.2.1 hin ty0 hty hnm C.2.2.2.2.2.1 C.2.2.2.2.2.2.2.1 hP hD hS a (fs := (List.range N).map (fv g.2.2 h ci a)) ?_ hc k hk (C.2.2.2.2.2.2.1 _ hlink) (fun x hx => by rw [hdecl] at hx; exact hx) (hfin hk1) (hty k hk) n1 n2 (by simp; exact hk) d (fun H1 locs1 hP1 hD1 hS1 => ?_)
  · rw [wl_at g h ha, ce_obj hs]
  · rw [fv_set hk (hv g.2.2) (ho g.2.2), wl_set g ha (ce_obj hs) (fun b hb => hc' g b hb)] at hP1 hD1
    exact kk g l p e R s m args below meth c cells slots Q hV C H1 locs1 ls hP1 hD1 hS1 hl
theorem ce_sI {g : Gp} {a k : Nat} {v : Int32} {b : Nat} (hb : b ≠ a) : ce g (sI h a k v) b = ce g h b := ce_eq (fun j => by rw [gI_sI, if_neg (fun q => hb q.1)]) (fun j => rfl) (fun j => rfl)
theorem ce_sR {g : Gp} {a k : Nat} {v : Option Nat} {b : Nat} (hb : b ≠ a) : ce g (sR h a k v) b = ce g h b := ce_eq (fun j => rfl) (fun j => by rw [gR_sR, if_neg (fun q => hb q.1)]) (fun j => rfl)
theorem ce_sL {g : Gp} {a k : Nat} {v : Int64} {b : Nat} (hb : b ≠ a) : ce g (sL h a k v) b = ce g h b := ce_eq (fun j => rfl) (fun j => rfl) (fun j => by rw [gL_sL, if_neg (fun q => hb q.1)])
theorem ce_sA {g : Gp} {a : Nat} {f : Nat → Int32} {b : Nat} (hb : b ≠ a) : ce g (sA h a f) b = ce g h b := ce_eq (fun j => by rw [gI_sA, if_neg hb]) (fun j => rfl) (fun j => rfl)
theorem fv_sI {A : Nat → Nat} {ci a k j : Nat} {v : Int32} (hj : j ≠ k) : fv A (sI h a k v) ci a j = fv A h ci a j := by
  unfold fv
  rw [gI_sI, if_neg (fun q => hj q.2), gR_sI, gL_sI]
theorem fv_sR {A : Nat → Nat} {ci a k j : Nat} {v : Option Nat} (hj : j ≠ k) : fv A (sR h a k v) ci a j = fv A h ci a j := by
  unfold fv
  rw [gR_sR, if_neg (fun q => hj q.2), gI_sR, gL_sR]
theorem fv_sL {A : Nat → Nat} {ci a k j : Nat} {v : Int64} (hj : j ≠ k) : fv A (sL h a k v) ci a j = fv A h ci a j := by
  unfold fv
  rw [gL_sL, if_neg (fun q => hj q.2), gI_sL, gR_sL]
/-- a number's field, a truth's, a long's, a reference's -/
theorem r_putI {a ci n k idx : Nat} {v : Int32} {F : Hp → Option ρ} (d : decode Y.2.1 pc = .ok (.putfield idx, 3)) (hs : sh a = (0, ci, n)) (ft : FT Y.1.cls idx ci k .int) (hk : fk ci k = 0) (hf : nm (sI h a k v) F = some o) (kk : ∀ h', F h' = some o → Run Y V (pc + 3) L st h') : Run Y V pc L (.int v :: .ref a :: st) h :=
  r_put d hs ft (by rw [hk]; decide) (fun A => by unfold fv; rw [hk]; simp [gI_sI, rv]) (fun A j hj => fv_sI hj) (fun g b hb => ce_sI hb) (fun A => ⟨rfl, rfl⟩) (kk _ hf)
theorem r_putZ {a ci n k idx : Nat} {v : Int32} {F : Hp → Option ρ} (d : decode Y.2.1 pc = .ok (.putfield idx, 3)) (hs : sh a = (0, ci, n)) (ft : FT Y.1.cls idx ci k .boolean) (hk : fk ci k = 0) (hf : ((ckZ v).bind fun w => nm (sI h a k w) F) = some o) (kk : ∀ h', F h' = some o → Run Y V (pc + 3) L st h') : Run Y V pc L (.int v :: .ref a :: st) h := by
  by_cases hv : v = 0 ∨ v = 1
  · rw [ckZ, if_pos hv] at hf
    exact r_put d hs ft (by rw [hk]; decide) (fun A => by unfold fv; rw [hk]; simp [gI_sI, rv]) (fun A j hj => fv_sI hj) (fun g b hb => ce_sI hb) (fun A => ckZ_nar hv) (kk _ hf)
  · rw [ckZ, if_neg hv] at hf
    cases hf
theorem r_putL {a ci n k idx : Nat} {v : Int64} {F : Hp → Option ρ} (d : decode Y.2.1 pc = .ok (.putfield idx, 3)) (hs : sh a = (0, ci, n)) (ft : FT Y.1.cls idx ci k .long) (hk : fk ci k = 3) (hf : nm (sL h a k v) F = some o) (kk : ∀ h', F h' = some o → Run Y V (pc + 3) L st h') : Run Y V pc L (.long v :: .ref a :: st) h :=
  r_put d hs ft (by rw [hk]; decide) (fun A => by unfold fv; rw [hk]; simp [gL_sL, rv]) (fun A j hj => fv_sL hj) (fun g b hb => ce_sL hb) (fun A => ⟨rfl, rfl⟩) (kk _ hf)
theorem r_putR {a ci n k idx b : Nat} {nn : String} {F : Hp → Option ρ} (d : decode Y.2.1 pc = .ok (.putfield idx, 3)) (hs : sh a = (0, ci, n)) (ft : FT Y.1.cls idx ci k (.object nn)) (hk : fk ci k = 2) (hf : nm (sR h a k (some b)) F = some o) (kk : ∀ h', F h' = some o → Run Y V (pc + 3) L st h') : Run Y V pc L (.ref b :: .ref a :: st) h :=
  r_put d hs ft (by rw [hk]; decide) (fun A => by unfold fv; rw [hk]; simp [gR_sR, rv, va_rf]) (fun A j hj => fv_sR hj) (fun g b hb => ce_sR hb) (fun A => ⟨rfl, rfl⟩) (kk _ hf)
end FIELDS
/-! arrays -/
def inb (n : Nat) (i : Int32) : Prop := 0 ≤ i.toInt ∧ i.toInt < n
theorem inb_vp {n : Nat} {i : Int32} (h : inb n i) : vp_in i n := vp_in_iff.mpr h
def ldI (h : Hp) (a : Nat) (i : Int32) : Option Int32 := if 0 ≤ i.toInt ∧ i.toInt < (sh a).2.2 then some (gI h a i.toNatClampNeg) else none
def stI (h : Hp) (a : Nat) (i v : Int32) : Option Hp := if 0 ≤ i.toInt ∧ i.toInt < (sh a).2.2 then some (sI h a i.toNatClampNeg v) else none
def ldR (a : Nat) (i : Int32) : Option Nat := if 0 ≤ i.toInt ∧ i.toInt < (sh a).2.2 then some (rf a i.toNatClampNeg) else none
def ldT (j : Nat) (i : Int32) : Option Int32 := if 0 ≤ i.toInt ∧ i.toInt < stn j then some (stv j i.toNatClampNeg) else none
def cpI (h : Hp) (a : Nat) (sp : Int32) (b : Nat) (dp n : Int32) : Option Hp := if 0 ≤ sp.toInt ∧ 0 ≤ dp.toInt ∧ 0 ≤ n.toInt ∧ sp.toInt + n.toInt ≤ (sh a).2.2 ∧ dp.toInt + n.toInt ≤ (sh b).2.2 then some (sA h b (va_cpy (gI h a) (gI h b) sp.toNatClampNeg dp.toNatClampNeg n.toNatClampNeg)) else none
theorem tys_at (g : Gp) : ∀ t, t < 5 → ∃ ty, (tysL g)[t]? = some (g.2.1 t, ty) := by
  intro t ht
  match t, ht with
  | 0, _ => exact ⟨_, rfl⟩
  | 1, _ => exact ⟨_, rfl⟩
  | 2, _ => exact ⟨_, rfl⟩
  | 3, _ => exact ⟨_, rfl⟩
  | 4, _ => exact ⟨_, rfl⟩
section ARRAYS
variable {Y : Yd} {V : Vt} {pc : Nat} {L : List (Option Value)} {st : List Value} {h : Hp} {ρ : Type} {o : ρ}
theorem ld_some {c : Prop} [Decidable c] {α : Type} {x : α} {F : α → Option ρ} (hf : (if c then some x else none).bind F = some o) : c ∧ F x = some o := by
  by_cases q : c
  · rw [if_pos q] at hf; exact ⟨q, hf⟩
  · rw [if_neg q] at hf; cases hf
theorem r_iald {a n : Nat} {i : Int32} {F : Int32 → Option ρ} (d : decode Y.2.1 pc = .ok (.iaload, 1)) (hs : sh a = (1, 0, n)) (hf : (ldI h a i).bind F = some o) (kk : ∀ v, F v = some o → Run Y V (pc + 1) L (.int v :: st) h) : Run Y V pc L (.int i :: .ref a :: st) h := by
  obtain ⟨hb, hf⟩ := ld_some hf
  rw [hs] at hb
  exact fun g l p e R s m args below meth c cells slots Q hV C H locs ls hP hD hS hl => va_iald C.1 C.2.1 C.2.2.2.2.2.2.2.1 hP a 0 (by rw [wl_at g h (sh_l hs (by decide)), ce_arr hs]) rfl (inb_vp hb) d (kk _ hf g l p e R s m args below meth c cells slots Q hV C H locs ls hP hD hS hl)
theorem r_bald {a n : Nat} {i : Int32} {F : Int32 → Option ρ} (d : decode Y.2.1 pc = .ok (.baload, 1)) (hs : sh a = (1, 1, n)) (hf : (ldI h a i).bind F = some o) (kk : ∀ v, F v = some o → Run Y V (pc + 1) L (.int v :: st) h) : Run Y V pc L (.int i :: .ref a :: st) h := by
  obtain ⟨hb, hf⟩ := ld_some hf
  rw [hs] at hb
  exact fun g l p e R s m args below meth c cells slots Q hV C H locs ls hP hD hS hl => va_bald C.1 C.2.1 C.2.2.2.2.2.2.2.1 hP a 1 (by rw [wl_at g h (sh_l hs (by decide)), ce_arr hs]) rfl (inb_vp hb) d (kk _ hf g l p e R s m args below meth c cells slots Q hV C H locs ls hP hD hS hl)
theorem r_zald {a n : Nat} {i : Int32} {F : Int32 → Option ρ} (d : decode Y.2.1 pc = .ok (.baload, 1)) (hs : sh a = (1, 2, n)) (hf : (ldI h a i).bind F = some o) (kk : ∀ v, F v = some o → Run Y V (pc + 1) L (.int v :: st) h) : Run Y V pc L (.int i :: .ref a :: st) h := by
  obtain ⟨hb, hf⟩ := ld_some hf
  rw [hs] at hb
  exact fun g l p e R s m args below meth c cells slots Q hV C H locs ls hP hD hS hl => va_zald C.1 C.2.1 C.2.2.2.2.2.2.2.1 hP a 2 (by rw [wl_at g h (sh_l hs (by decide)), ce_arr hs]) rfl (inb_vp hb) d (kk _ hf g l p e R s m args below meth c cells slots Q hV C H locs ls hP hD hS hl)
theorem upd_gI {a k : Nat} {v : Int32} : upd (gI h a) k v = gI (sI h a k v) a := by
  funext j
  rw [gI_sI]
  by_cases q : j = k
  · subst q; simp [upd]
  · simp [upd, q]
theorem wl_ast {g : Gp} {a t n k : Nat} {v : Int32} (hs : sh a = (1, t, n)) : (wl g h).set a (g.2.2 a, .inl (g.2.1 t, n, .inl (upd (gI h a) k v))) = wl g (sI h a k v) := by
  refine wl_set g (sh_l hs (by decide)) ?_ (fun b hb => ce_sI hb)
  rw [ce_arr hs, upd_gI]
theorem r_iast {a n : Nat} {i v : Int32} {F : Hp → Option ρ} (d : decode Y.2.1 pc = .ok (.iastore, 1)) (hs : sh a = (1, 0, n)) (hf : (stI h a i v).bind F = some o) (kk : ∀ h', F h' = some o → Run Y V (pc + 1) L st h') : Run Y V pc L (.int v :: .int i :: .ref a :: st) h := by
  obtain ⟨hb, hf⟩ := ld_some hf
  rw [hs] at hb
  exact fun g l p e R s m args below meth c cells slots Q hV C H locs ls hP hD hS hl => va_iast C.1 C.2.1 C.2.2.2.2.2.2.2.1 hP hD hS a 0 (by rw [wl_at g h (sh_l hs (by decide)), ce_arr hs]) rfl (inb_vp hb) d (fun H1 locs1 hP1 hD1 hS1 => kk _ hf g l p e R s m args below meth c cells slots Q hV C H1 locs1 ls (by rw [wl_ast hs] at hP1; exact hP1) (by rw [wl_ast hs] at hD1; exact hD1) hS1 hl)
theorem r_bast {a n : Nat} {i v : Int32} {F : Hp → Option ρ} (d : decode Y.2.1 pc = .ok (.bastore, 1)) (hs : sh a = (1, 1, n)) (hf : (stI h a i (vp_nar .byte v)).bind F = some o) (kk : ∀ h', F h' = some o → Run Y V (pc + 1) L st h') : Run Y V pc L (.int v :: .int i :: .ref a :: st) h := by
  obtain ⟨hb, hf⟩ := ld_some hf
  rw [hs] at hb
  exact fun g l p e R s m args below meth c cells slots Q hV C H locs ls hP hD hS hl => va_bast C.1 C.2.1 C.2.2.2.2.2.2.2.1 hP hD hS a 1 (by rw [wl_at g h (sh_l hs (by decide)), ce_arr hs]) rfl (inb_vp hb) d (fun H1 locs1 hP1 hD1 hS1 => kk _ hf g l p e R s m args below meth c cells slots Q hV C H1 locs1 ls (by rw [wl_ast hs] at hP1; exact hP1) (by rw [wl_ast hs] at hD1; exact hD1) hS1 hl)
theorem r_zast {a n : Nat} {i v : Int32} {F : Hp → Option ρ} (d : decode Y.2.1 pc = .ok (.bastore, 1)) (hs : sh a = (1, 2, n)) (hf : (stI h a i (vp_nar .boolean v)).bind F = some o) (kk : ∀ h', F h' = some o → Run Y V (pc + 1) L st h') : Run Y V pc L (.int v :: .int i :: .ref a :: st) h := by
  obtain ⟨hb, hf⟩ := ld_some hf
  rw [hs] at hb
  exact fun g l p e R s m args below meth c cells slots Q hV C H locs ls hP hD hS hl => va_zast C.1 C.2.1 C.2.2.2.2.2.2.2.1 hP hD hS a 2 (by rw [wl_at g h (sh_l hs (by decide)), ce_arr hs]) rfl (inb_vp hb) d (fun H1 locs1 hP1 hD1 hS1 => kk _ hf g l p e R s m args below meth c cells slots Q hV C H1 locs1 ls (by rw [wl_ast hs] at hP1; exact hP1) (by rw [wl_ast hs] at hD1; exact hD1) hS1 hl)
/-- arrays of references: they don't change -/
theorem r_aald {a t n : Nat} {i : Int32} {E : Nat × Nat × Nat} {F : Nat → Option ρ} (d : decode Y.2.1 pc = .ok (.aaload, 1)) (hs : sh a = (2, t, n)) (ht : t = 3 ∨ t = 4) (hel : ∀ j, j < n → sh (rf a j) = E) (hf : (ldR a i).bind F = some o) (kk : ∀ b, sh b = E → F b = some o → Run Y V (pc + 1) L (.ref b :: st) h) : Run Y V pc L (.int i :: .ref a :: st) h := by
  obtain ⟨hb, hf⟩ := ld_some hf
  rw [hs] at hb
  have hin : vp_in i n := inb_vp hb
  have hlt : i.toNatClampNeg < n := Nat.not_le.mp fun q => hin (Or.inr q)
  intro g l p e R s m args below meth c cells slots Q hV C H locs ls hP hD hS hl
  have ha := hP a _ (wl_at g h (sh_l hs (by decide)))
  rw [ce_ref hs] at ha
  rcases ht with rfl | rfl
  · exact W.aald (v := va_rf (some (g.2.2 (rf a i.toNatClampNeg)))) (ty := .array .int) C.1 C.2.1 ha ((C.2.2.2.2.2.2.2.1.2 3 _ rfl).1 n (fun j => va_rf (some (g.2.2 (rf a j))))) rfl (fun q => by cases q) (by show ¬ (i < 0 ∨ (arrV _ _ _).slots.size ≤ _); rw [arrV_size]; exact hin) (by show (arrV _ _ _).slots[_]? = _; rw [arrV_read _ _ hlt]) rfl rfl d (kk _ (hel _ hlt) hf g l p e R s m args below meth c cells slots Q hV C H locs ls hP hD hS hl)
  · exact W.aald (v := va_rf (some (g.2.2 (rf a i.toNatClampNeg)))) (ty := .object "ChainedMen$Course") C.1 C.2.1 ha ((C.2.2.2.2.2.2.2.1.2 4 _ rfl).1 n (fun j => va_rf (some (g.2.2 (rf a j))))) rfl (fun q => by cases q) (by show ¬ (i < 0 ∨ (arrV _ _ _).slots.size ≤ _); rw [arrV_size]; exact hin) (by show (arrV _ _ _).slots[_]? = _; rw [arrV_read _ _ hlt]) rfl rfl d (kk _ (hel _ hlt) hf g l p e R s m args below meth c cells slots Q hV C H locs ls hP hD hS hl)
theorem r_alen {a n : Nat} (d : decode Y.2.1 pc = .ok (.arraylength, 1)) (hs : sh a = (1, 0, n)) (kk : Run Y V (pc + 1) L (.int (nI n) :: st) h) : Run Y V pc L (.ref a :: st) h :=
  fun g l p e R s m args below meth c cells slots Q hV C H locs ls hP hD hS hl => va_alen C.1 C.2.1 C.2.2.2.2.2.2.2.1 hP a 0 (by rw [wl_at g h (sh_l hs (by decide)), ce_arr hs]) (ty := .int) (x := (n, .inl (gI h a))) rfl rfl d (kk g l p e R s m args below meth c cells slots Q hV C H locs ls hP hD hS hl)
/-- System.arraycopy of numbers -/
theorem r_copy {a b na nb : Nat} {sp dp n : Int32} {idx : Nat} {F : Hp → Option ρ} (d : decode Y.2.1 pc = .ok (.invokestatic idx, 3)) (hsa : sh a = (1, 0, na)) (hsb : sh b = (1, 0, nb)) (hl1 : Cond.methodLink Y.1.cls idx arraycopyName ∈ gt) (hl2 : Cond.native arraycopyName ∈ gt) (hl3 : Cond.static arraycopyName ∈ gt) (hl4 : Cond.initialized "java/lang/System" ∈ gt) (hR : Fits V 0) (hst : (st.map fun v => v.category).sum ≤ 8) (hf : (cpI h a sp b dp n).bind F = some o) (kk : ∀ h', F h' = some o → Run Y V (pc + 3) L st h') : Run Y V pc L (.int n :: .int dp :: .ref b :: .int sp :: .ref a :: st) h := by
  obtain ⟨hb, hf⟩ := ld_some hf
  rw [hsa, hsb] at hb
  dsimp only at hb
  have nn : ∀ z : Int32, 0 ≤ z.toInt → ¬ z < 0 ∧ z.toInt = (z.toNatClampNeg : Int) := by
    intro z hz
    refine ⟨fun q => ?_, (Int.toNat_of_nonneg hz).symm⟩
    have := Int32.lt_iff_toInt_lt.mp q
    rw [Int32.toInt_zero] at this
    omega
  obtain ⟨h1, h2, h3, h4, h5⟩ := hb
  have e1 := nn _ h1
  have e2 := nn _ h2
  have e3 := nn _ h3
  intro g l p e R s m args below meth c cells slots Q hV C H locs ls hP hD hS hl
  have hr := hR _ _ _ _ _ _ _ _ _ _ _ _ _ _ hV
  have hcat : ∀ A : Nat → Nat, ((st.map (rv A)).map fun v => v.category) = st.map fun v => v.category := fun A => by
    rw [List.map_map]
    exact List.map_congr_left (fun v _ => rv_cat A v)
  refine va_copyi (ty := .int) C.1 C.2.1 (by rw [C.2.2.2.2.1]; exact hl.1.symm) C.2.2.2.2.2.1 (C.2.2.2.2.2.2.1 _ hl1) (C.2.2.2.2.2.2.1 _ hl2) (C.2.2.2.2.2.2.1 _ hl3) (C.2.2.2.2.2.2.1 _ hl4) C.2.2.2.2.2.2.2.1 hP hD hS a b 0 0 (by rw [wl_at g h (sh_l hsa (by decide)), ce_arr hsa]) (by rw [wl_at g h (sh_l hsb (by decide)), ce_arr hsb]) rfl rfl rfl e1.1 e2.1 e3.1 (by have := e1.2; have := e3.2; omega) (by have := e2.2; have := e3.2; omega) (fun i hi => rfl) (by omega) ?_ d (fun H1 locs1 hP1 hD1 hS1 => ?_)
  · rw [hcat]
    have : nativeFrameWords "java/lang/System" "arraycopy" 5 = 7 := by decide
    omega
  · have ew : (wl g h).set b (g.2.2 b, .inl (g.2.1 0, nb, .inl (va_cpy (gI h a) (gI h b) sp.toNatClampNeg dp.toNatClampNeg n.toNatClampNeg))) = wl g (sA h b (va_cpy (gI h a) (gI h b) sp.toNatClampNeg dp.toNatClampNeg n.toNatClampNeg)) := by
      refine wl_set g (sh_l hsb (by decide)) ?_ (fun b hb => ce_sA hb)
      rw [ce_arr hsb]
      have : gI (sA h b (va_cpy (gI h a) (gI h b) sp.toNatClampNeg dp.toNatClampNeg n.toNatClampNeg)) b = va_cpy (gI h a) (gI h b) sp.toNatClampNeg dp.toNatClampNeg n.toNatClampNeg := by
        funext j
        rw [gI_sA, if_pos rfl]
      rw [this]
    rw [ew] at hP1 hD1
    exact kk _ hf g l p e R s m args below meth c cells slots Q hV C H1 locs1 ls hP1 hD1 hS1 hl
/-- the class's own tables -/
theorem r_gets {idx : Nat} (j : Nat) (hj : j < 3) (d : decode Y.2.1 pc = .ok (.getstatic idx, 3)) (hw : Cond.fieldLink Y.1.cls idx "ChainedMen" (stN j) "[I" ∈ gt) (kk : Run Y V (pc + 3) L (.ref (NN + j) :: st) h) : Run Y V pc L st h :=
  fun g l p e R s m args below meth c cells slots Q hV C H locs ls hP hD hS hl => va_gets C.1 C.2.1 (C.2.2.2.2.2.2.2.2.1 j hj).1 hS C.2.2.2.2.2.1 (C.2.2.2.2.2.2.1 _ hw) (fun x hx => hx) d (kk g l p e R s m args below meth c cells slots Q hV C H locs ls hP hD hS hl)
theorem r_getsN {idx : Nat} (j : Nat) (hj : j < 3) (d : decode Y.2.1 pc = .ok (.getstatic idx, 3)) (hw : Cond.fieldLinkNest Y.1.cls idx "ChainedMen" (stN j) "[I" "ChainedMen" ∈ nestL) (kk : Run Y V (pc + 3) L (.ref (NN + j) :: st) h) : Run Y V pc L st h :=
  fun g l p e R s m args below meth c cells slots Q hV C H locs ls hP hD hS hl => va_getsN C.1 C.2.1 (C.2.2.2.2.2.2.2.2.1 j hj).1 hS C.2.2.2.2.2.1 (va_Nw.use rfl (C.2.2.2.2.2.2.2.2.2 _ hw)) (fun x hx => hx) d (kk g l p e R s m args below meth c cells slots Q hV C H locs ls hP hD hS hl)
theorem r_tald {j : Nat} {i : Int32} {F : Int32 → Option ρ} (hj : j < 3) (d : decode Y.2.1 pc = .ok (.iaload, 1)) (hf : (ldT j i).bind F = some o) (kk : ∀ v, F v = some o → Run Y V (pc + 1) L (.int v :: st) h) : Run Y V pc L (.int i :: .ref (NN + j) :: st) h := by
  obtain ⟨hb, hf⟩ := ld_some hf
  exact fun g l p e R s m args below meth c cells slots Q hV C H locs ls hP hD hS hl => va_ti C.1 C.2.1 (C.2.2.2.2.2.2.2.2.1 j hj).2 hS (inb_vp hb) rfl d (kk _ hf g l p e R s m args below meth c cells slots Q hV C H locs ls hP hD hS hl)
end ARRAYS
/-! calls -/
/-- what is known of a method: its code among the words, its class made -/
def YO (Y : Yd) : Prop := (Cond.code Y.1 Y.2.1 Y.2.2.1 Y.2.2.2 ∈ gt) ∧ (Cond.initialized Y.1.cls ∈ gt) ∧ (Y.1.cls ≠ "java/lang/invoke/MethodHandle" ∧ Y.1.cls ≠ "java/lang/invoke/VarHandle") ∧ plainName Y.1.cls = true ∧ Y.2.2.1 ≤ 20
def YI (Y : Yd) : Prop := (Cond.instanceMethod Y.1 ∈ gt) ∧ (Cond.selects Y.1.cls Y.1 Y.1 ∈ gt)
def arity (Y : Yd) : Nat := ((parseMethodDescriptor Y.1.desc).map (fun d => d.parameters.length)).getD 999
theorem arity_ok {Y : Yd} {n : Nat} (h : (parseMethodDescriptor Y.1.desc).map (fun d => d.parameters.length) = some n) : ∀ sig, parseMethodDescriptor Y.1.desc = some sig → n = sig.parameters.length := by
  intro sig hs
  rw [hs] at h
  exact (Option.some.inj h).symm
theorem wsY_in {Y : Yd} (yo : YO Y) : ∀ w ∈ wsY Y, w ∈ gt := by
  intro w hw
  rcases List.mem_cons.mp hw with rfl | h
  · exact yo.1
  · exact h
theorem cat_rv (A : Nat → Nat) (st : List Value) : ((st.map (rv A)).map fun v => v.category) = st.map fun v => v.category := by
  rw [List.map_map]
  exact List.map_congr_left (fun v _ => rv_cat A v)
theorem Wd.blind {g : Gp} {h : Hp} {As : List Value} : FrameBlind (va_Pc As (fun U => Wd g h U U.heap)) := by
  intro a U q mk hp
  obtain ⟨h0, h1, h2, h3, h4, h5⟩ := hp
  exact ⟨h0, h1, va_K.moved (u := U) (U := U.calling q mk a) (Vm.Alike.refl U.vm) h2, h3, Stat.moved (u := U) (U := U.calling q mk a) (Vm.Alike.refl U.vm) h4, Nst.same (s := U) (U := U.calling q mk a) rfl h5⟩
theorem Wd.here {Y : Yd} {g : Gp} {p : Program} {s : State} {m : MethodId} {args : Array Value} {meth : Method} {c : Code} {h : Hp} {H : Heap} {locs : List Loc} (C : Cx Y g p s m args meth c) (hP : va_P g.1 vwCl (wl g h) H) (hD : va_D (AS g) (wl g h)) (hS : va_S (AS g) s.heap H locs) {U : State} (hU : U.heap = H) (hW : s.WarmedH U.vm) : Wd g h U U.heap := by
  obtain ⟨-, -, -, -, -, -, -, hK, hT, hN⟩ := C
  rw [hU]
  exact ⟨hP, va_K.moved hW.alike hK, hD, Stat.moved hW.alike (hT.kept hS.2.1), hN.warm hW⟩
section CALLS
variable {Y : Yd} {V : Vt} {pc : Nat} {L : List (Option Value)} {st rest : List Value} {h : Hp} {ρ : Type} {o : ρ}
theorem back_to {p : Program} {l : Launch} {e : Env} {R : Room} {s : State} {m : MethodId} {args : Array Value} {below : List Frame} {meth : Method} {c : Code} {H : Heap} {locs : List Loc} {cells slots : Nat} {Q : State → Prop} {g : Gp} {T : To} {ls : Array Slot} {st0 rest0 : List Value} {a : Array Value}
    (hr : va_Run p l e R s m args below meth c H locs cells slots 0 0 (F0 m pc ls st0) rest0 (Qx g T a) (AS g)) (hS : va_S (AS g) s.heap H locs)
    (kk : ∀ (H1 : Heap) (locs1 : List Loc), va_P g.1 vwCl (wl g T.2) H1 → va_S (AS g) s.heap H1 locs1 → W p l e R s m args below meth c H1 locs1 cells slots Q (F0 m (pc + 3) ls ((T.1.map (rv g.2.2)).toList ++ rest0))) : W p l e R s m args below meth c H locs cells slots Q (F0 m pc ls st0) := by
  intro T0 hT X
  obtain ⟨v, st₀, t, T', L, h0, X', hL, e1, e2, ⟨⟨hv, hp⟩, hz, hk⟩, step⟩ := hr T0 hT X
  have hv' : v = T.1.map (rv g.2.2) := by cases hv; rfl
  subst hv'
  rw [h0] at hz hk
  obtain ⟨t2, a1, b1⟩ := kk T'.heap (locs ++ L) (by rw [e1]; exact hp)
    ⟨Nat.le_trans hS.1 (by rw [e1]; exact hz), fun q h1 h2 => by rw [e1, hk q (Nat.lt_of_lt_of_le h1 hS.1) h2]; exact hS.2.1 q h1 h2, fun q hq => by
      rcases List.mem_append.mp hq with h | h
      · exact hS.2.2 q h
      · exact hL q h⟩ T' rfl X'
  exact ⟨t2, step t2 a1, b1⟩
/-- a method of an object -/
theorem r_callV {Z : Yd} {T : To} {n lv idx b ci nf : Nat} {As : List Value} (d : decode Y.2.1 pc = .ok (.invokevirtual idx, 3)) (yo : YO Z) (yi : YI Z) (hl1 : Cond.methodLink Y.1.cls idx Z.1 ∈ gt) (hn : (parseMethodDescriptor Z.1.desc).map (fun d => d.parameters.length) = some n) (hs : sh b = (0, ci, nf)) (hcl : ∃ q : vw_C, vwCl[ci]? = some q ∧ q.1 = Z.1.cls) (hR : Fits V lv) (hlen : As.length = n) (hst : st = As.reverse ++ .ref b :: rest) (hr8 : (rest.map fun v => v.category).sum ≤ 8) (hM : MetP Z lv (.ref b :: As) h T) (kk : Run Y V (pc + 3) L (T.1.toList ++ rest) T.2) : Run Y V pc L st h := by
  intro g l p e R s m args below meth c cells slots Q hV C H locs ls hP hD hS hl
  obtain ⟨f1, f2, f3, f4⟩ := hR _ _ _ _ _ _ _ _ _ _ _ _ _ _ hV
  obtain ⟨q, hq, hq1⟩ := hcl
  have hm5 : Z.2.2.1 ≤ 20 := yo.2.2.2.2
  have hb := wl_at g h (sh_l hs (by decide))
  rw [ce_obj hs] at hb
  have hrecv := va_recv C.2.2.2.2.2.2.2.1 hP hq hb
  rw [hq1] at hrecv
  refine back_to (va_runV (C := Z.1.cls) (bytes := Z.2.1) (maxL := Z.2.2.1) (ret := Z.2.2.2) (ws := wsY Z) (rm := rm lv) (mc := 0) (ms := 0) (n := n) (As := As.map (rv g.2.2)) (rest := rest.map (rv g.2.2)) (b := g.2.2 b) (Pc := va_Pc ((Value.ref b :: As).map (rv g.2.2)) (fun U => Wd g h U U.heap)) (Qc := Qx g T) (free := AS g) ⟨C.1, C.2.1, C.2.2.2.2.1, C.2.2.2.2.2.1, C.2.2.2.2.2.2.1⟩ (hM l g) ⟨?_, C.2.2.2.2.2.2.1 _ yi.1, C.2.2.2.2.2.2.1 _ yi.2⟩ ⟨Wd.blind, hrecv, fun U hU hW => ⟨rfl, Wd.here C hP hD hS hU hW⟩⟩ rfl (by rw [List.length_map]; exact hlen) hl.1 ?_ (lv_room (by rw [cat_rv]; exact hr8)) d ⟨f3, f4⟩) hS (fun H1 locs1 hP1 hS1 => ?_)
  · refine ⟨rfl, rfl, f1, ?_, pay_in C.2.2.2.2.2.2.1 (gt_good (wsY_in yo)), List.mem_cons_self, C.2.2.2.2.2.2.1 _ yo.1, C.2.2.2.2.2.2.1 _ yo.2.1, yo.2.2.1, arity_ok hn, C.2.2.2.2.2.2.1 _ hl1⟩
    show 8 + (Z.2.2.1 + 11) + 40 * lv ≤ R.locals
    omega
  · show st.map (rv g.2.2) = _
    rw [hst]
    simp [rv]
  · have h5 := kk g l p e R s m args below meth c cells slots Q hV C H1 locs1 ls hP1 (wl_D g hD) hS1 hl
    rw [List.map_append] at h5
    have e6 : (T.1.toList).map (rv g.2.2) = (T.1.map (rv g.2.2)).toList := by cases T.1 <;> rfl
    rw [e6] at h5
    exact h5
/-- a nest mate's hidden method -/
theorem r_callVN {Z : Yd} {T : To} {n lv idx b ci nf : Nat} {As : List Value} (d : decode Y.2.1 pc = .ok (.invokevirtual idx, 3)) (yo : YO Z) (yi : YI Z) (hl1 : Cond.methodLinkNest Y.1.cls idx Z.1 "ChainedMen" ∈ nestL) (hn : (parseMethodDescriptor Z.1.desc).map (fun d => d.parameters.length) = some n) (hs : sh b = (0, ci, nf)) (hcl : ∃ q : vw_C, vwCl[ci]? = some q ∧ q.1 = Z.1.cls) (hR : Fits V lv) (hlen : As.length = n) (hst : st = As.reverse ++ .ref b :: rest) (hr8 : (rest.map fun v => v.category).sum ≤ 8) (hM : MetP Z lv (.ref b :: As) h T) (kk : Run Y V (pc + 3) L (T.1.toList ++ rest) T.2) : Run Y V pc L st h := by
  intro g l p e R s m args below meth c cells slots Q hV C H locs ls hP hD hS hl
  obtain ⟨f1, f2, f3, f4⟩ := hR _ _ _ _ _ _ _ _ _ _ _ _ _ _ hV
  obtain ⟨q, hq, hq1⟩ := hcl
  have hm5 : Z.2.2.1 ≤ 20 := yo.2.2.2.2
  have hb := wl_at g h (sh_l hs (by decide))
  rw [ce_obj hs] at hb
  have hrecv := va_recv C.2.2.2.2.2.2.2.1 hP hq hb
  rw [hq1] at hrecv
  refine back_to (va_runVN (host := "ChainedMen") (C := Z.1.cls) (bytes := Z.2.1) (maxL := Z.2.2.1) (ret := Z.2.2.2) (ws := wsY Z) (rm := rm lv) (mc := 0) (ms := 0) (n := n) (As := As.map (rv g.2.2)) (rest := rest.map (rv g.2.2)) (b := g.2.2 b) (Pc := va_Pc ((Value.ref b :: As).map (rv g.2.2)) (fun U => Wd g h U U.heap)) (Qc := Qx g T) (free := AS g) ⟨C.1, C.2.1, C.2.2.2.2.1, C.2.2.2.2.2.1, C.2.2.2.2.2.2.1⟩ (hM l g) ⟨?_, C.2.2.2.2.2.2.1 _ yi.1, C.2.2.2.2.2.2.1 _ yi.2⟩ ⟨Wd.blind, hrecv, fun U hU hW => ⟨rfl, Wd.here C hP hD hS hU hW⟩⟩ rfl (by rw [List.length_map]; exact hlen) hl.1 ?_ (lv_room (by rw [cat_rv]; exact hr8)) d ⟨f3, f4⟩) hS (fun H1 locs1 hP1 hS1 => ?_)
  · refine ⟨⟨rfl, rfl, f1, ?_, pay_in C.2.2.2.2.2.2.1 (gt_good (wsY_in yo)), List.mem_cons_self⟩, C.2.2.2.2.2.2.1 _ yo.1, C.2.2.2.2.2.2.1 _ yo.2.1, yo.2.2.1, arity_ok hn, va_Nw.use rfl (C.2.2.2.2.2.2.2.2.2 _ hl1)⟩
    show 8 + (Z.2.2.1 + 11) + 40 * lv ≤ R.locals
    omega
  · show st.map (rv g.2.2) = _
    rw [hst]
    simp [rv]
  · have h5 := kk g l p e R s m args below meth c cells slots Q hV C H1 locs1 ls hP1 (wl_D g hD) hS1 hl
    rw [List.map_append] at h5
    have e6 : (T.1.toList).map (rv g.2.2) = (T.1.map (rv g.2.2)).toList := by cases T.1 <;> rfl
    rw [e6] at h5
    exact h5
/-- a method of the class itself -/
theorem r_callS {Z : Yd} {T : To} {n lv idx : Nat} {As : List Value} (d : decode Y.2.1 pc = .ok (.invokestatic idx, 3)) (yo : YO Z) (ys : Cond.static Z.1 ∈ gt) (hl1 : Cond.methodLink Y.1.cls idx Z.1 ∈ gt) (hn : (parseMethodDescriptor Z.1.desc).map (fun d => d.parameters.length) = some n) (hR : Fits V lv) (hlen : As.length = n) (hst : st = As.reverse ++ rest) (hr8 : (rest.map fun v => v.category).sum ≤ 8) (hM : MetP Z lv As h T) (kk : Run Y V (pc + 3) L (T.1.toList ++ rest) T.2) : Run Y V pc L st h := by
  intro g l p e R s m args below meth c cells slots Q hV C H locs ls hP hD hS hl
  obtain ⟨f1, f2, f3, f4⟩ := hR _ _ _ _ _ _ _ _ _ _ _ _ _ _ hV
  have hm5 : Z.2.2.1 ≤ 20 := yo.2.2.2.2
  refine back_to (va_runS (bytes := Z.2.1) (maxL := Z.2.2.1) (ret := Z.2.2.2) (ws := wsY Z) (rm := rm lv) (mc := 0) (ms := 0) (n := n) (As := As.map (rv g.2.2)) (rest := rest.map (rv g.2.2)) (Pc := va_Pc (As.map (rv g.2.2)) (fun U => Wd g h U U.heap)) (Qc := Qx g T) (free := AS g) ⟨C.1, C.2.1, C.2.2.2.2.1, C.2.2.2.2.2.1, C.2.2.2.2.2.2.1⟩ (hM l g) ⟨?_, C.2.2.2.2.2.2.1 _ ys⟩ ⟨Wd.blind, fun U hU hW => ⟨rfl, Wd.here C hP hD hS hU hW⟩⟩ rfl (by rw [List.length_map]; exact hlen) hl.1 ?_ (lv_room (by rw [cat_rv]; exact hr8)) d ⟨f3, f4⟩) hS (fun H1 locs1 hP1 hS1 => ?_)
  · refine ⟨rfl, rfl, f1, ?_, pay_in C.2.2.2.2.2.2.1 (gt_good (wsY_in yo)), List.mem_cons_self, C.2.2.2.2.2.2.1 _ yo.1, C.2.2.2.2.2.2.1 _ yo.2.1, yo.2.2.1, arity_ok hn, C.2.2.2.2.2.2.1 _ hl1⟩
    show 8 + (Z.2.2.1 + 11) + 40 * lv ≤ R.locals
    omega
  · show st.map (rv g.2.2) = _
    rw [hst]
    simp
  · have h5 := kk g l p e R s m args below meth c cells slots Q hV C H1 locs1 ls hP1 (wl_D g hD) hS1 hl
    rw [List.map_append] at h5
    have e6 : (T.1.toList).map (rv g.2.2) = (T.1.map (rv g.2.2)).toList := by cases T.1 <;> rfl
    rw [e6] at h5
    exact h5
theorem r_callSN {Z : Yd} {T : To} {n lv idx : Nat} {As : List Value} (d : decode Y.2.1 pc = .ok (.invokestatic idx, 3)) (yo : YO Z) (ys : Cond.static Z.1 ∈ gt) (hl1 : Cond.methodLinkNest Y.1.cls idx Z.1 "ChainedMen" ∈ nestL) (hn : (parseMethodDescriptor Z.1.desc).map (fun d => d.parameters.length) = some n) (hR : Fits V lv) (hlen : As.length = n) (hst : st = As.reverse ++ rest) (hr8 : (rest.map fun v => v.category).sum ≤ 8) (hM : MetP Z lv As h T) (kk : Run Y V (pc + 3) L (T.1.toList ++ rest) T.2) : Run Y V pc L st h := by
  intro g l p e R s m args below meth c cells slots Q hV C H locs ls hP hD hS hl
  obtain ⟨f1, f2, f3, f4⟩ := hR _ _ _ _ _ _ _ _ _ _ _ _ _ _ hV
  have hm5 : Z.2.2.1 ≤ 20 := yo.2.2.2.2
  refine back_to (va_runSN (host := "ChainedMen") (bytes := Z.2.1) (maxL := Z.2.2.1) (ret := Z.2.2.2) (ws := wsY Z) (rm := rm lv) (mc := 0) (ms := 0) (n := n) (As := As.map (rv g.2.2)) (rest := rest.map (rv g.2.2)) (Pc := va_Pc (As.map (rv g.2.2)) (fun U => Wd g h U U.heap)) (Qc := Qx g T) (free := AS g) ⟨C.1, C.2.1, C.2.2.2.2.1, C.2.2.2.2.2.1, C.2.2.2.2.2.2.1⟩ (hM l g) ⟨?_, C.2.2.2.2.2.2.1 _ ys, trivial⟩ ⟨Wd.blind, fun U hU hW => ⟨rfl, Wd.here C hP hD hS hU hW⟩⟩ rfl (by rw [List.length_map]; exact hlen) hl.1 ?_ (lv_room (by rw [cat_rv]; exact hr8)) d ⟨f3, f4⟩) hS (fun H1 locs1 hP1 hS1 => ?_)
  · refine ⟨⟨rfl, rfl, f1, ?_, pay_in C.2.2.2.2.2.2.1 (gt_good (wsY_in yo)), List.mem_cons_self⟩, C.2.2.2.2.2.2.1 _ yo.1, C.2.2.2.2.2.2.1 _ yo.2.1, yo.2.2.1, arity_ok hn, va_Nw.use rfl (C.2.2.2.2.2.2.2.2.2 _ hl1)⟩
    show 8 + (Z.2.2.1 + 11) + 40 * lv ≤ R.locals
    omega
  · show st.map (rv g.2.2) = _
    rw [hst]
    simp
  · have h5 := kk g l p e R s m args below meth c cells slots Q hV C H1 locs1 ls hP1 (wl_D g hD) hS1 hl
    rw [List.map_append] at h5
    have e6 : (T.1.toList).map (rv g.2.2) = (T.1.map (rv g.2.2)).toList := by cases T.1 <;> rfl
    rw [e6] at h5
    exact h5
end CALLS
/-! ends -/
section ENDS
variable {Y : Yd} {pc lv : Nat} {L : List (Option Value)} {h : Hp}
theorem r_iret {v : Int32} (d : decode Y.2.1 pc = .ok (.ireturn, 1)) (hr : Y.2.2.2 = some .int) : Run Y (VM lv (some (.int v), h)) pc L [.int v] h := by
  intro g l p e R s m args below meth c cells slots Q hV C H locs ls hP hD hS hl
  obtain ⟨rfl, rfl, rfl, rfl⟩ := hV
  exact W.iret (v := v) C.1 C.2.1 (by rw [C.2.2.1, hr]) (fun t ht hW => ⟨⟨rfl, by rw [ht]; exact hP⟩, hS.F ht⟩) hS.2.2 d C.2.2.2.1
theorem r_zret {v : Int32} (d : decode Y.2.1 pc = .ok (.ireturn, 1)) (hr : Y.2.2.2 = some .boolean) (hv : v = 0 ∨ v = 1) : Run Y (VM lv (some (.int v), h)) pc L [.int v] h := by
  intro g l p e R s m args below meth c cells slots Q hV C H locs ls hP hD hS hl
  obtain ⟨rfl, rfl, rfl, rfl⟩ := hV
  exact W.zret (v := v) (ty := .boolean) C.1 C.2.1 (by rw [C.2.2.1, hr]) (ckZ_nar hv).1 (fun t ht hW => ⟨⟨rfl, by rw [ht]; exact hP⟩, hS.F ht⟩) hS.2.2 d C.2.2.2.1
theorem r_lret {v : Int64} (d : decode Y.2.1 pc = .ok (.lreturn, 1)) (hr : Y.2.2.2 = some .long) : Run Y (VM lv (some (.long v), h)) pc L [.long v] h := by
  intro g l p e R s m args below meth c cells slots Q hV C H locs ls hP hD hS hl
  obtain ⟨rfl, rfl, rfl, rfl⟩ := hV
  exact W.lret (v := v) C.1 C.2.1 (by rw [C.2.2.1, hr]) (fun t ht hW => ⟨⟨rfl, by rw [ht]; exact hP⟩, hS.F ht⟩) hS.2.2 d C.2.2.2.1
theorem r_vret (d : decode Y.2.1 pc = .ok (.return_, 1)) (hr : Y.2.2.2 = none) : Run Y (VM lv (none, h)) pc L [] h := by
  intro g l p e R s m args below meth c cells slots Q hV C H locs ls hP hD hS hl
  obtain ⟨rfl, rfl, rfl, rfl⟩ := hV
  exact W.vret C.1 C.2.1 (by rw [C.2.2.1, hr]) (fun t ht hW => ⟨⟨rfl, by rw [ht]; exact hP⟩, hS.F ht⟩) hS.2.2 d C.2.2.2.1
/-- the same with what the function says -/
theorem e_iP {v r : Int32} (d : decode Y.2.1 pc = .ok (.ireturn, 1)) (hr : Y.2.2.2 = some .int) (hf : some v = some r) : Run Y (VM lv (some (.int r), h)) pc L [.int v] h := by
  cases hf; exact r_iret d hr
theorem e_iH {v : Int32} {w : Int32 × Hp} (d : decode Y.2.1 pc = .ok (.ireturn, 1)) (hr : Y.2.2.2 = some .int) (hf : some (v, h) = some w) : Run Y (VM lv (some (.int w.1), w.2)) pc L [.int v] h := by
  cases hf; exact r_iret d hr
theorem e_zP {v r : Int32} (d : decode Y.2.1 pc = .ok (.ireturn, 1)) (hr : Y.2.2.2 = some .boolean) (hf : ckZ v = some r) : Run Y (VM lv (some (.int r), h)) pc L [.int v] h := by
  by_cases hv : v = 0 ∨ v = 1
  · rw [ckZ, if_pos hv] at hf; cases hf; exact r_zret d hr hv
  · rw [ckZ, if_neg hv] at hf; cases hf
theorem e_zH {v : Int32} {w : Int32 × Hp} (d : decode Y.2.1 pc = .ok (.ireturn, 1)) (hr : Y.2.2.2 = some .boolean) (hf : ((ckZ v).bind fun z => some (z, h)) = some w) : Run Y (VM lv (some (.int w.1), w.2)) pc L [.int v] h := by
  by_cases hv : v = 0 ∨ v = 1
  · rw [ckZ, if_pos hv] at hf; cases hf; exact r_zret d hr hv
  · rw [ckZ, if_neg hv] at hf; cases hf
theorem e_lP {v r : Int64} (d : decode Y.2.1 pc = .ok (.lreturn, 1)) (hr : Y.2.2.2 = some .long) (hf : some v = some r) : Run Y (VM lv (some (.long r), h)) pc L [.long v] h := by
  cases hf; exact r_lret d hr
theorem e_lH {v : Int64} {w : Int64 × Hp} (d : decode Y.2.1 pc = .ok (.lreturn, 1)) (hr : Y.2.2.2 = some .long) (hf : some (v, h) = some w) : Run Y (VM lv (some (.long w.1), w.2)) pc L [.long v] h := by
  cases hf; exact r_lret d hr
theorem e_vH {w : Hp} (d : decode Y.2.1 pc = .ok (.return_, 1)) (hr : Y.2.2.2 = none) (hf : some h = some w) : Run Y (VM lv (none, w)) pc L [] h := by
  cases hf; exact r_vret d hr
end ENDS
/-- the locals with which a method begins -/
def ini : Nat → List Value → List (Option Value)
  | n, [] => List.replicate n none
  | n, v :: vs => if v.category = 2 then some v :: none :: ini (n - 2) vs else some v :: ini (n - 1) vs
theorem ini_args (A : Nat → Nat) : ∀ (vs : List Value) (n i j : Nat) (v : Value), (ini n vs)[j]? = some (some v) → (i + j, rv A v) ∈ lv_args i (vs.map (rv A))
  | [], n, i, j, v, h => by
    have := List.eq_of_mem_replicate (List.mem_of_getElem? h)
    cases this
  | w :: vs, n, i, j, v, h => by
    simp only [List.map_cons, lv_args, rv_cat]
    unfold ini at h
    by_cases hc : w.category = 2
    · rw [if_pos hc] at h ⊢
      match j, h with
      | 0, h => simp at h; subst h; exact List.mem_cons_self
      | 1, h => simp at h
      | j + 2, h =>
        have h1 := ini_args A vs (n - 2) (i + 2) j v (by simpa using h)
        have e : i + 2 + j = i + (j + 2) := by omega
        rw [e] at h1
        exact List.mem_cons_of_mem _ h1
    · rw [if_neg hc] at h ⊢
      match j, h with
      | 0, h => simp at h; subst h; exact List.mem_cons_self
      | j + 1, h =>
        have h1 := ini_args A vs (n - 1) (i + 1) j v (by simpa using h)
        have e : i + 1 + j = i + (j + 1) := by omega
        rw [e] at h1
        exact List.mem_cons_of_mem _ h1
theorem sl_len (A : Nat → Nat) (vs : List Value) : (lg_sl (vs.map (rv A))).length = (vs.map fun v => v.category).sum := by
  induction vs with
  | nil => rfl
  | cons v vs ih =>
    have : lg_sl ((v :: vs).map (rv A)) = (if (rv A v).category = 2 then [.val (rv A v), .second] else [.val (rv A v)]) ++ lg_sl (vs.map (rv A)) := by
      simp [lg_sl]
    rw [this, List.length_append, ih, rv_cat]
    rcases lv_cat v with h | h
    · simp [h]
    · simp [h]
/-- A METHOD, FROM ITS ENTRY -/
theorem met_of {Y : Yd} {lv : Nat} {As : List Value} {h : Hp} {T : To} (yo : YO Y) (ha : (As.map fun v => v.category).sum ≤ Y.2.2.1) (k : Run Y (VM lv T) 0 (ini Y.2.2.1 As) [] h) : MetP Y lv As h T := by
  intro l g
  refine Met.ofW (cc := Y.2.1) (maxL := Y.2.2.1) (ret := Y.2.2.2) yo.2.2.2.1 rfl ?_
  intro p e s m args below meth c s₁ B hml hv
  obtain ⟨rfl, hP, hK, hD, hT, hN⟩ := hv
  have hts := atoms_spec (ws := wsY Y) B.pre
  have hl := lv_entry (As.map (rv g.2.2)) (n := Y.2.2.1) (by rw [sl_len]; exact ha)
  rw [lg_entry_eq]
  refine k g l p e (rm lv) s m _ below meth c 0 0 _ ⟨rfl, rfl, rfl, rfl⟩ ⟨B.exec, B.bytes, B.returns, B.notSynchronized, hml, findClass_of_methodNamed B.named, fun w hw => hts w (List.mem_cons_of_mem _ hw), hK, hT, hN⟩ s.heap [] _ hP hD va_S.rf ⟨hl.1, hl.2.1, fun q hq => ?_⟩
  obtain ⟨j, v, h1, rfl⟩ := lvm_of _ 0 q hq
  apply hl.2.2
  exact ini_args g.2.2 As _ 0 j v h1
/-! loops -/
def fix {σ ρ : Type} (b : (σ → Option ρ) → σ → Option ρ) : Nat → σ → Option ρ
  | 0, _ => none
  | n + 1, s => b (fix b n) s
theorem r_fix {σ ρ : Type} {o : ρ} {b : (σ → Option ρ) → σ → Option ρ} {Y : Yd} {V : Vt} {pc : Nat} (L : σ → List (Option Value)) (hh : σ → Hp) (hb : ∀ (self : σ → Option ρ), (∀ s, self s = some o → Run Y V pc (L s) [] (hh s)) → ∀ s, b self s = some o → Run Y V pc (L s) [] (hh s)) : ∀ (n : Nat) (s : σ), fix b n s = some o → Run Y V pc (L s) [] (hh s)
  | 0, s, h => by cases h
  | n + 1, s, h => hb (fix b n) (fun s' h' => r_fix L hh hb n s' h') s h
theorem bnd {α ρ : Type} {x : Option α} {F : α → Option ρ} {o : ρ} (h : x.bind F = some o) : ∃ v, x = some v ∧ F v = some o := by
  cases x with
  | none => cases h
  | some v => exact ⟨v, rfl, h⟩
/-! switches -/
section SWITCH
variable {Y : Yd} {V : Vt} {pc : Nat} {L : List (Option Value)} {st : List Value} {h : Hp}
theorem r_tabIn {dflt lo hi : Int} {offs : Array Int} {len : Nat} {x : Int32} {off : Int} (tgt : Nat) (d : decode Y.2.1 pc = .ok (.tableswitch dflt lo hi offs, len)) (h1 : ¬ x.toInt < lo) (h2 : ¬ hi < x.toInt) (ho : offs[(x.toInt - lo).toNat]? = some off) (ht : (pc : Int) + off = (tgt : Int)) (k : Run Y V tgt L st h) : Run Y V pc L (.int x :: st) h :=
  fun g l p e R s m args below meth c cells slots Q hV C H locs ls hP hD hS hl => lv_tableIn C.1 C.2.1 d h1 h2 ho ht (k g l p e R s m args below meth c cells slots Q hV C H locs ls hP hD hS hl)
theorem r_tabOut {dflt lo hi : Int} {offs : Array Int} {len : Nat} {x : Int32} (tgt : Nat) (d : decode Y.2.1 pc = .ok (.tableswitch dflt lo hi offs, len)) (hx : x.toInt < lo ∨ hi < x.toInt) (ht : (pc : Int) + dflt = (tgt : Int)) (k : Run Y V tgt L st h) : Run Y V pc L (.int x :: st) h :=
  fun g l p e R s m args below meth c cells slots Q hV C H locs ls hP hD hS hl => lv_tableOut C.1 C.2.1 d hx ht (k g l p e R s m args below meth c cells slots Q hV C H locs ls hP hD hS hl)
end SWITCH
/-! joins -/
theorem r_ite {ρ : Type} {o : ρ} {c : Prop} [Decidable c] {P N : Option ρ} {G : Prop} (hf : (if c then P else N) = some o) (k1 : c → P = some o → G) (k2 : ¬ c → N = some o → G) : G := by
  by_cases q : c
  · rw [if_pos q] at hf; exact k1 q hf
  · rw [if_neg q] at hf; exact k2 q hf
theorem r_jn {ρ τ : Type} {o : ρ} {J : τ → Option ρ} {B : (τ → Option ρ) → Option ρ} {P : τ → Prop} {G : Prop} (hf : jn J B = some o) (h1 : ∀ t, J t = some o → P t) (h2 : ∀ j : τ → Option ρ, (∀ t, j t = some o → P t) → B j = some o → G) : G := h2 J h1 hf
theorem r_reg {ρ τ : Type} {o : ρ} {X : Option τ} {F : τ → Option ρ} {P : τ → Prop} {G : Prop} (hf : X.bind F = some o) (h1 : ∀ t, F t = some o → P t) (h2 : ∀ t, P t → X = some t → G) : G := by
  obtain ⟨t, e, hf⟩ := bnd hf
  exact h2 t (h1 t hf) e
theorem r_lf {τ : Type} {a t : τ} {P : τ → Prop} (hf : some a = some t) (k : P t) : P a := by cases hf; exact k
/-- fewer locals -/
def ltl : List (Option Value) → List (Option Value) → Prop
  | [], _ => True
  | none :: L', _ :: L => ltl L' L
  | some v :: L', o :: L => o = some v ∧ ltl L' L
  | _ :: _, [] => False
theorem ltl_at : ∀ (L' L : List (Option Value)), ltl L' L → ∀ (i : Nat) (v : Value), L'[i]? = some (some v) → L[i]? = some (some v)
  | [], L, _, i, v, h => by simp at h
  | none :: L', o :: L, h, 0, v, h1 => by simp at h1
  | none :: L', o :: L, h, i + 1, v, h1 => by simpa using ltl_at L' L h i v (by simpa using h1)
  | some w :: L', o :: L, h, 0, v, h1 => by
    have e : w = v := by simpa using h1
    subst e
    simp [h.1]
  | some w :: L', o :: L, h, i + 1, v, h1 => by simpa using ltl_at L' L h.2 i v (by simpa using h1)
  | none :: L', [], h, i, v, h1 => absurd h (by simp [ltl])
  | some w :: L', [], h, i, v, h1 => absurd h (by simp [ltl])
theorem ll_0 {L : List (Option Value)} : ltl [] L := by cases L <;> trivial
theorem ll_n {L' L : List (Option Value)} {o : Option Value} (h : ltl L' L) : ltl (none :: L') (o :: L) := h
theorem ll_s {L' L : List (Option Value)} {v : Value} (h : ltl L' L) : ltl (some v :: L') (some v :: L) := ⟨rfl, h⟩
theorem r_lt {Y : Yd} {V : Vt} {pc : Nat} {L L' : List (Option Value)} {st : List Value} {h : Hp} (hl : ltl L' L) (k : Run Y V pc L' st h) : Run Y V pc L st h := r_less (ltl_at L' L hl) k
theorem r_tabDef {Y : Yd} {V : Vt} {pc : Nat} {L : List (Option Value)} {st : List Value} {h : Hp} {dflt lo hi : Int} {offs : Array Int} {len : Nat} {x : Int32} (tgt n : Nat) (d : decode Y.2.1 pc = .ok (.tableswitch dflt lo hi offs, len)) (hn : hi = lo + n - 1) (hx : ∀ i : Nat, i < n → x.toInt = lo + i → offs[i]? = some dflt) (ht : (pc : Int) + dflt = (tgt : Int)) (k : Run Y V tgt L st h) : Run Y V pc L (.int x :: st) h := by
  by_cases h1 : x.toInt < lo
  · exact r_tabOut tgt d (Or.inl h1) ht k
  · by_cases h2 : hi < x.toInt
    · exact r_tabOut tgt d (Or.inr h2) ht k
    · have e : x.toInt = lo + ((x.toInt - lo).toNat : Nat) := by omega
      exact r_tabIn tgt d h1 h2 (hx _ (by omega) e) ht k
theorem sh_arr {a n : Nat} (h : sh a = (1, 0, n)) : sh a = (1, 0, (sh a).2.2) := by rw [h]
section ATOMS
variable {Y : Yd} {V : Vt} {pc : Nat} {L : List (Option Value)} {st : List Value} {h : Hp}
theorem r_istore_nA {n : Fin 4} {x : Int32} (d : decode Y.2.1 pc = .ok (.istore_n n, 1)) (hn : n.val < Y.2.2.1) (k : Run Y V (pc + 1) (lst n.val (.int x) L) st h) : Run Y V pc L (.int x :: st) h :=
  fun g l p e R s m args below meth c cells slots Q hV C H locs ls hP hD hS hl => lv_istore_n C.1 C.2.1 d rfl hl hn rfl (fun ls' h' => k g l p e R s m args below meth c cells slots Q hV C H locs ls' hP hD hS (Lv.put (v := .int x) h'))
theorem r_istoreA {i : Nat} {x : Int32} (d : decode Y.2.1 pc = .ok (.istore i, 2)) (hn : i < Y.2.2.1) (k : Run Y V (pc + 2) (lst i (.int x) L) st h) : Run Y V pc L (.int x :: st) h :=
  fun g l p e R s m args below meth c cells slots Q hV C H locs ls hP hD hS hl => lv_istore C.1 C.2.1 d hl hn rfl (fun ls' h' => k g l p e R s m args below meth c cells slots Q hV C H locs ls' hP hD hS (Lv.put (v := .int x) h'))
theorem r_lstore_nA {n : Fin 4} {x : Int64} (d : decode Y.2.1 pc = .ok (.lstore_n n, 1)) (hn : n.val + 1 < Y.2.2.1) (k : Run Y V (pc + 1) (lst2 n.val (.long x) L) st h) : Run Y V pc L (.long x :: st) h :=
  fun g l p e R s m args below meth c cells slots Q hV C H locs ls hP hD hS hl => lv_lstore_n C.1 C.2.1 d rfl hl hn rfl (fun ls' h' => k g l p e R s m args below meth c cells slots Q hV C H locs ls' hP hD hS (Lv.put2 (v := .long x) h'))
theorem r_lstoreA {i : Nat} {x : Int64} (d : decode Y.2.1 pc = .ok (.lstore i, 2)) (hn : i + 1 < Y.2.2.1) (k : Run Y V (pc + 2) (lst2 i (.long x) L) st h) : Run Y V pc L (.long x :: st) h :=
  fun g l p e R s m args below meth c cells slots Q hV C H locs ls hP hD hS hl => lv_lstore C.1 C.2.1 d hl hn rfl (fun ls' h' => k g l p e R s m args below meth c cells slots Q hV C H locs ls' hP hD hS (Lv.put2 (v := .long x) h'))
theorem r_iincA {i : Nat} {n : Int} {x v : Int32} (d : decode Y.2.1 pc = .ok (.iinc i n, 3)) (hi : L[i]? = some (some (.int x))) (hv : Int32.ofInt n = v) (hn : i < Y.2.2.1) (k : Run Y V (pc + 3) (lst i (.int (x + v)) L) st h) : Run Y V pc L st h := by
  intro g l p e R s m args below meth c cells slots Q hV C H locs ls hP hD hS hl
  have h1 := lvm_mem (A := g.2.2) L 0 i _ hi
  rw [Nat.zero_add] at h1
  obtain ⟨k9, hk9⟩ := List.getElem?_of_mem h1
  exact lv_iinc (v := x + v) C.1 C.2.1 d hl hk9 (by rw [hv]) hn rfl (fun ls' h' => k g l p e R s m args below meth c cells slots Q hV C H locs ls' hP hD hS (Lv.put (v := .int (x + v)) h'))
end ATOMS
def mxI (x y : Int32) : Int32 := if x < y then y else x
def mnI (x y : Int32) : Int32 := if y < x then y else x
def abI (x : Int32) : Int32 := if 0 ≤ x then x else 0 - x
section MATHS
variable {Y : Yd} {V : Vt} {pc : Nat} {L : List (Option Value)} {st : List Value} {h : Hp}
theorem r_mmax {idx : Nat} {x y : Int32} (d : decode Y.2.1 pc = .ok (.invokestatic idx, 3)) (w1 : Cond.methodLink Y.1.cls idx Lib.Math.max.name ∈ gt) (w2 : Cond.static Lib.Math.max.name ∈ gt) (w3 : Cond.initialized "java/lang/Math" ∈ gt) (w4 : Cond.code Lib.Math.max.name Lib.Math.max.code 2 (some .int) ∈ gt) (hR : Fits V 0) (hr8 : (st.map fun v => v.category).sum ≤ 8) (k : Run Y V (pc + 3) L (.int (mxI x y) :: st) h) : Run Y V pc L (.int y :: .int x :: st) h := by
  intro g l p e R s m args below meth c cells slots Q hV C H locs ls hP hD hS hl
  obtain ⟨f1, f2, f3, f4⟩ := hR _ _ _ _ _ _ _ _ _ _ _ _ _ _ hV
  refine va_mmax C.1 C.2.1 (by rw [C.2.2.2.2.1]; exact hl.1.symm) C.2.2.2.2.2.1 (C.2.2.2.2.2.2.1 _ w1) (C.2.2.2.2.2.2.1 _ w2) (C.2.2.2.2.2.2.1 _ w3) (C.2.2.2.2.2.2.1 _ w4) (by omega) (by rw [cat_rv]; omega) f3 f4 d (k g l p e R s m args below meth c cells slots Q hV C H locs ls hP hD hS hl)
theorem r_mmin {idx : Nat} {x y : Int32} (d : decode Y.2.1 pc = .ok (.invokestatic idx, 3)) (w1 : Cond.methodLink Y.1.cls idx Lib.Math.min.name ∈ gt) (w2 : Cond.static Lib.Math.min.name ∈ gt) (w3 : Cond.initialized "java/lang/Math" ∈ gt) (w4 : Cond.code Lib.Math.min.name Lib.Math.min.code 2 (some .int) ∈ gt) (hR : Fits V 0) (hr8 : (st.map fun v => v.category).sum ≤ 8) (k : Run Y V (pc + 3) L (.int (mnI x y) :: st) h) : Run Y V pc L (.int y :: .int x :: st) h := by
  intro g l p e R s m args below meth c cells slots Q hV C H locs ls hP hD hS hl
  obtain ⟨f1, f2, f3, f4⟩ := hR _ _ _ _ _ _ _ _ _ _ _ _ _ _ hV
  refine va_mmin C.1 C.2.1 (by rw [C.2.2.2.2.1]; exact hl.1.symm) C.2.2.2.2.2.1 (C.2.2.2.2.2.2.1 _ w1) (C.2.2.2.2.2.2.1 _ w2) (C.2.2.2.2.2.2.1 _ w3) (C.2.2.2.2.2.2.1 _ w4) (by omega) (by rw [cat_rv]; omega) f3 f4 d (k g l p e R s m args below meth c cells slots Q hV C H locs ls hP hD hS hl)
theorem r_mabs {idx : Nat} {x : Int32} (d : decode Y.2.1 pc = .ok (.invokestatic idx, 3)) (w1 : Cond.methodLink Y.1.cls idx Lib.Math.abs.name ∈ gt) (w2 : Cond.static Lib.Math.abs.name ∈ gt) (w3 : Cond.initialized "java/lang/Math" ∈ gt) (w4 : Cond.code Lib.Math.abs.name Lib.Math.abs.code 1 (some .int) ∈ gt) (hR : Fits V 0) (hr8 : (st.map fun v => v.category).sum ≤ 8) (k : Run Y V (pc + 3) L (.int (abI x) :: st) h) : Run Y V pc L (.int x :: st) h := by
  intro g l p e R s m args below meth c cells slots Q hV C H locs ls hP hD hS hl
  obtain ⟨f1, f2, f3, f4⟩ := hR _ _ _ _ _ _ _ _ _ _ _ _ _ _ hV
  refine va_mabs C.1 C.2.1 (by rw [C.2.2.2.2.1]; exact hl.1.symm) C.2.2.2.2.2.1 (C.2.2.2.2.2.2.1 _ w1) (C.2.2.2.2.2.2.1 _ w2) (C.2.2.2.2.2.2.1 _ w3) (C.2.2.2.2.2.2.1 _ w4) (by omega) (by rw [cat_rv]; omega) f3 f4 d (k g l p e R s m args below meth c cells slots Q hV C H locs ls hP hD hS hl)
end MATHS
