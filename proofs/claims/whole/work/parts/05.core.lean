/-! the pure picture: what changes (numbers, references, longs, by address and place) -/
abbrev Hp : Type := (Nat → Nat → Int32) × (Nat → Nat → Option Nat) × (Nat → Nat → Int64)
def gI (h : Hp) (a k : Nat) : Int32 := h.1 a k
def gR (h : Hp) (a k : Nat) : Option Nat := h.2.1 a k
def gL (h : Hp) (a k : Nat) : Int64 := h.2.2 a k
def up2 {α : Type} (f : Nat → Nat → α) (a k : Nat) (v : α) : Nat → Nat → α := fun b j => if b = a ∧ j = k then v else f b j
def sI (h : Hp) (a k : Nat) (v : Int32) : Hp := (up2 h.1 a k v, h.2.1, h.2.2)
def sR (h : Hp) (a k : Nat) (v : Option Nat) : Hp := (h.1, up2 h.2.1 a k v, h.2.2)
def sL (h : Hp) (a k : Nat) (v : Int64) : Hp := (h.1, h.2.1, up2 h.2.2 a k v)
def sA (h : Hp) (a : Nat) (f : Nat → Int32) : Hp := (fun b j => if b = a then f j else h.1 b j, h.2.1, h.2.2)
theorem gI_sI (h : Hp) (a k : Nat) (v : Int32) (b j : Nat) : gI (sI h a k v) b j = if b = a ∧ j = k then v else gI h b j := rfl
theorem gI_sR (h : Hp) (a k : Nat) (v : Option Nat) (b j : Nat) : gI (sR h a k v) b j = gI h b j := rfl
theorem gI_sL (h : Hp) (a k : Nat) (v : Int64) (b j : Nat) : gI (sL h a k v) b j = gI h b j := rfl
theorem gI_sA (h : Hp) (a : Nat) (f : Nat → Int32) (b j : Nat) : gI (sA h a f) b j = if b = a then f j else gI h b j := rfl
theorem gR_sI (h : Hp) (a k : Nat) (v : Int32) (b j : Nat) : gR (sI h a k v) b j = gR h b j := rfl
theorem gR_sR (h : Hp) (a k : Nat) (v : Option Nat) (b j : Nat) : gR (sR h a k v) b j = if b = a ∧ j = k then v else gR h b j := rfl
theorem gR_sL (h : Hp) (a k : Nat) (v : Int64) (b j : Nat) : gR (sL h a k v) b j = gR h b j := rfl
theorem gR_sA (h : Hp) (a : Nat) (f : Nat → Int32) (b j : Nat) : gR (sA h a f) b j = gR h b j := rfl
theorem gL_sI (h : Hp) (a k : Nat) (v : Int32) (b j : Nat) : gL (sI h a k v) b j = gL h b j := rfl
theorem gL_sR (h : Hp) (a k : Nat) (v : Option Nat) (b j : Nat) : gL (sR h a k v) b j = gL h b j := rfl
theorem gL_sL (h : Hp) (a k : Nat) (v : Int64) (b j : Nat) : gL (sL h a k v) b j = if b = a ∧ j = k then v else gL h b j := rfl
theorem gL_sA (h : Hp) (a : Nat) (f : Nat → Int32) (b j : Nat) : gL (sA h a f) b j = gL h b j := rfl
/-! the world that a pure picture stands for: g = the tables' classes, the array classes, where the cells lie -/
abbrev Gp : Type := va_G × (Nat → ClassId) × (Nat → Nat)
def rv (A : Nat → Nat) (v : Value) : Value := match v with
  | .ref k => .ref (A k)
  | w => w
def fv (A : Nat → Nat) (h : Hp) (ci a k : Nat) : Value := match fk ci k with
  | 0 => .int (gI h a k)
  | 1 => .ref (A (rf a k))
  | 2 => va_rf ((gR h a k).map A)
  | _ => .long (gL h a k)
def ce (g : Gp) (h : Hp) (a : Nat) : va_E := match (sh a).1 with
  | 0 => .inr ((sh a).2.1, (List.range (sh a).2.2).map (fv g.2.2 h (sh a).2.1 a))
  | 1 => .inl (g.2.1 (sh a).2.1, (sh a).2.2, .inl (gI h a))
  | _ => .inl (g.2.1 (sh a).2.1, (sh a).2.2, .inr (.inr (.inr (.inr (fun j => some (g.2.2 (rf a j)))))))
def wl (g : Gp) (h : Hp) : va_W := (List.range NN).map (fun a => (g.2.2 a, ce g h a))
def tysL (g : Gp) : List (ClassId × FieldType) := [(g.2.1 0, .int), (g.2.1 1, .byte), (g.2.1 2, .boolean), (g.2.1 3, .array .int), (g.2.1 4, .object "ChainedMen$Course")]
def AS (g : Gp) : Nat → Prop := fun q => ∃ k : Nat, k < NN ∧ q = g.2.2 k
theorem sh_lt {a : Nat} (h : (sh a).1 ≠ 9) : a < NN := by
  rcases Nat.lt_or_ge a NN with q | q
  · exact q
  · exfalso
    apply h
    unfold sh
    rw [List.getD_eq_getElem?_getD, List.getElem?_eq_none (by exact q)]
    rfl
theorem sh_l {a k x n : Nat} (hs : sh a = (k, x, n)) (hk : k ≠ 9) : a < NN := sh_lt (by rw [hs]; exact hk)
theorem wl_at (g : Gp) (h : Hp) {a : Nat} (ha : a < NN) : (wl g h)[a]? = some (g.2.2 a, ce g h a) := by
  unfold wl
  rw [List.getElem?_map, List.getElem?_range ha]
  rfl
theorem wl_len (g : Gp) (h : Hp) : (wl g h).length = NN := by simp [wl]
theorem wl_set (g : Gp) {h h' : Hp} {a : Nat} {e : va_E} (ha : a < NN) (he : ce g h' a = e) (ho : ∀ b, b ≠ a → ce g h' b = ce g h b) : (wl g h).set a (g.2.2 a, e) = wl g h' := by
  apply List.ext_getElem?
  intro i
  rw [List.getElem?_set]
  by_cases hi : a = i
  · subst hi
    rw [if_pos rfl, if_pos (by rw [wl_len]; exact ha), wl_at g h' ha, he]
  · rw [if_neg hi]
    rcases Nat.lt_or_ge i NN with q | q
    · rw [wl_at g h q, wl_at g h' q, ho i (fun z => hi z.symm)]
    · rw [List.getElem?_eq_none (by rw [wl_len]; exact q), List.getElem?_eq_none (by rw [wl_len]; exact q)]
theorem wl_D (g : Gp) {h h' : Hp} {A : Nat → Prop} (hD : va_D A (wl g h)) : va_D A (wl g h') := by
  have key : ∀ (i : Nat) (p : Nat × va_E), (wl g h')[i]? = some p → ∃ q : Nat × va_E, (wl g h)[i]? = some q ∧ q.1 = p.1 := by
    intro i p hp
    have hi : i < NN := by rw [← wl_len g h']; exact (List.getElem?_eq_some_iff.mp hp).1
    rw [wl_at g h' hi] at hp
    cases hp
    exact ⟨_, wl_at g h hi, rfl⟩
  refine ⟨fun i j p q hp hq e => ?_, fun k q hq => ?_⟩
  · obtain ⟨p', h1, h2⟩ := key i p hp
    obtain ⟨q', h3, h4⟩ := key j q hq
    exact hD.1 i j p' q' h1 h3 (by rw [h2, h4]; exact e)
  · obtain ⟨q', h1, h2⟩ := key k q hq
    rw [← h2]
    exact hD.2 k q' h1
theorem ce_obj {g : Gp} {h : Hp} {a ci n : Nat} (hs : sh a = (0, ci, n)) : ce g h a = .inr (ci, (List.range n).map (fv g.2.2 h ci a)) := by
  unfold ce
  rw [hs]
  rfl
theorem ce_arr {g : Gp} {h : Hp} {a t n : Nat} (hs : sh a = (1, t, n)) : ce g h a = .inl (g.2.1 t, n, .inl (gI h a)) := by
  unfold ce
  rw [hs]
  rfl
theorem ce_ref {g : Gp} {h : Hp} {a t n : Nat} (hs : sh a = (2, t, n)) : ce g h a = .inl (g.2.1 t, n, .inr (.inr (.inr (.inr (fun j => some (g.2.2 (rf a j))))))) := by
  unfold ce
  rw [hs]
  rfl
theorem ce_eq {g : Gp} {h h' : Hp} {b : Nat} (h1 : ∀ j, gI h' b j = gI h b j) (h2 : ∀ j, gR h' b j = gR h b j) (h3 : ∀ j, gL h' b j = gL h b j) : ce g h' b = ce g h b := by
  have e1 : gI h' b = gI h b := funext h1
  have e2 : fv g.2.2 h' (sh b).2.1 b = fv g.2.2 h (sh b).2.1 b := by
    funext k
    unfold fv
    rw [h1, h2, h3]
  unfold ce
  rw [e1, e2]
theorem fv_set {A : Nat → Nat} {h h' : Hp} {ci a n k : Nat} {v : Value} (hk : k < n) (hv : fv A h' ci a k = v) (ho : ∀ j, j ≠ k → fv A h' ci a j = fv A h ci a j) : ((List.range n).map (fv A h ci a)).set k v = (List.range n).map (fv A h' ci a) := by
  apply List.ext_getElem?
  intro i
  rw [List.getElem?_set]
  by_cases hi : k = i
  · subst hi
    rw [if_pos rfl, if_pos (by simp; exact hk), List.getElem?_map, List.getElem?_range hk]
    simp [hv]
  · rw [if_neg hi, List.getElem?_map, List.getElem?_map]
    rcases Nat.lt_or_ge i n with q | q
    · rw [List.getElem?_range q]
      simp [ho i (fun z => hi z.symm)]
    · rw [List.getElem?_eq_none (by simp; exact q)]
      rfl
theorem fv_at {A : Nat → Nat} {h : Hp} {ci a n k : Nat} (hk : k < n) : ((List.range n).map (fv A h ci a))[k]? = some (fv A h ci a k) := by
  rw [List.getElem?_map, List.getElem?_range hk]
  rfl
/-! static tables of the class -/
def stN (j : Nat) : String := (["WEIGHT", "PARENT", "WAYS_OF"] : List String).getD j ""
def stL : List (List Int32) := [[1728, 144, 12, 1], [0, 0, 0, 0, 2, 3], [15, 15, 0, 10, 0, 10]]
def stv (j i : Nat) : Int32 := (stL.getD j []).getD i 0
def stn (j : Nat) : Nat := (stL.getD j []).length
def Stat (g : Gp) (U : State) (H : Heap) : Prop := ∀ j : Nat, j < 3 → va_Z "ChainedMen" (stN j) "[I" (.ref (g.2.2 (NN + j))) (AS g) U H ∧ va_T .int (g.2.2 (NN + j)) (stn j) (fun i => .int (stv j i)) (AS g) U H
def nestL : List Cond := [.fieldLinkNest RX2 37 "ChainedMen" "WAYS_OF" "[I" "ChainedMen", .fieldLinkNest RX2 54 "ChainedMen" "WEIGHT" "[I" "ChainedMen", .fieldLinkNest RX3 82 "ChainedMen" "WEIGHT" "[I" "ChainedMen", .fieldLinkNest RX6 56 "ChainedMen" "PARENT" "[I" "ChainedMen", .fieldLinkNest RX6 59 "ChainedMen" "WEIGHT" "[I" "ChainedMen", .methodLinkNest RX7 285 yX5_arrange "ChainedMen", .methodLinkNest RX2 44 yX7_cellOf "ChainedMen"]
def Nst (U : State) : Prop := ∀ w ∈ nestL, va_Nw w U
theorem Nst.warm {s U : State} (hW : s.WarmedH U.vm) (h : Nst s) : Nst U := by
  intro w hw
  have h1 := h w hw
  simp only [nestL, List.mem_cons, List.not_mem_nil, or_false] at hw
  rcases hw with rfl | rfl | rfl | rfl | rfl | rfl | rfl
  · exact va_Nw.warmF hW h1
  · exact va_Nw.warmF hW h1
  · exact va_Nw.warmF hW h1
  · exact va_Nw.warmF hW h1
  · exact va_Nw.warmF hW h1
  · exact va_Nw.warmM hW h1
  · exact va_Nw.warmM hW h1
theorem Nst.same {s U : State} (hv : s.vm = U.vm) (h : Nst s) : Nst U := by
  intro w hw
  have h1 := h w hw
  simp only [nestL, List.mem_cons, List.not_mem_nil, or_false] at hw
  rcases hw with rfl | rfl | rfl | rfl | rfl | rfl | rfl <;> exact va_Nw.same rfl hv h1
theorem Stat.moved {g : Gp} {u U : State} {H : Heap} (hvm : u.vm.Alike U.vm) (h : Stat g u H) : Stat g U H := fun j hj => ⟨va_Z.moved hvm (h j hj).1, va_T.moved hvm (h j hj).2⟩
theorem Stat.kept {g : Gp} {U : State} {H H1 : Heap} (h : Stat g U H) (hq : ∀ a : Nat, a < H.size → ¬ AS g a → H1[a]? = H[a]?) : Stat g U H1 := fun j hj => ⟨va_Z.kept (h j hj).1 hq, va_T.kept (h j hj).2 hq⟩
def Wd (g : Gp) (h : Hp) (U : State) (H : Heap) : Prop := va_P g.1 vwCl (wl g h) H ∧ va_K g.1 vwCl (tysL g) U ∧ va_D (AS g) (wl g h) ∧ Stat g U H ∧ Nst U
/-! words -/
def gt : List Cond := lw_tbl.filter goodWord
theorem gt_good {ws : List Cond} (h : ∀ w ∈ ws, w ∈ gt) : GoodIn gt ws := fun w hw => ⟨h w hw, good_of_word (List.mem_filter.mp (h w hw)).2⟩
theorem gt_in {w : Cond} (i : Nat) (h : lw_tbl[i]? = some w) (hg : goodWord w = true) : w ∈ gt := List.mem_filter.mpr ⟨List.mem_of_getElem? h, hg⟩
/-! a method: its name, code, locals, what it returns -/
abbrev Yd : Type := MethodName × ByteArray × Nat × Option FieldType
def rm (n : Nat) : Room := { frames := n, cells := 0, slots := 0, locals := 40 * n }
def wsY (Y : Yd) : List Cond := .code Y.1 Y.2.1 Y.2.2.1 Y.2.2.2 :: gt
/-- an end: what is returned, the picture then -/
abbrev To : Type := Option Value × Hp
def Qx (g : Gp) (T : To) : Array Value → State → Outcome → State → Prop := fun _ st o t => (o = .returned (T.1.map (rv g.2.2)) ∧ va_P g.1 vwCl (wl g T.2) t.heap) ∧ va_F (AS g) st t
/-- A METHOD'S CONTRACT: called with As over the picture h it comes to the end T -/
def MetP (Y : Yd) (lv : Nat) (As : List Value) (h : Hp) (T : To) : Prop := ∀ (l : Launch) (g : Gp), Met l Y.1 (wsY Y) (rm lv) (va_Pc (As.map (rv g.2.2)) (fun U => Wd g h U U.heap)) (Qx g T) 0 0 (AS g)
/-! locals: by place -/
def lvm (A : Nat → Nat) : Nat → List (Option Value) → List (Nat × Value)
  | _, [] => []
  | i, none :: L => lvm A (i + 1) L
  | i, some v :: L => (i, rv A v) :: lvm A (i + 1) L
theorem lvm_mem {A : Nat → Nat} : ∀ (L : List (Option Value)) (i j : Nat) (v : Value), L[j]? = some (some v) → (i + j, rv A v) ∈ lvm A i L
  | [], i, j, v, h => by simp at h
  | o :: L, i, 0, v, h => by
    simp only [List.getElem?_cons_zero, Option.some.injEq] at h
    subst h
    exact List.mem_cons_self
  | o :: L, i, j + 1, v, h => by
    have h1 := lvm_mem (A := A) L (i + 1) j v (by simpa using h)
    have e : i + 1 + j = i + (j + 1) := by omega
    rw [e] at h1
    cases o with
    | none => exact h1
    | some w => exact List.mem_cons_of_mem _ h1
theorem lvm_of {A : Nat → Nat} : ∀ (L : List (Option Value)) (i : Nat) (q : Nat × Value), q ∈ lvm A i L → ∃ (j : Nat) (v : Value), L[j]? = some (some v) ∧ q = (i + j, rv A v)
  | [], i, q, h => by cases h
  | none :: L, i, q, h => by
    obtain ⟨j, v, h1, h2⟩ := lvm_of L (i + 1) q h
    exact ⟨j + 1, v, by simpa using h1, by rw [h2]; congr 1; omega⟩
  | some w :: L, i, q, h => by
    rcases List.mem_cons.mp h with h | h
    · exact ⟨0, w, rfl, h⟩
    · obtain ⟨j, v, h1, h2⟩ := lvm_of L (i + 1) q h
      exact ⟨j + 1, v, by simpa using h1, by rw [h2]; congr 1; omega⟩
def clr : Option Value → Option Value
  | some (.long _) => none
  | some (.double _) => none
  | o => o
/-- a value of one slot is stored -/
def lst : Nat → Value → List (Option Value) → List (Option Value)
  | 0, v, _ :: L => some v :: L
  | 1, v, o :: _ :: L => clr o :: some v :: L
  | i + 2, v, o :: L => o :: lst (i + 1) v L
  | _, _, _ => []
/-- a value of two slots is stored -/
def lst2 : Nat → Value → List (Option Value) → List (Option Value)
  | 0, v, _ :: _ :: L => some v :: none :: L
  | 1, v, o :: _ :: _ :: L => clr o :: some v :: none :: L
  | i + 2, v, o :: L => o :: lst2 (i + 1) v L
  | _, _, _ => []
theorem clr_some {o : Option Value} {w : Value} (h : clr o = some w) : o = some w ∧ w.category = 1 := by
  cases o with
  | none => cases h
  | some x => cases x <;> simp [clr] at h <;> (subst h; exact ⟨rfl, rfl⟩)
theorem lst_at : ∀ (i : Nat) (v : Value) (L : List (Option Value)) (j : Nat) (w : Value), (lst i v L)[j]? = some (some w) → (j = i ∧ w = v) ∨ (j ≠ i ∧ L[j]? = some (some w) ∧ ¬ (j + 1 = i ∧ w.category = 2))
  | 0, v, [], j, w, h => by simp [lst] at h
  | 0, v, _ :: L, j, w, h => by
    cases j with
    | zero => exact Or.inl ⟨rfl, by simpa [lst] using h.symm⟩
    | succ j => exact Or.inr ⟨by omega, by simpa [lst] using h, by omega⟩
  | 1, v, [], j, w, h => by simp [lst] at h
  | 1, v, [o], j, w, h => by simp [lst] at h
  | 1, v, o :: _ :: L, j, w, h => by
    match j with
    | 0 =>
      obtain ⟨h1, h2⟩ := clr_some (o := o) (w := w) (by simpa [lst] using h)
      exact Or.inr ⟨by omega, by simp [h1], by omega⟩
    | 1 => exact Or.inl ⟨rfl, by simpa [lst] using h.symm⟩
    | j + 2 => exact Or.inr ⟨by omega, by simpa [lst] using h, by omega⟩
  | i + 2, v, [], j, w, h => by simp [lst] at h
  | i + 2, v, o :: L, j, w, h => by
    cases j with
    | zero => exact Or.inr ⟨by omega, by simpa [lst] using h, by omega⟩
    | succ j =>
      have h1 := lst_at (i + 1) v L j w (by simpa [lst] using h)
      rcases h1 with ⟨a, b⟩ | ⟨a, b, c⟩
      · exact Or.inl ⟨by omega, b⟩
      · exact Or.inr ⟨by omega, by simpa using b, by omega⟩
theorem lst2_at : ∀ (i : Nat) (v : Value) (L : List (Option Value)) (j : Nat) (w : Value), (lst2 i v L)[j]? = some (some w) → (j = i ∧ w = v) ∨ (j ≠ i ∧ j ≠ i + 1 ∧ L[j]? = some (some w) ∧ ¬ (j + 1 = i ∧ w.category = 2))
  | 0, v, [], j, w, h => by simp [lst2] at h
  | 0, v, [o], j, w, h => by simp [lst2] at h
  | 0, v, _ :: _ :: L, j, w, h => by
    match j with
    | 0 => exact Or.inl ⟨rfl, by simpa [lst2] using h.symm⟩
    | 1 => simp [lst2] at h
    | j + 2 => exact Or.inr ⟨by omega, by omega, by simpa [lst2] using h, by omega⟩
  | 1, v, [], j, w, h => by simp [lst2] at h
  | 1, v, [o], j, w, h => by simp [lst2] at h
  | 1, v, [o, p], j, w, h => by simp [lst2] at h
  | 1, v, o :: _ :: _ :: L, j, w, h => by
    match j with
    | 0 =>
      obtain ⟨h1, h2⟩ := clr_some (o := o) (w := w) (by simpa [lst2] using h)
      exact Or.inr ⟨by omega, by omega, by simp [h1], by omega⟩
    | 1 => exact Or.inl ⟨rfl, by simpa [lst2] using h.symm⟩
    | 2 => simp [lst2] at h
    | j + 3 => exact Or.inr ⟨by omega, by omega, by simpa [lst2] using h, by omega⟩
  | i + 2, v, [], j, w, h => by simp [lst2] at h
  | i + 2, v, o :: L, j, w, h => by
    cases j with
    | zero => exact Or.inr ⟨by omega, by omega, by simpa [lst2] using h, by omega⟩
    | succ j =>
      have h1 := lst2_at (i + 1) v L j w (by simpa [lst2] using h)
      rcases h1 with ⟨a, b⟩ | ⟨a, b, c, d⟩
      · exact Or.inl ⟨by omega, b⟩
      · exact Or.inr ⟨by omega, by omega, by simpa using c, by omega⟩
theorem rv_cat (A : Nat → Nat) (v : Value) : (rv A v).category = v.category := by cases v <;> rfl
/-- where the machine's locals hold L -/
def Lv (A : Nat → Nat) (ls : Array Slot) (n : Nat) (L : List (Option Value)) : Prop := lv_has ls n (lvm A 0 L)
theorem Lv.get {A : Nat → Nat} {ls : Array Slot} {n i : Nat} {L : List (Option Value)} {v : Value} (h : Lv A ls n L) (hi : L[i]? = some (some v)) : ls[i]? = some (.val (rv A v)) := by
  have h1 := h.2.2 _ (lvm_mem (A := A) L 0 i v hi)
  rw [Nat.zero_add] at h1
  exact h1
theorem Lv.less {A : Nat → Nat} {ls : Array Slot} {n : Nat} {L L' : List (Option Value)} (h : Lv A ls n L) (hl : ∀ (i : Nat) (v : Value), L'[i]? = some (some v) → L[i]? = some (some v)) : Lv A ls n L' := by
  refine ⟨h.1, h.2.1, fun q hq => ?_⟩
  obtain ⟨j, v, h1, rfl⟩ := lvm_of L' 0 q hq
  rw [Nat.zero_add]
  exact h.get (hl j v h1)
theorem Lv.put {A : Nat → Nat} {ls' : Array Slot} {n i : Nat} {v : Value} {L : List (Option Value)} (h' : lv_has ls' n ((i, rv A v) :: (lvm A 0 L).filter (fun q => !(q.1 == i) && !(q.1 + 1 == i && q.2.category == 2)))) : Lv A ls' n (lst i v L) := by
  refine ⟨h'.1, h'.2.1, fun q hq => ?_⟩
  obtain ⟨j, w, h1, rfl⟩ := lvm_of _ 0 q hq
  rw [Nat.zero_add]
  apply h'.2.2 (j, rv A w)
  rcases lst_at i v L j w h1 with ⟨rfl, rfl⟩ | ⟨h2, h3, h4⟩
  · exact List.mem_cons_self
  · refine List.mem_cons_of_mem _ (List.mem_filter.mpr ⟨?_, ?_⟩)
    · have h5 := lvm_mem (A := A) L 0 j w h3
      rw [Nat.zero_add] at h5
      exact h5
    · have e : ¬ (j + 1 = i ∧ (rv A w).category = 2) := by rw [rv_cat]; exact h4
      simp only [Bool.and_eq_true, Bool.not_eq_true', beq_eq_false_iff_ne, ne_eq, Bool.and_eq_false_iff]
      refine ⟨h2, ?_⟩
      by_cases q : j + 1 = i
      · exact Or.inr (fun z => e ⟨q, z⟩)
      · exact Or.inl q
theorem Lv.put2 {A : Nat → Nat} {ls' : Array Slot} {n i : Nat} {v : Value} {L : List (Option Value)} (h' : lv_has ls' n ((i, rv A v) :: (lvm A 0 L).filter (fun q => !(q.1 == i) && (!(q.1 == i + 1) && !(q.1 + 1 == i && q.2.category == 2))))) : Lv A ls' n (lst2 i v L) := by
  refine ⟨h'.1, h'.2.1, fun q hq => ?_⟩
  obtain ⟨j, w, h1, rfl⟩ := lvm_of _ 0 q hq
  rw [Nat.zero_add]
  apply h'.2.2 (j, rv A w)
  rcases lst2_at i v L j w h1 with ⟨rfl, rfl⟩ | ⟨h2, h2b, h3, h4⟩
  · exact List.mem_cons_self
  · refine List.mem_cons_of_mem _ (List.mem_filter.mpr ⟨?_, ?_⟩)
    · have h5 := lvm_mem (A := A) L 0 j w h3
      rw [Nat.zero_add] at h5
      exact h5
    · have e : ¬ (j + 1 = i ∧ (rv A w).category = 2) := by rw [rv_cat]; exact h4
      simp only [Bool.and_eq_true, Bool.not_eq_true', beq_eq_false_iff_ne, ne_eq, Bool.and_eq_false_iff]
      refine ⟨h2, h2b, ?_⟩
      by_cases q : j + 1 = i
      · exact Or.inr (fun z => e ⟨q, z⟩)
      · exact Or.inl q
