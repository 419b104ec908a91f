/-! order: what the best order is -/
theorem badf_has {j dp : Nat} : ∀ (Q : List (Nat × Nat)) (E : List Ent) (q : Nat × Nat), q ∈ Q → ∃ e, e ∈ Q.foldl (bad1 j dp) E ∧ e.1 = q.1
  | [], _, q, h => absurd h (List.not_mem_nil)
  | p :: Q, E, q, h => by
    rw [List.foldl_cons]
    rcases List.mem_cons.mp h with rfl | h
    · have h1 : ∃ e, e ∈ bad1 j dp E q ∧ e.1 = q.1 := by
        by_cases z : ∃ e, e ∈ E ∧ e.1 = q.1
        · rw [bad1_y z]; exact z
        · rw [bad1_n z]
          exact ⟨_, List.mem_append_right _ List.mem_cons_self, rfl⟩
      obtain ⟨e, h2, h3⟩ := h1
      obtain ⟨L, hL⟩ := badf_pre j dp Q (bad1 j dp E q)
      exact ⟨e, by rw [hL]; exact List.mem_append_left _ h2, h3⟩
    · exact badf_has Q _ q h
section CLOSE
variable {Y : YS} {t op s s' : Nat}
theorem bfin_cl (W : YW Y) (S : SW Y s) {e : Ent} {q : Nat × Nat} (he : e ∈ bfin Y t op s) (hq : q ∈ lds Y t op e.1) : ∃ e', e' ∈ bfin Y t op s ∧ e'.1 = q.1 := by
  obtain ⟨j, hj⟩ := List.mem_iff_getElem?.mp he
  have hl := get_lt hj
  have h1 : j < (brun Y t op s j).length := by
    rcases Nat.lt_or_ge j (brun Y t op s j).length with z | z
    · exact z
    · rw [bfin_end W S z] at hl
      omega
  obtain ⟨L, hL⟩ := bfin_pre (t := t) (op := op) W S j
  rw [hL, pre_get h1] at hj
  obtain ⟨L2, hL2⟩ := bfin_pre (t := t) (op := op) W S (j + 1)
  have hb : brun Y t op s (j + 1) = (lds Y t op e.1).foldl (bad1 j e.2.1) (brun Y t op s j) := by rw [brun_s, bexp_y hj]
  obtain ⟨e', h2, h3⟩ := badf_has (j := j) (dp := e.2.1) (lds Y t op e.1) (brun Y t op s j) q hq
  exact ⟨e', by rw [hL2, hb]; exact List.mem_append_left _ h2, h3⟩
theorem badf_P {P : Nat → Prop} {j dp : Nat} : ∀ (Q : List (Nat × Nat)) (E : List Ent), (∀ e, e ∈ E → P e.1) → (∀ q, q ∈ Q → P q.1) → ∀ e, e ∈ Q.foldl (bad1 j dp) E → P e.1
  | [], _, h, _, e, he => h e he
  | p :: Q, E, h, hQ, e, he => by
    rw [List.foldl_cons] at he
    refine badf_P Q _ (fun x hx => ?_) (fun q hq => hQ q (List.mem_cons_of_mem _ hq)) e he
    by_cases z : ∃ e, e ∈ E ∧ e.1 = p.1
    · rw [bad1_y z] at hx; exact h x hx
    · rw [bad1_n z] at hx
      rcases List.mem_append.mp hx with hx | hx
      · exact h x hx
      · rw [List.mem_singleton.mp hx]; exact hQ p List.mem_cons_self
theorem brun_P {P : Nat → Prop} (h0 : P s) (hc : ∀ x, P x → ∀ q, q ∈ lds Y t op x → P q.1) : ∀ k e, e ∈ brun Y t op s k → P e.1
  | 0, e, he => by
    have : e = (s, 0, 0, 0) := List.mem_singleton.mp he
    rw [this]; exact h0
  | k + 1, e, he => by
    rw [brun_s] at he
    cases z : (brun Y t op s k)[k]? with
    | none => rw [bexp_n z] at he; exact brun_P h0 hc k e he
    | some x =>
      rw [bexp_y z] at he
      have hx := brun_P h0 hc k x (List.mem_of_getElem? z)
      exact badf_P _ _ (brun_P h0 hc k) (fun q hq => hc x.1 hx q hq) e he
theorem bfin_sub (W : YW Y) (S : SW Y s) (h : ∃ e, e ∈ bfin Y t op s ∧ e.1 = s') : ∀ e, e ∈ bfin Y t op s' → ∃ e', e' ∈ bfin Y t op s ∧ e'.1 = e.1 := by
  intro e he
  exact brun_P (P := fun x => ∃ e', e' ∈ bfin Y t op s ∧ e'.1 = x) h (fun x ⟨e', h1, h2⟩ q hq => bfin_cl W S h1 (by rw [h2]; exact hq)) 11880 e he
end CLOSE
theorem nst_mem {i c : Nat} : ∀ (L : List Ent) (a : Option Ent) (b : Ent), L.foldl (nfs i c) a = some b → b ∈ L ∨ a = some b
  | [], a, b, h => Or.inr h
  | e :: L, a, b, h => by
    rw [List.foldl_cons] at h
    rcases nst_mem L _ b h with z | z
    · exact Or.inl (List.mem_cons_of_mem _ z)
    · by_cases q : dg e.1 i = c
      · cases a with
        | none => rw [nfs_new q] at z; cases z; exact Or.inl List.mem_cons_self
        | some b' =>
          rw [nfs_old q] at z
          split at z
          · cases z; exact Or.inl List.mem_cons_self
          · exact Or.inr z
      · rw [nfs_no q] at z; exact Or.inr z
theorem nst_dg {i c : Nat} : ∀ (L : List Ent) (a : Option Ent) (b : Ent), (∀ x, a = some x → dg x.1 i = c) → L.foldl (nfs i c) a = some b → dg b.1 i = c
  | [], a, b, ha, h => ha b h
  | e :: L, a, b, ha, h => by
    rw [List.foldl_cons] at h
    refine nst_dg L _ b (fun x hx => ?_) h
    by_cases q : dg e.1 i = c
    · cases a with
      | none => rw [nfs_new q] at hx; cases hx; exact q
      | some b' =>
        rw [nfs_old q] at hx
        split at hx
        · cases hx; exact q
        · exact ha x hx
    · rw [nfs_no q] at hx; exact ha x hx
theorem nst_some {i c : Nat} : ∀ (L : List Ent) (a : Option Ent), (a.isSome = true ∨ ∃ e, e ∈ L ∧ dg e.1 i = c) → (L.foldl (nfs i c) a).isSome = true
  | [], a, h => by
    rcases h with h | ⟨e, he, _⟩
    · exact h
    · exact absurd he List.not_mem_nil
  | e :: L, a, h => by
    rw [List.foldl_cons]
    apply nst_some L
    by_cases q : dg e.1 i = c
    · left
      cases a with
      | none => rw [nfs_new q]; rfl
      | some b => rw [nfs_old q]; split <;> rfl
    · rcases h with h | ⟨x, hx, hx2⟩
      · left; rw [nfs_no q]; exact h
      · rcases List.mem_cons.mp hx with rfl | hx
        · exact absurd hx2 q
        · exact Or.inr ⟨x, hx, hx2⟩
/-- what holds of the nearest stands: N s w for the stands of V -/
def Nok (V : Nat → Prop) (N : Nat → Nat → Option Ent) : Prop := ∀ s k b, V s → N s k = some b → V b.1 ∧ b.2.1 ≤ 11880 ∧ ∀ w, (N b.1 w).isSome = true → (N s w).isSome = true
theorem nwt_ok {Y : YS} {t op : Nat} {c : Nat → Nat} (W : YW Y) : Nok (SW Y) (nwt Y t op c) := by
  intro s k b S h
  obtain ⟨bk, -, hlen⟩ := bfin_ok (t := t) (op := op) W S
  have hm : b ∈ bfin Y t op s := by
    rcases nst_mem _ none b h with z | z
    · exact z
    · cases z
  obtain ⟨p, hp⟩ := List.mem_iff_getElem?.mp hm
  have := bk.dep p b hp
  have := get_lt hp
  have Sb := (bk.1 b hm).1
  refine ⟨Sb, by omega, fun w hw => ?_⟩
  cases e : nwt Y t op c b.1 w with
  | none => rw [e] at hw; cases hw
  | some x =>
    have hx : x ∈ bfin Y t op b.1 := by
      rcases nst_mem _ none x e with z | z
      · exact z
      · cases z
    have hd := nst_dg _ none x (fun _ z => by cases z) e
    obtain ⟨x', h1, h2⟩ := bfin_sub (t := t) (op := op) W S ⟨b, hm, rfl⟩ x hx
    exact nst_some _ none (Or.inr ⟨x', h1, by rw [h2]; exact hd⟩)
abbrev Bst : Type := Option (Nat × Nat × List Nat)
def btr (met st : Nat) (acc : Bst) : Bool := match acc with
  | none => true
  | some x => decide (x.1 < met) || (decide (met = x.1) && decide (st < x.2.1))
def ofr (acc : Bst) (met st : Nat) (L : List Nat) : Bst := if btr met st acc = true then some (met, st, L) else acc
def asc (m left : Nat) : List Nat := (List.range m).filter (fun w => left.testBit w)
def clw (left w : Nat) : Nat := left - (if left.testBit w = true then 2 ^ w else 0)
/-- the model's way -/
def mA (N : Nat → Nat → Option Ent) (m : Nat) : Nat → List Nat → Nat → Nat → Nat → Bst → Bst
  | 0, pre, _, _, st, acc => ofr acc pre.length st pre
  | r + 1, pre, left, s, st, acc => (List.range m).foldl (fun acc k => if left.testBit k = true then (match N s k with
      | some b => mA N m r (pre ++ [k]) (clw left k) b.1 (st + b.2.1) acc
      | none => ofr acc pre.length st (pre ++ [k] ++ asc m (clw left k))) else acc) acc
def abl (N : Nat → Nat → Option Ent) (m left hope s : Nat) : Nat := bts (fun w => left.testBit w && hope.testBit w && (N s w).isSome) m
/-- the class's way -/
def cA (N : Nat → Nat → Option Ent) (m : Nat) : Nat → List Nat → Nat → Nat → Nat → Nat → Bst → Bst
  | 0, pre, _, _, _, st, acc => ofr acc pre.length st pre
  | r + 1, pre, left, hope, s, st, acc => if btr (pre.length + pcn (abl N m left hope s)) st acc = true then (List.range m).foldl (fun acc k => if (abl N m left hope s).testBit k = true then (match N s k with
      | some b => cA N m r (pre ++ [k]) (clw left k) (abl N m left hope s) b.1 (st + b.2.1) acc
      | none => acc) else if left.testBit k = true then ofr acc pre.length st (pre ++ [k] ++ asc m (clw left k)) else acc) acc else acc
theorem clw_tb {left w : Nat} (h : left < 32) (hw : w < 5) : ∀ j, (clw left w).testBit j = (left.testBit j && !decide (j = w)) := by
  have f : alN 32 (fun l => alN 5 fun w => alN 6 fun j => decide ((clw l w).testBit j = (l.testBit j && !decide (j = w)))) = true := by decide +kernel
  have g : alN 32 (fun l => alN 5 fun w => decide (clw l w < 32)) = true := by decide +kernel
  intro j
  by_cases q : j < 6
  · exact of_decide_eq_true (alN_get (alN_get (alN_get f h) hw) q)
  · have h1 : clw left w < 2 ^ 5 := of_decide_eq_true (alN_get (alN_get g h) hw)
    rw [tb_hi h1 (by omega), tb_hi (k := 5) h (by omega)]
    rfl
theorem clw_lt {left w : Nat} (h : left < 32) : clw left w < 32 := by
  unfold clw
  omega
theorem clw_no {left w : Nat} (h : left.testBit w = false) : clw left w = left := by
  unfold clw
  rw [if_neg (by rw [h]; decide)]; rfl
theorem fold_id {α : Type} {f : α → Nat → α} {a : α} : ∀ (L : List Nat), (∀ k, k ∈ L → f a k = a) → L.foldl f a = a
  | [], _ => rfl
  | k :: L, h => by
    rw [List.foldl_cons, h k List.mem_cons_self]
    exact fold_id L (fun x hx => h x (List.mem_cons_of_mem _ hx))
theorem fold_cg {α : Type} {f g : α → Nat → α} : ∀ (L : List Nat) (a : α), (∀ k, k ∈ L → ∀ a, f a k = g a k) → L.foldl f a = L.foldl g a
  | [], _, _ => rfl
  | k :: L, a, h => by
    rw [List.foldl_cons, List.foldl_cons, h k List.mem_cons_self]
    exact fold_cg L _ (fun x hx => h x (List.mem_cons_of_mem _ hx))
theorem cnt_le2 {p q : Nat → Bool} : ∀ {m : Nat}, (∀ j, j < m → p j = true → q j = true) → cnt p m ≤ cnt q m
  | 0, _ => Nat.le_refl _
  | m + 1, h => by
    have ih := cnt_le2 (p := p) (q := q) (m := m) (fun j hj => h j (by omega))
    cases z : p m with
    | true => rw [cnt_s1 z, cnt_s1 (h m (by omega) z)]; omega
    | false =>
      rw [cnt_s0 z]
      cases z2 : q m with
      | true => rw [cnt_s1 z2]; omega
      | false => rw [cnt_s0 z2]; exact ih
theorem cnt_lt2 {p q : Nat → Bool} {k : Nat} : ∀ {m : Nat}, k < m → (∀ j, j < m → p j = true → q j = true) → p k = false → q k = true → cnt p m + 1 ≤ cnt q m
  | m + 1, hk, h, h1, h2 => by
    by_cases e : k = m
    · subst e
      rw [cnt_s0 h1, cnt_s1 h2]
      have := cnt_le2 (p := p) (q := q) (m := k) (fun j hj => h j (by omega))
      omega
    · have ih := cnt_lt2 (p := p) (q := q) (k := k) (m := m) (by omega) (fun j hj => h j (by omega)) h1 h2
      cases z : p m with
      | true => rw [cnt_s1 z, cnt_s1 (h m (by omega) z)]; omega
      | false =>
        rw [cnt_s0 z]
        cases z2 : q m with
        | true => rw [cnt_s1 z2]; omega
        | false => rw [cnt_s0 z2]; exact ih
def acn (N : Nat → Nat → Option Ent) (m left s : Nat) : Nat := cnt (fun w => left.testBit w && (N s w).isSome) m
def Bnd (a st : Nat) (acc : Bst) : Prop := ∃ x, acc = some x ∧ (a < x.1 ∨ a = x.1 ∧ x.2.1 ≤ st)
theorem btr_f {a st : Nat} {acc : Bst} : btr a st acc = false ↔ Bnd a st acc := by
  cases acc with
  | none => exact ⟨fun h => (by cases h), fun ⟨x, h, _⟩ => (by cases h)⟩
  | some x =>
    unfold btr Bnd
    simp only [Bool.or_eq_false_iff, Bool.and_eq_false_iff, decide_eq_false_iff_not]
    constructor
    · rintro ⟨h1, h2⟩
      exact ⟨x, rfl, by omega⟩
    · rintro ⟨y, h1, h2⟩
      cases h1
      omega
theorem Bnd.le {a a' st st' : Nat} {acc : Bst} (h : Bnd a st acc) (h1 : a' ≤ a) (h2 : st ≤ st') : Bnd a' st' acc := by
  obtain ⟨x, e, h3⟩ := h
  exact ⟨x, e, by omega⟩
theorem ofr_id {a st : Nat} {acc : Bst} {L : List Nat} (h : Bnd a st acc) : ofr acc a st L = acc := by
  unfold ofr
  rw [btr_f.mpr h]
  rfl
section ORD
variable {V : Nat → Prop} {N : Nat → Nat → Option Ent} {m : Nat}
/-- nothing behind here is better -/
theorem mA_id (hN : Nok V N) (hm : m ≤ 5) : ∀ (r : Nat) (pre : List Nat) (left s st : Nat) (acc : Bst), left < 32 → V s → Bnd (pre.length + acn N m left s) st acc → mA N m r pre left s st acc = acc
  | 0, pre, left, s, st, acc, _, _, hb => ofr_id (hb.le (by omega) (Nat.le_refl _))
  | r + 1, pre, left, s, st, acc, hl, hs, hb => by
    rw [mA]
    refine fold_id _ (fun k hk => ?_)
    have hk' := List.mem_range.mp hk
    by_cases q : left.testBit k = true
    · rw [if_pos q]
      cases e : N s k with
      | none => exact ofr_id (hb.le (by omega) (Nat.le_refl _))
      | some b =>
        obtain ⟨n1, n2, n3⟩ := hN s k b hs e
        have ct := clw_tb hl (show k < 5 by omega)
        refine mA_id hN hm r (pre ++ [k]) (clw left k) b.1 (st + b.2.1) acc (clw_lt hl) n1 (hb.le ?_ (by omega))
        have := cnt_lt2 (p := fun w => (clw left k).testBit w && (N b.1 w).isSome) (q := fun w => left.testBit w && (N s w).isSome) (k := k) (m := m) hk' (fun j hj hp => by
          simp only [Bool.and_eq_true] at hp ⊢
          have h1 := hp.1
          rw [ct j, Bool.and_eq_true] at h1
          exact ⟨h1.1, n3 j hp.2⟩) (by rw [ct k]; simp) (by rw [q, e]; rfl)
        rw [List.length_append]
        show pre.length + 1 + cnt _ m ≤ pre.length + cnt _ m
        omega
    · rw [if_neg q]
theorem cA_mA (hN : Nok V N) (hm : m ≤ 5) : ∀ (r : Nat) (pre : List Nat) (left hope s st : Nat) (acc : Bst), left < 32 → V s → (∀ w, w < m → left.testBit w = true → (N s w).isSome = true → hope.testBit w = true) → cA N m r pre left hope s st acc = mA N m r pre left s st acc
  | 0, pre, left, hope, s, st, acc, _, _, _ => rfl
  | r + 1, pre, left, hope, s, st, acc, hl, hs, hh => by
    have ab : ∀ w, w < m → (abl N m left hope s).testBit w = (left.testBit w && (N s w).isSome) := by
      intro w hw
      unfold abl
      rw [bts_tb, decide_eq_true hw, Bool.true_and]
      cases z1 : left.testBit w with
      | false => rfl
      | true =>
        cases z2 : (N s w).isSome with
        | false => rw [Bool.and_false, Bool.and_false]
        | true => rw [hh w hw z1 z2]; rfl
    have ac : pcn (abl N m left hope s) = acn N m left s := by
      unfold abl acn
      rw [pcn_bts (by omega)]
      refine cnt_congr (fun w hw => ?_)
      have := ab w hw
      unfold abl at this
      rw [bts_tb, decide_eq_true hw, Bool.true_and] at this
      exact this
    rw [cA]
    by_cases q : btr (pre.length + pcn (abl N m left hope s)) st acc = true
    · rw [if_pos q, mA]
      refine fold_cg _ _ (fun k hk a => ?_)
      have hk' := List.mem_range.mp hk
      rw [ab k hk']
      cases z1 : left.testBit k with
      | false => rfl
      | true =>
        cases e : N s k with
        | none => rfl
        | some b =>
          obtain ⟨n1, n2, n3⟩ := hN s k b hs e
          have ct := clw_tb hl (show k < 5 by omega)
          show cA N m r (pre ++ [k]) (clw left k) (abl N m left hope s) b.1 (st + b.2.1) a = mA N m r (pre ++ [k]) (clw left k) b.1 (st + b.2.1) a
          refine cA_mA hN hm r _ _ _ _ _ a (clw_lt hl) n1 (fun w hw h1 h2 => ?_)
          rw [ct w, Bool.and_eq_true] at h1
          rw [ab w hw, h1.1, n3 w h2]; rfl
    · rw [if_neg q]
      have qf : btr (pre.length + pcn (abl N m left hope s)) st acc = false := by simpa using q
      rw [btr_f, ac] at qf
      exact (mA_id hN hm (r + 1) pre left s st acc hl hs qf).symm
end ORD
