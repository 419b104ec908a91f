/-! the search as lists -/
theorem app_get {α : Type} {E L : List α} {j : Nat} {e : α} (h : E[j]? = some e) : (E ++ L)[j]? = some e := by
  rw [List.getElem?_append_left]
  · exact h
  · exact (List.getElem?_eq_some_iff.mp h).1
theorem get_lt {α : Type} {E : List α} {j : Nat} {e : α} (h : E[j]? = some e) : j < E.length := (List.getElem?_eq_some_iff.mp h).1
theorem lt_get {α : Type} {E : List α} {j : Nat} (h : j < E.length) : ∃ e, E[j]? = some e := ⟨E[j], List.getElem?_eq_getElem h⟩
theorem get_no {α : Type} {E : List α} {j : Nat} (h : E.length ≤ j) : E[j]? = none := List.getElem?_eq_none h
theorem snoc_get {α : Type} {E : List α} {x e : α} {j : Nat} (h : (E ++ [x])[j]? = some e) : E[j]? = some e ∨ (j = E.length ∧ e = x) := by
  rcases Nat.lt_or_ge j E.length with q | q
  · rw [List.getElem?_append_left q] at h
    exact Or.inl h
  · rw [List.getElem?_append_right q] at h
    have h1 := get_lt h
    have h2 : j - E.length = 0 := by
      simp at h1
      omega
    rw [h2] at h
    have h3 : x = e := by simpa using h
    exact Or.inr ⟨by omega, h3.symm⟩
theorem snoc_last {α : Type} {E : List α} {x : α} : (E ++ [x])[E.length]? = some x := by
  rw [List.getElem?_append_right (Nat.le_refl _), Nat.sub_self]
  rfl
theorem pre_get {α : Type} {E L : List α} {j : Nat} (hj : j < E.length) : (E ++ L)[j]? = E[j]? := List.getElem?_append_left hj
theorem any_iff {E : List Ent} {s : Nat} : (E.any (fun e => e.1 == s) = true) ↔ ∃ e, e ∈ E ∧ e.1 = s := by
  rw [List.any_eq_true]
  constructor
  · rintro ⟨e, h1, h2⟩
    exact ⟨e, h1, by simpa using h2⟩
  · rintro ⟨e, h1, h2⟩
    exact ⟨e, h1, by simpa using h2⟩
theorem bad1_y {j dp : Nat} {E : List Ent} {q : Nat × Nat} (h : ∃ e, e ∈ E ∧ e.1 = q.1) : bad1 j dp E q = E := by
  unfold bad1
  rw [if_pos (any_iff.mpr h)]
theorem bad1_n {j dp : Nat} {E : List Ent} {q : Nat × Nat} (h : ¬ ∃ e, e ∈ E ∧ e.1 = q.1) : bad1 j dp E q = E ++ [(q.1, dp + 1, j, q.2)] := by
  unfold bad1
  rw [if_neg (fun z => h (any_iff.mp z))]
theorem bad1_pre (j dp : Nat) (E : List Ent) (q : Nat × Nat) : ∃ L, bad1 j dp E q = E ++ L := by
  by_cases h : ∃ e, e ∈ E ∧ e.1 = q.1
  · exact ⟨[], by rw [bad1_y h, List.append_nil]⟩
  · exact ⟨_, bad1_n h⟩
theorem badf_pre (j dp : Nat) : ∀ (Q : List (Nat × Nat)) (E : List Ent), ∃ L, Q.foldl (bad1 j dp) E = E ++ L
  | [], E => ⟨[], (List.append_nil E).symm⟩
  | q :: Q, E => by
    obtain ⟨L1, h1⟩ := bad1_pre j dp E q
    obtain ⟨L2, h2⟩ := badf_pre j dp Q (bad1 j dp E q)
    exact ⟨L1 ++ L2, by rw [List.foldl_cons, h2, h1, List.append_assoc]⟩
def Bok (Y : YS) (s0 : Nat) (E : List Ent) : Prop := (∀ e, e ∈ E → SW Y e.1 ∧ e.2.2.2 < 64) ∧ (E.map (fun e => e.1)).Nodup ∧ E[0]? = some (s0, 0, 0, 0) ∧ (∀ j e, 0 < j → E[j]? = some e → ∃ o, e.2.2.1 < j ∧ E[e.2.2.1]? = some o ∧ e.2.1 = o.2.1 + 1)
def Bmo (E : List Ent) : Prop := ∀ (i j : Nat) (a b : Ent), i ≤ j → E[i]? = some a → E[j]? = some b → a.2.1 ≤ b.2.1
section BOK
variable {Y : YS} {t op s0 j : Nat} {E : List Ent} {ej : Ent}
theorem Bok.add {q : Nat × Nat} (B : Bok Y s0 E) (hj : E[j]? = some ej) (hq : SW Y q.1 ∧ q.2 < 64) : Bok Y s0 (bad1 j ej.2.1 E q) := by
  by_cases h : ∃ e, e ∈ E ∧ e.1 = q.1
  · rw [bad1_y h]; exact B
  · rw [bad1_n h]
    obtain ⟨b1, b2, b3, b4⟩ := B
    refine ⟨fun e he => ?_, ?_, app_get b3, fun i e hi he => ?_⟩
    · rcases List.mem_append.mp he with he | he
      · exact b1 e he
      · rw [List.mem_singleton.mp he]; exact hq
    · rw [List.map_append, List.nodup_append]
      refine ⟨b2, by simp, fun a ha b hb => ?_⟩
      obtain ⟨e, he, rfl⟩ := List.mem_map.mp ha
      have hb2 : b = q.1 := by simpa using hb
      rw [hb2]
      exact fun z => h ⟨e, he, z⟩
    · rcases snoc_get he with he | ⟨rfl, rfl⟩
      · obtain ⟨o, o1, o2, o3⟩ := b4 i e hi he
        exact ⟨o, o1, app_get o2, o3⟩
      · exact ⟨ej, get_lt hj, app_get hj, rfl⟩
theorem Bok.fold : ∀ (Q : List (Nat × Nat)) (E : List Ent), Bok Y s0 E → E[j]? = some ej → (∀ q, q ∈ Q → SW Y q.1 ∧ q.2 < 64) → Bok Y s0 (Q.foldl (bad1 j ej.2.1) E)
  | [], E, B, _, _ => B
  | q :: Q, E, B, hj, hq => by
    obtain ⟨L, hL⟩ := bad1_pre j ej.2.1 E q
    rw [List.foldl_cons]
    exact Bok.fold Q _ (B.add hj (hq q List.mem_cons_self)) (by rw [hL]; exact app_get hj) (fun r hr => hq r (List.mem_cons_of_mem _ hr))
theorem Bmo.fold : ∀ (Q : List (Nat × Nat)) (E : List Ent) (dp : Nat), Bmo E → (∀ e, e ∈ E → e.2.1 ≤ dp + 1) → Bmo (Q.foldl (bad1 j dp) E) ∧ ∀ e, e ∈ Q.foldl (bad1 j dp) E → e.2.1 ≤ dp + 1
  | [], E, dp, B, h => ⟨B, h⟩
  | q :: Q, E, dp, B, h => by
    rw [List.foldl_cons]
    by_cases p : ∃ e, e ∈ E ∧ e.1 = q.1
    · rw [bad1_y p]; exact Bmo.fold Q E dp B h
    · rw [bad1_n p]
      refine Bmo.fold Q _ dp (fun i k a b hik ha hb => ?_) (fun e he => ?_)
      · rcases snoc_get hb with hb | ⟨rfl, rfl⟩
        · rcases snoc_get ha with ha | ⟨rfl, rfl⟩
          · exact B i k a b hik ha hb
          · have := get_lt hb
            omega
        · rcases snoc_get ha with ha | ⟨rfl, rfl⟩
          · exact h a (List.mem_of_getElem? ha)
          · exact Nat.le_refl _
      · rcases List.mem_append.mp he with he | he
        · exact h e he
        · rw [List.mem_singleton.mp he]; exact Nat.le_refl _
theorem Bok.dep (B : Bok Y s0 E) : ∀ (i : Nat) (e : Ent), E[i]? = some e → e.2.1 ≤ i := by
  intro i
  induction i using Nat.strongRecOn with
  | _ i ih =>
    intro e he
    rcases Nat.eq_zero_or_pos i with rfl | hi
    · have := B.2.2.1
      rw [this] at he
      cases he
      exact Nat.le_refl _
    · obtain ⟨o, o1, o2, o3⟩ := B.2.2.2 i e hi he
      have := ih e.2.2.1 o1 o o2
      omega
theorem Bok.inj (B : Bok Y s0 E) {i k : Nat} {a b : Ent} (ha : E[i]? = some a) (hb : E[k]? = some b) (h : a.1 = b.1) : i = k := by
  have ha2 : (E.map (fun e => e.1))[i]? = some a.1 := by rw [List.getElem?_map, ha]; rfl
  have hb2 : (E.map (fun e => e.1))[k]? = some a.1 := by rw [List.getElem?_map, hb, h]; rfl
  exact (List.getElem?_inj (get_lt ha2) B.2.1).mp (ha2.trans hb2.symm)
theorem Bok.len (B : Bok Y s0 E) (W : YW Y) : E.length ≤ 11880 := by
  have := SW_cnt W B.2.1 (fun s hs => by
    obtain ⟨e, he, rfl⟩ := List.mem_map.mp hs
    exact (B.1 e he).1)
  rw [List.length_map] at this
  exact this
theorem lds_mem {s : Nat} {q : Nat × Nat} (W : YW Y) (S : SW Y s) (h : q ∈ lds Y t op s) : SW Y q.1 ∧ q.2 < 64 := by
  unfold lds at h
  obtain ⟨m, h1, h2⟩ := List.mem_filterMap.mp h
  have hm := List.mem_range.mp h1
  have hn := W.2.2.1
  by_cases p : m / 4 < yn Y
  · rw [if_pos p] at h2
    cases e : aft Y t op s (m / 4) (m % 4) with
    | none => rw [e] at h2; cases h2
    | some s' =>
      rw [e] at h2
      cases h2
      exact ⟨aft_SW W S p (Nat.mod_lt _ (by decide)) e, by show 10 * (m / 4) + m % 4 < 64; omega⟩
  · rw [if_neg p] at h2
    cases h2
theorem brun_s {k : Nat} : brun Y t op s0 (k + 1) = bexp Y t op (brun Y t op s0 k) k := rfl
theorem bexp_y {k : Nat} {e : Ent} (h : E[k]? = some e) : bexp Y t op E k = (lds Y t op e.1).foldl (bad1 k e.2.1) E := by
  unfold bexp
  rw [h]
theorem bexp_n {k : Nat} (h : E[k]? = none) : bexp Y t op E k = E := by
  unfold bexp
  rw [h]
theorem brun_ok (W : YW Y) (S : SW Y s0) : ∀ k, Bok Y s0 (brun Y t op s0 k) ∧ Bmo (brun Y t op s0 k) ∧ ∀ ek, (brun Y t op s0 k)[k]? = some ek → ∀ e, e ∈ brun Y t op s0 k → e.2.1 ≤ ek.2.1 + 1
  | 0 => by
    show Bok Y s0 [(s0, 0, 0, 0)] ∧ Bmo [(s0, 0, 0, 0)] ∧ ∀ ek, [(s0, 0, 0, 0)][0]? = some ek → ∀ e, e ∈ [(s0, 0, 0, 0)] → e.2.1 ≤ ek.2.1 + 1
    refine ⟨⟨fun e he => ?_, by simp, rfl, fun j e hj he => ?_⟩, fun i j a b hij ha hb => ?_, fun ek _ e he => ?_⟩
    · rw [List.mem_singleton.mp he]; exact ⟨S, by show 0 < 64; decide⟩
    · have := get_lt he
      simp at this
      omega
    · have h1 := List.mem_of_getElem? ha
      have h2 := List.mem_of_getElem? hb
      rw [List.mem_singleton.mp h1, List.mem_singleton.mp h2]
      exact Nat.le_refl _
    · rw [List.mem_singleton.mp he]; exact Nat.zero_le _
  | k + 1 => by
    obtain ⟨i1, i2, i3⟩ := brun_ok W S k
    rw [brun_s]
    cases h : (brun Y t op s0 k)[k]? with
    | none =>
      rw [bexp_n h]
      refine ⟨i1, i2, fun ek hk => ?_⟩
      have h1 := get_lt hk
      obtain ⟨e, he⟩ := lt_get (show k < (brun Y t op s0 k).length by omega)
      rw [h] at he
      cases he
    | some e =>
      rw [bexp_y h]
      have hS := (i1.1 e (List.mem_of_getElem? h)).1
      obtain ⟨m1, m2⟩ := Bmo.fold (j := k) (lds Y t op e.1) _ e.2.1 i2 (i3 e h)
      refine ⟨Bok.fold _ _ i1 h (fun q hq => lds_mem W hS hq), m1, fun ek hk f hf => ?_⟩
      obtain ⟨L, hL⟩ := badf_pre k e.2.1 (lds Y t op e.1) (brun Y t op s0 k)
      have h2 : ((lds Y t op e.1).foldl (bad1 k e.2.1) (brun Y t op s0 k))[k]? = some e := by rw [hL]; exact app_get h
      have := m1 k (k + 1) e ek (by omega) h2 hk
      have := m2 f hf
      omega
theorem brun_pre : ∀ (d k : Nat), ∃ L, brun Y t op s0 (k + d) = brun Y t op s0 k ++ L
  | 0, k => ⟨[], (List.append_nil _).symm⟩
  | d + 1, k => by
    obtain ⟨L, hL⟩ := brun_pre d k
    rw [← Nat.add_assoc, brun_s]
    cases h : (brun Y t op s0 (k + d))[k + d]? with
    | none => exact ⟨L, by rw [bexp_n h, hL]⟩
    | some e =>
      obtain ⟨L2, hL2⟩ := badf_pre (k + d) e.2.1 (lds Y t op e.1) (brun Y t op s0 (k + d))
      exact ⟨L ++ L2, by rw [bexp_y h, hL2, hL, List.append_assoc]⟩
theorem brun_stop {k : Nat} (h : (brun Y t op s0 k).length ≤ k) : ∀ d, brun Y t op s0 (k + d) = brun Y t op s0 k
  | 0 => rfl
  | d + 1 => by
    rw [← Nat.add_assoc, brun_s, brun_stop h d, bexp_n (get_no (by omega))]
def bfin (Y : YS) (t op s0 : Nat) : List Ent := brun Y t op s0 11880
theorem bfin_ok (W : YW Y) (S : SW Y s0) : Bok Y s0 (bfin Y t op s0) ∧ Bmo (bfin Y t op s0) ∧ (bfin Y t op s0).length ≤ 11880 := by
  obtain ⟨i1, i2, -⟩ := brun_ok (t := t) (op := op) W S 11880
  exact ⟨i1, i2, i1.len W⟩
theorem bfin_pre (W : YW Y) (S : SW Y s0) (k : Nat) : ∃ L, bfin Y t op s0 = brun Y t op s0 k ++ L := by
  rcases Nat.le_total k 11880 with q | q
  · obtain ⟨L, hL⟩ := brun_pre (Y := Y) (t := t) (op := op) (s0 := s0) (11880 - k) k
    rw [show k + (11880 - k) = 11880 by omega] at hL
    exact ⟨L, hL⟩
  · refine ⟨[], ?_⟩
    have := brun_stop (Y := Y) (t := t) (op := op) (s0 := s0) (k := 11880) (bfin_ok W S).2.2 (k - 11880)
    rw [show 11880 + (k - 11880) = k by omega] at this
    rw [this, List.append_nil]
    rfl
theorem bfin_end (W : YW Y) (S : SW Y s0) {k : Nat} (h : (brun Y t op s0 k).length ≤ k) : bfin Y t op s0 = brun Y t op s0 k := by
  rcases Nat.le_total k 11880 with q | q
  · have := brun_stop h (11880 - k)
    rw [show k + (11880 - k) = 11880 by omega] at this
    exact this
  · have := brun_stop (Y := Y) (t := t) (op := op) (s0 := s0) (k := 11880) (bfin_ok W S).2.2 (k - 11880)
    rw [show 11880 + (k - 11880) = k by omega] at this
    exact this.symm
/-- the first of all that P holds of, or none -/
theorem first_or (P : Nat → Bool) : ∀ (E : List Ent), (∃ (p : Nat) (e : Ent), E[p]? = some e ∧ P e.1 = true ∧ ∀ (j : Nat) (e' : Ent), j < p → E[j]? = some e' → P e'.1 = false) ∨ (∀ (j : Nat) (e' : Ent), E[j]? = some e' → P e'.1 = false)
  | [] => Or.inr (fun j e' h => by simp at h)
  | e :: E => by
    by_cases q : P e.1 = true
    · exact Or.inl ⟨0, e, rfl, q, fun j e' hj _ => absurd hj (Nat.not_lt_zero j)⟩
    · have qf : P e.1 = false := by simpa using q
      rcases first_or P E with ⟨p, f, h1, h2, h3⟩ | h
      · refine Or.inl ⟨p + 1, f, by simpa using h1, h2, fun j e' hj he => ?_⟩
        cases j with
        | zero =>
          have : e = e' := by simpa using he
          rw [← this]; exact qf
        | succ j => exact h3 j e' (by omega) (by simpa using he)
      · refine Or.inr (fun j e' he => ?_)
        cases j with
        | zero =>
          have : e = e' := by simpa using he
          rw [← this]; exact qf
        | succ j => exact h j e' (by simpa using he)
end BOK
