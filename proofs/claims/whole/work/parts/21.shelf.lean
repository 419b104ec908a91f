/-! rows and texts: the class's shelves and the model's arrays -/
def inR (x : Int32) (n : Nat) : Prop := ∃ j : Nat, j < n ∧ x = nI j
theorem inR_no {x : Int32} {n : Nat} (hn : n < 2 ^ 31) (h : ¬ inR x n) : x < 0 ∨ nI n ≤ x := by
  by_cases h1 : x < 0
  · exact Or.inl h1
  · obtain ⟨j, hj, rfl⟩ := nI_of h1
    right
    rw [n_le hn hj]
    rcases Nat.lt_or_ge j n with q | q
    · exact absurd ⟨j, q, rfl⟩ h
    · exact q
/-- a shelf: its object s, its sizes z, its rows from b on, N of them -/
def Shf (s z b N : Nat) : Prop := rf s 1 = z ∧ (sh z).2.2 = N ∧ (∀ r, r < N → ldR (rf s 0) (nI r) = some (b + r)) ∧ (∀ r, r < N → (sh (b + r)).2.2 = 40) ∧ N ≤ 6 ∧ (∀ r, r < N → b + r ≠ z)
theorem shf_rows : Shf 1 9 3 6 := ⟨rfl, rfl, fun r h => ldR_rows h, fun r h => by rw [sh_row h], by decide, fun r h => by omega⟩
theorem shf_txts : Shf 10 16 12 4 := ⟨rfl, rfl, fun r h => ldR_txts h, fun r h => by rw [sh_txt h], by decide, fun r h => by omega⟩
section SHELF
variable {s z b N : Nat} {h : Hp} {r : Nat}
theorem knows_no {x : Int32} (S : Shf s z b N) (hx : ¬ inR x N) : f_X4_knows s x h = some 0 := by
  obtain ⟨s1, s2, -, -, s5, -⟩ := S
  unfold f_X4_knows
  rcases inR_no (by omega) hx with q | q
  · rw [if_pos q]; rfl
  · by_cases q2 : x < 0
    · rw [if_pos q2]; rfl
    · rw [if_neg q2, s1, s2, if_pos q]; rfl
theorem knows_yes (S : Shf s z b N) (hr : r < N) : f_X4_knows s (nI r) h = some 1 := by
  obtain ⟨s1, s2, -, -, s5, -⟩ := S
  unfold f_X4_knows
  rw [if_neg (nI_pos (by omega)), s1, s2, if_neg (by rw [n_le (by omega) (by omega)]; omega)]
  rfl
theorem holds_yes (S : Shf s z b N) (hr : r < N) : f_X4_holds s (nI r) h = some (if gI h z r < 0 then 0 else 1) := by
  obtain ⟨s1, s2, -, -, s5, -⟩ := S
  unfold f_X4_holds
  rw [if_neg (nI_pos (by omega)), s1, s2, if_neg (by rw [n_le (by omega) (by omega)]; omega), ld_n s2 hr (by omega), Ib]
  by_cases q : gI h z r < 0
  · simp only [if_pos q]; rfl
  · simp only [if_neg q]; rfl
theorem holds_no {x : Int32} (S : Shf s z b N) (hx : ¬ inR x N) : f_X4_holds s x h = some 0 := by
  obtain ⟨s1, s2, -, -, s5, -⟩ := S
  unfold f_X4_holds
  rcases inR_no (by omega) hx with q | q
  · rw [if_pos q]; rfl
  · by_cases q2 : x < 0
    · rw [if_pos q2]; rfl
    · rw [if_neg q2, s1, s2, if_pos q]; rfl
/-- n places from i on -/
theorem has_yes {i n : Int32} (S : Shf s z b N) (hr : r < N) : f_X4_has s (nI r) i n h = some (if gI h z r < 0 ∨ i < 0 ∨ n < 0 ∨ gI h z r < n ∨ gI h z r - n < i then 0 else 1) := by
  unfold f_X4_has
  rw [holds_yes S hr, Ib]
  obtain ⟨s1, s2, -, -, s5, -⟩ := S
  rw [s1, ld_n s2 hr (by omega)]
  by_cases q1 : gI h z r < 0
  · simp only [q1, true_or, if_true]; rfl
  · by_cases q2 : i < 0
    · simp only [q1, q2, true_or, or_true, if_true, if_false, show ¬ (1 : Int32) = 0 by decide]; rfl
    · by_cases q3 : n < 0
      · simp only [q1, q2, q3, true_or, or_true, if_true, if_false, show ¬ (1 : Int32) = 0 by decide]; rfl
      · by_cases q4 : gI h z r < n
        · simp only [q1, q2, q3, q4, true_or, or_true, if_true, if_false, Ib, show ¬ (1 : Int32) = 0 by decide]; rfl
        · by_cases q5 : gI h z r - n < i
          · simp only [q1, q2, q3, q4, q5, true_or, or_true, if_true, if_false, Ib, show ¬ (1 : Int32) = 0 by decide]; rfl
          · simp only [q1, q2, q3, q4, q5, or_false, if_true, if_false, Ib, show ¬ (1 : Int32) = 0 by decide]; rfl
/-- a row of m places, m a number: has it the place i? -/
theorem has1 {m : Nat} {i : Int32} (S : Shf s z b N) (hr : r < N) (hm : gI h z r = nI m) (hm2 : m ≤ 40) : (inR i m → f_X4_has s (nI r) i 1 h = some 1) ∧ (¬ inR i m → f_X4_has s (nI r) i 1 h = some 0) := by
  rw [has_yes S hr, hm]
  have e0 : ¬ nI m < 0 := nI_pos (by omega)
  have e1 : ¬ (1 : Int32) < 0 := by decide
  constructor
  · rintro ⟨j, hj, rfl⟩
    have e2 : ¬ nI j < 0 := nI_pos (by omega)
    have e3 : ¬ nI m < (1 : Int32) := by rw [lit_1, n_lt (by omega) (by omega)]; omega
    have e4 : ¬ nI m - (1 : Int32) < nI j := by rw [lit_1, pk_sub (by omega), n_lt (by omega) (by omega)]; omega
    rw [if_neg (by simp only [e0, e1, e2, e3, e4, or_false, not_false_eq_true])]
  · intro hi
    by_cases q0 : i < 0
    · rw [if_pos (Or.inr (Or.inl q0))]
    · by_cases q1 : nI m < (1 : Int32)
      · rw [if_pos (Or.inr (Or.inr (Or.inr (Or.inl q1))))]
      · rw [if_pos (Or.inr (Or.inr (Or.inr (Or.inr ?_))))]
        obtain ⟨j, hj, rfl⟩ := nI_of q0
        rw [lit_1, n_lt (by omega) (by omega)] at q1
        rw [lit_1, pk_sub (by omega), n_lt (by omega) hj]
        rcases Nat.lt_or_ge j m with q | q
        · exact absurd ⟨j, q, rfl⟩ hi
        · omega
theorem get_in {m i : Nat} (S : Shf s z b N) (hr : r < N) (hm : gI h z r = nI m) (hm2 : m ≤ 40) (hi : i < m) : f_X4_get s (nI r) (nI i) h = some (gI h (b + r) i) := by
  unfold f_X4_get
  rw [(has1 S hr hm hm2).1 ⟨i, hi, rfl⟩, Ib, if_neg (by decide), S.2.2.1 r hr, Ib, ld_n (S.2.2.2.1 r hr) (by omega) (by decide)]
  rfl
theorem get_out {m : Nat} {i : Int32} (S : Shf s z b N) (hr : r < N) (hm : gI h z r = nI m) (hm2 : m ≤ 40) (hi : ¬ inR i m) : f_X4_get s (nI r) i h = some 0 := by
  unfold f_X4_get
  rw [(has1 S hr hm hm2).2 hi, Ib, if_pos (by decide)]
  rfl
theorem set_in {m i : Nat} {v : Int32} (S : Shf s z b N) (hr : r < N) (hm : gI h z r = nI m) (hm2 : m ≤ 40) (hi : i < m) : f_X4_set s (nI r) (nI i) v h = some (sI h (b + r) i v) := by
  unfold f_X4_set
  rw [(has1 S hr hm hm2).1 ⟨i, hi, rfl⟩, Ib, if_neg (by decide), S.2.2.1 r hr, Ib, st_n (S.2.2.2.1 r hr) (by omega) (by decide)]
  rfl
theorem set_row_no {x i v : Int32} (S : Shf s z b N) (hx : ¬ inR x N) : f_X4_set s x i v h = some h := by
  unfold f_X4_set f_X4_has
  rw [holds_no S hx]
  rfl
theorem drop_yes (S : Shf s z b N) (hr : r < N) : f_X4_drop s (nI r) h = some (sI h z r (-1)) := by
  have hk := knows_yes (h := h) S hr
  unfold f_X4_drop
  rw [hk, Ib, if_neg (by decide), S.1, st_n S.2.1 hr (by have := S.2.2.2.2.1; omega)]
  rfl
theorem size_yes (S : Shf s z b N) (hr : r < N) : f_X4_size s (nI r) h = some (gI h z r) := by
  have hk := knows_yes (h := h) S hr
  unfold f_X4_size
  rw [hk, Ib, if_neg (by decide), S.1, ld_n S.2.1 hr (by have := S.2.2.2.2.1; omega)]
  rfl
end SHELF
/-! filling -/
theorem sI_sA {h : Hp} {a k : Nat} {f : Nat → Int32} {v : Int32} : sI (sA h a f) a k v = sA h a (upd f k v) := by
  unfold sI sA
  refine Prod.ext ?_ rfl
  funext c j
  unfold up2 upd
  by_cases e : c = a
  · by_cases q : j = k
    · simp [e, q]
    · simp [e, q]
  · simp [e]
theorem sA_self {h : Hp} {a : Nat} {f : Nat → Int32} (hf : ∀ j, f j = gI h a j) : sA h a f = h := by
  unfold sA
  refine Prod.ext ?_ rfl
  funext c j
  by_cases e : c = a
  · subst e
    simp [hf, gI]
  · simp [e]
/-- v laid at the n places from b on -/
def fil (f : Nat → Int32) (b n : Nat) (v : Int32) : Nat → Int32 := fun j => if b ≤ j ∧ j < b + n then v else f j
theorem fill_loop {ρ : Type} {F a b n m : Nat} {v : Int32} {h : Hp} (K : Hp → Option ρ) (ix : Int32 → Int32) (hm : (sh a).2.2 = m) (hb : b + n ≤ m) (hm2 : m < 200000) (hix : ∀ k, k < n → ix (nI k) = nI (b + k)) (hF : n < F) : fix (fun (self : Int32 × Hp → Option ρ) s => if nI n ≤ s.1 then K s.2 else (stI s.2 a (ix s.1) v).bind fun h1 => self (s.1 + 1, h1)) F (0, h) = K (sA h a (fil (gI h a) b n v)) := by
  refine fix_seq (fun k => (nI k, sA h a (fil (gI h a) b k v))) n ?_ ?_ ?_ hF
  · refine Prod.ext rfl (sA_self fun j => ?_)
    unfold fil
    rw [if_neg (by omega)]
  · intro k hk self
    have e1 : ¬ nI n ≤ nI k := by rw [n_le (by omega) (by omega)]; omega
    simp only [if_neg e1]
    rw [hix k hk, st_n hm (by omega) hm2, Ib, sI_sA]
    have e2 : upd (fil (gI h a) b k v) (b + k) v = fil (gI h a) b (k + 1) v := by
      funext j
      unfold upd fil
      by_cases q : j = b + k
      · rw [if_pos q, if_pos (by omega)]
      · rw [if_neg q]
        by_cases q2 : b ≤ j ∧ j < b + k
        · rw [if_pos q2, if_pos (by omega)]
        · rw [if_neg q2, if_neg (by omega)]
    rw [e2, nI_1]
  · intro self
    have e1 : nI n ≤ nI n := by rw [n_le (by omega) (by omega)]; exact Nat.le_refl _
    simp only [if_pos e1]
theorem fill_all {F a m : Nat} {v : Int32} {h : Hp} (hm : (sh a).2.2 = m) (hm2 : m < 200000) (hF : m < F) : f_J7_fill_53178 F a v h = some (sA h a (fil (gI h a) 0 m v)) := by
  unfold f_J7_fill_53178
  rw [hm]
  exact fill_loop (fun h => some h) (fun x => x) hm (by omega) hm2 (fun k _ => by rw [Nat.zero_add]) hF
theorem make_yes {F s z b N r n : Nat} {v : Int32} {h : Hp} (S : Shf s z b N) (hr : r < N) (hn : n ≤ 40) (hF : 40 < F) : f_X4_make F s (nI r) (nI n) v h = some (sA (sI h z r (nI n)) (b + r) (fil (gI h (b + r)) 0 40 v)) := by
  have hk := knows_yes (h := h) S hr
  unfold f_X4_make
  rw [hk, Ib, if_neg (by decide), if_neg (nI_pos (by omega)), if_neg (by rw [lit_40, n_lt (by omega) (by omega)]; omega), S.1, st_n S.2.1 hr (by have := S.2.2.2.2.1; omega), Ib, S.2.2.1 r hr, Ib, fill_all (S.2.2.2.1 r hr) (by decide) hF, gf_ne (S.2.2.2.2.2 r hr)]
  rfl
