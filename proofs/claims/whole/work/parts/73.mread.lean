/-! the model reads -/
def sMd (a k : Nat) : Prop := a = 66 ∧ 19 ≤ k ∧ k ≤ 25 ∨ 78 ≤ a ∧ a ≤ 81
def MX (r m : Nat) (tx : Nat → Int32) (h : Hp) : Prop := r < 4 ∧ m ≤ 40 ∧ gI h 71 r = nI m ∧ ∀ j, j < 40 → gI h 72 (40 * r + j) = tx j
def ZM (S : RS) (h : Hp) : Prop := gI h 66 20 = nI (zrl S + 1) ∧ gI h 66 21 = nI (zrc S) ∧ (0 < zrl S → gI h 66 22 = nI (zrw S)) ∧ gI h 66 23 = nI (zrn S) ∧ (∀ i j, (i < zrl S ∧ j < zrw S ∨ i = zrl S ∧ j < zrc S) → gI h 78 (4 * i + j) = bz ((zrb S).testBit (zrw S * i + j))) ∧ (∀ i, i < zrn S → gI h 79 i = nI (zrk S i)) ∧ (∀ i, i < zrn S → gI h 80 i = nI (4 * (zrq S i / zrw S) + zrq S i % zrw S))
/-- behind the last line -/
def ZG (S : RS) (h : Hp) : Prop := gI h 66 20 = nI (zrl S) ∧ gI h 66 22 = nI (zrw S) ∧ gI h 66 23 = nI (zrn S) ∧ (∀ i j, i < zrl S → j < zrw S → gI h 78 (4 * i + j) = bz ((zrb S).testBit (zrw S * i + j))) ∧ (∀ i, i < zrn S → gI h 79 i = nI (zrk S i)) ∧ (∀ i, i < zrn S → gI h 80 i = nI (4 * (zrq S i / zrw S) + zrq S i % zrw S))
section ZMOD
variable {r m F : Nat} {tx : Nat → Int32} {h h' : Hp} {S : RS}
theorem MX.keep (X : MX r m tx h) (e : Eo sMd h h') : MX r m tx h' := by
  obtain ⟨x1, x2, x3, x4⟩ := X
  refine ⟨x1, x2, ?_, fun j hj => ?_⟩
  · rw [e.1 _ _ (by unfold sMd; omega)]; exact x3
  · rw [e.1 _ _ (by unfold sMd; omega)]; exact x4 j hj
theorem MX.ld (X : MX r m tx h) : ldI h 71 (nI r) = some (nI m) := by
  rw [ld_71 X.1, X.2.2.1]
theorem MX.byte {p : Nat} (X : MX r m tx h) (hp : p < m) : f_X8_byteAt (nI r) (nI p) h = some (tx p) := by
  obtain ⟨x1, x2, x3, x4⟩ := X
  unfold f_X8_byteAt
  rw [ld_71 x1, x3, Ib, if_neg (nle_k (by omega) hp), lit_40, pk_mul, nI_add, ld_72 (by omega), x4 p (by omega)]; rfl
theorem MX.out {p : Nat} (X : MX r m tx h) (hp : m ≤ p) (hp2 : p < 1000) : f_X8_byteAt (nI r) (nI p) h = some 0 := by
  obtain ⟨x1, x2, x3, x4⟩ := X
  unfold f_X8_byteAt
  rw [ld_71 x1, x3, Ib, if_pos (by rw [n_le (by omega) (by omega)]; exact hp)]; rfl
def isC (x : Int32) : Bool := decide (x = 46) || decide (x = 35) || (kdz x).isSome
theorem isC_ev {ρ : Type} {x : Int32} {f : Int32 → Option ρ} : (Option.bind (α := Int32) (if x = (46 : Int32) then some (1 : Int32) else (if x = (35 : Int32) then some (1 : Int32) else ((f_X8_kindOf x h).bind fun v11 => (if v11 = (-9 : Int32) then some (0 : Int32) else some (1 : Int32))))) f) = f (bz (isC x)) := by
  unfold isC
  by_cases u : x = 46
  · rw [if_pos u, decide_eq_true u]; rfl
  · rw [if_neg u, decide_eq_false u]
    by_cases v : x = 35
    · rw [if_pos v, decide_eq_true v]; rfl
    · rw [if_neg v, decide_eq_false v, kdz_m, Ib]
      cases hk : kdz x with
      | none => rfl
      | some k =>
        have := kdz_lt hk
        show Option.bind (if nI k = -9 then _ else _) f = _
        rw [i_m9 (by omega)]; rfl
theorem isC_47 : isC 47 = false := by decide
theorem isC_61 : isC 61 = false := by decide
theorem isC_no {x : Int32} (h : isC x = false) : kdz x = none ∧ x ≠ 46 ∧ x ≠ 35 := by
  unfold isC at h
  simp only [Bool.or_eq_false_iff, decide_eq_false_iff_not] at h
  refine ⟨?_, h.1.1, h.1.2⟩
  cases hk : kdz x with
  | none => rfl
  | some k => rw [hk] at h; cases h.2
theorem isC_yes {x : Int32} (h : isC x = true) : ¬ (x = 47 ∨ x = 61) := by
  rintro (rfl | rfl)
  · rw [isC_47] at h; cases h
  · rw [isC_61] at h; cases h
theorem mlim_b {ρ : Type} {f : Int32 → Option ρ} (M : ZM S h) (W : ZW S) : (Option.bind (α := Int32) (if gI h 66 20 = (1 : Int32) then some (4 : Int32) else some (gI h 66 22)) f) = f (nI (zlim S)) := by
  have w4 := W.2.2.2.1
  rw [M.1]
  unfold zlim
  by_cases q : zrl S = 0
  · rw [if_pos q, q, if_pos (show nI (0 + 1) = 1 from rfl)]; rfl
  · rw [if_neg q, if_neg (by rw [lit_1, n_eq (by omega) (by omega)]; omega), M.2.2.1 (by omega)]; rfl
theorem zlim_4 (W : ZW S) : zrc S ≤ zlim S ∧ zlim S ≤ 4 := by
  have w3 := W.2.2.1
  unfold zlim
  by_cases u : zrl S = 0
  · rw [if_pos u]; exact ⟨(W.1 u).2, Nat.le_refl _⟩
  · rw [if_neg u]; exact ⟨(W.2.1 (by omega)).2, w3⟩
theorem mcell_full {x : Int32} (M : ZM S h) (W : ZW S) (hc : zrc S = zlim S) : f_X8_readsCell x h = some (0, h) := by
  have l := zlim_4 W
  unfold f_X8_readsCell
  simp only [nm, jn]
  rw [kdz_m, Ib, mlim_b M W, M.2.1, if_pos (by rw [n_eq (by omega) (by omega)]; exact hc)]; rfl
theorem mcell_4 {x : Int32} {k : Nat} (M : ZM S h) (W : ZW S) (hc : zrc S ≠ zlim S) (hk : kdz x = some k) (h4 : zrn S = 4) : f_X8_readsCell x h = some (0, h) := by
  have l := zlim_4 W
  have hk6 := kdz_lt hk
  unfold f_X8_readsCell
  simp only [nm, jn]
  rw [kdz_m, Ib, mlim_b M W, M.2.1, if_neg (by rw [n_eq (by omega) (by omega)]; exact hc), hk]
  simp only [show oI (some k) = nI k from rfl]
  rw [i_m9 (by omega), M.2.2.2.1, h4, if_pos (show nI 4 = 4 from rfl)]; rfl
theorem cell_x (M : ZM S h) : (4 : Int32) * (gI h 66 20 - 1) + gI h 66 21 = nI (4 * zrl S + zrc S) := by
  rw [M.1, M.2.1, nI_pred, lit_4, pk_mul, nI_add]
theorem cl_old (W : ZW S) {i j : Nat} (hij : i < zrl S ∧ j < zrw S ∨ i = zrl S ∧ j < zrc S) : zrw S * i + j < zcl S := by
  unfold zcl
  rcases hij with ⟨h1, h2⟩ | ⟨h1, h2⟩
  · have e : zrw S * (i + 1) ≤ zrw S * zrl S := Nat.mul_le_mul_left _ h1
    rw [Nat.mul_succ] at e
    omega
  · rw [h1]; omega
theorem j_lt (W : ZW S) (hc : zrc S ≠ zlim S) {i j : Nat} (hij : i < zrl S ∧ j < zrw S ∨ i = zrl S ∧ j < zrc S) : j < 4 ∧ 4 * i + j ≠ 4 * zrl S + zrc S := by
  have l := zlim_4 W
  have w3 := W.2.2.1
  omega
theorem q_cell (W : ZW S) (hc : zrc S ≠ zlim S) : 4 * (zcl S / zrw S) + zcl S % zrw S = 4 * zrl S + zrc S := by
  obtain ⟨h1, h2⟩ := zw_lim W hc
  unfold zcl
  rcases Nat.eq_zero_or_pos (zrl S) with q | q
  · rw [(h1 q).1, q, Nat.div_zero, Nat.mod_zero]; omega
  · obtain ⟨g1, g2⟩ := h2 q
    rw [Nat.mul_add_div (by omega), Nat.mul_add_mod, Nat.div_eq_of_lt (by omega), Nat.mod_eq_of_lt (by omega)]; omega
theorem mcell_0 {x : Int32} (M : ZM S h) (W : ZW S) (hc : zrc S ≠ zlim S) (hk : kdz x = none) (h1 : x = 46 ∨ x = 35) : ∃ h', f_X8_readsCell x h = some (1, h') ∧ Eo (fun a k => a = 78 ∨ a = 66 ∧ k = 21) h h' ∧ ZM (zad0 S (decide (x = 35))) h' := by
  have l := zlim_4 W
  have w4 := W.2.2.2.1
  have b7 := W.2.2.2.2.2.2.1
  obtain ⟨m1, m2, m3, m4, m5, m6, m7⟩ := M
  have cx := cell_x ⟨m1, m2, m3, m4, m5, m6, m7⟩
  refine ⟨sI (sI h 78 (4 * zrl S + zrc S) (bz (decide (x = 35)))) 66 21 (nI (zrc S + 1)), ?_, (Eo.refl.sI (Or.inl rfl)).sI (Or.inr ⟨rfl, rfl⟩), ?_, ?_, fun q => ?_, ?_, fun i j hij => ?_, fun i hi => ?_, fun i hi => ?_⟩
  · have ef : ∀ {ρ : Type} {f : Int32 → Option ρ}, (Option.bind (α := Int32) (if x = (35 : Int32) then some (1 : Int32) else some (0 : Int32)) f) = f (bz (decide (x = 35))) := by
      intro ρ f
      by_cases u : x = 35
      · rw [if_pos u, decide_eq_true u]; rfl
      · rw [if_neg u, decide_eq_false u]; rfl
    unfold f_X8_readsCell
    simp only [nm, jn]
    rw [kdz_m, Ib, mlim_b ⟨m1, m2, m3, m4, m5, m6, m7⟩ W, ef, cx, m2, if_neg (by rw [n_eq (by omega) (by omega)]; exact hc), hk]
    show (if (-9 : Int32) = -9 then _ else _) = _
    rw [i99, st_78 (by omega), Ib]
    show (Option.bind (if (-9 : Int32) = -9 then _ else _) _) = _
    rw [i99, Ib, gI_ne (by decide), m2, n_add1]; rfl
  · rw [gI_nk (by decide), gI_ne (by decide)]; exact m1
  · rw [gI_eq]; rfl
  · rw [gI_nk (by decide), gI_ne (by decide)]; exact m3 q
  · rw [gI_nk (by decide), gI_ne (by decide)]; exact m4
  · rw [gI_ne (by decide), gI_at]
    show _ = bz ((if decide (x = 35) = true then zrb S ||| 2 ^ zcl S else zrb S).testBit (zrw S * i + j))
    have hij : i < zrl S ∧ j < zrw S ∨ i = zrl S ∧ j < zrc S + 1 := hij
    by_cases u : i = zrl S ∧ j = zrc S
    · obtain ⟨rfl, rfl⟩ := u
      rw [if_pos rfl]
      show _ = bz (Nat.testBit _ (zcl S))
      have tf : (zrb S).testBit (zcl S) = false := tb_hi b7 (Nat.le_refl _)
      by_cases v : x = 35
      · rw [decide_eq_true v, if_pos rfl, tb_or, tb_pow, tf, decide_eq_true rfl]; rfl
      · rw [decide_eq_false v, if_neg (by decide), tf]
    · have hij' : i < zrl S ∧ j < zrw S ∨ i = zrl S ∧ j < zrc S := by omega
      have lt := cl_old W hij'
      rw [if_neg (j_lt W hc hij').2, m5 i j hij']
      by_cases v : x = 35
      · rw [decide_eq_true v, if_pos rfl, tb_or, tb_pow, decide_eq_false (by omega), Bool.or_false]
      · rw [decide_eq_false v, if_neg (by decide)]
  · rw [gI_ne (by decide), gI_ne (by decide)]; exact m6 i hi
  · rw [gI_ne (by decide), gI_ne (by decide)]; exact m7 i hi
theorem mcell_1 {x : Int32} {k : Nat} (M : ZM S h) (W : ZW S) (hc : zrc S ≠ zlim S) (hk : kdz x = some k) (h4 : zrn S ≠ 4) : ∃ h', f_X8_readsCell x h = some (1, h') ∧ Eo (fun a k => a = 78 ∨ a = 79 ∨ a = 80 ∨ a = 66 ∧ k = 23 ∨ a = 66 ∧ k = 21) h h' ∧ ZM (zad1 S k) h' := by
  have l := zlim_4 W
  have hk6 := kdz_lt hk
  have w4 := W.2.2.2.1
  have n4 := W.2.2.2.2.1
  have b7 := W.2.2.2.2.2.2.1
  obtain ⟨m1, m2, m3, m4, m5, m6, m7⟩ := M
  have cx := cell_x ⟨m1, m2, m3, m4, m5, m6, m7⟩
  refine ⟨sI (sI (sI (sI (sI h 78 (4 * zrl S + zrc S) 0) 79 (zrn S) (nI k)) 80 (zrn S) (nI (4 * zrl S + zrc S))) 66 23 (nI (zrn S + 1))) 66 21 (nI (zrc S + 1)), ?_, ((((Eo.refl.sI (by omega)).sI (by omega)).sI (by omega)).sI (by omega)).sI (by omega), ?_, ?_, fun q => ?_, ?_, fun i j hij => ?_, fun i hi => ?_, fun i hi => ?_⟩
  · unfold f_X8_readsCell
    simp only [nm, jn]
    rw [kdz_m, Ib, mlim_b ⟨m1, m2, m3, m4, m5, m6, m7⟩ W, if_neg (kdz_ne hk).2, Ib, cx, m2, if_neg (by rw [n_eq (by omega) (by omega)]; exact hc), hk]
    simp only [show oI (some k) = nI k from rfl]
    rw [i_m9 (by omega), m4, if_neg (by rw [lit_4, n_eq (by omega) (by omega)]; exact h4), st_78 (by omega), Ib, i_m9 (by omega), gI_ne (by decide), m4, st_79 (by omega), Ib, gI_ne (by decide), gI_ne (by decide), m4, st_80 (by omega), Ib, gI_ne (by decide), gI_ne (by decide), gI_ne (by decide), m4, Ib, n_add1, gI_nk (by decide), gI_ne (by decide), gI_ne (by decide), gI_ne (by decide), m2, n_add1]; rfl
  · rw [gI_nk (by decide), gI_nk (by decide), gI_ne (by decide), gI_ne (by decide), gI_ne (by decide)]; exact m1
  · rw [gI_eq]; rfl
  · rw [gI_nk (by decide), gI_nk (by decide), gI_ne (by decide), gI_ne (by decide), gI_ne (by decide)]; exact m3 q
  · rw [gI_nk (by decide), gI_eq]; rfl
  · rw [gI_ne (by decide), gI_ne (by decide), gI_ne (by decide), gI_ne (by decide), gI_at]
    show _ = bz ((zrb S).testBit (zrw S * i + j))
    have hij : i < zrl S ∧ j < zrw S ∨ i = zrl S ∧ j < zrc S + 1 := hij
    by_cases u : i = zrl S ∧ j = zrc S
    · obtain ⟨rfl, rfl⟩ := u
      rw [if_pos rfl]
      show _ = bz (Nat.testBit _ (zcl S))
      rw [tb_hi b7 (Nat.le_refl _)]; rfl
    · have hij' : i < zrl S ∧ j < zrw S ∨ i = zrl S ∧ j < zrc S := by omega
      rw [if_neg (j_lt W hc hij').2, m5 i j hij']
  · have hi' : i < zrn S + 1 := hi
    show _ = nI (if i = zrn S then k else zrk S i)
    rw [gI_ne (by decide), gI_ne (by decide), gI_ne (by decide), gI_at]
    by_cases q : i = zrn S
    · rw [if_pos q, if_pos q]
    · rw [if_neg q, if_neg q, gI_ne (by decide)]; exact m6 i (by omega)
  · have hi' : i < zrn S + 1 := hi
    show _ = nI (4 * ((if i = zrn S then zcl S else zrq S i) / zrw S) + (if i = zrn S then zcl S else zrq S i) % zrw S)
    rw [gI_ne (by decide), gI_ne (by decide), gI_at]
    by_cases q : i = zrn S
    · rw [if_pos q, if_pos q, q_cell W hc]
    · rw [if_neg q, if_neg q, gI_ne (by decide), gI_ne (by decide)]; exact m7 i (by omega)
theorem mends_ev (M : ZM S h) (W : ZW S) : f_X8_lineEnds h = some (bz (!decide (zrc S = 0 ∨ (0 < zrl S ∧ zrc S ≠ zrw S)))) := by
  have w4 := W.2.2.2.1
  have w3 := W.2.2.1
  have l := zlim_4 W
  unfold f_X8_lineEnds
  rw [M.1, M.2.1]
  by_cases q : zrl S = 0
  · rw [q, if_pos (show nI (0 + 1) = 1 from rfl)]
    by_cases u : zrc S = 0
    · rw [u, if_pos (show nI 0 ≤ 0 by decide), decide_eq_true (Or.inl rfl)]; rfl
    · rw [if_neg (by rw [lit_0, n_le (by omega) (by omega)]; omega), decide_eq_false (by omega)]; rfl
  · rw [if_neg (by rw [lit_1, n_eq (by omega) (by omega)]; omega), M.2.2.1 (by omega), i_eq (by omega) (by omega)]
    have w1 := (W.2.1 (by omega)).1
    by_cases u : zrc S = zrw S
    · rw [if_pos u, decide_eq_false (by omega)]; rfl
    · rw [if_neg u, decide_eq_true (by omega)]; rfl
/-- the walls and men behind the end of a line -/
theorem ZM.ended (M : ZM S h) (W : ZW S) (hq : ¬ (zrc S = 0 ∨ (0 < zrl S ∧ zrc S ≠ zrw S))) : (∀ i j, i < zrl S + 1 → j < zrc S → gI h 78 (4 * i + j) = bz ((zrb S).testBit (zrc S * i + j))) ∧ (∀ i, i < zrn S → gI h 80 i = nI (4 * (zrq S i / zrc S) + zrq S i % zrc S)) := by
  obtain ⟨m1, m2, m3, m4, m5, m6, m7⟩ := M
  obtain ⟨w1, w2, w3, w4, w5, w6, w7, w8, w9, w10⟩ := W
  rcases Nat.eq_zero_or_pos (zrl S) with q | q
  · have e0 := (w1 q).1
    refine ⟨fun i j hi hj => ?_, fun i hi => ?_⟩
    · have : i = 0 := by omega
      subst this
      rw [m5 0 j (Or.inr ⟨q.symm, hj⟩), Nat.mul_zero, Nat.mul_zero]
    · have c : zrq S i < zrc S := by
        have := w8 i hi
        unfold zcl at this
        rw [e0, q] at this
        omega
      rw [m7 i hi, e0, Nat.div_zero, Nat.mod_zero, Nat.div_eq_of_lt c, Nat.mod_eq_of_lt c]
  · have e : zrc S = zrw S := by omega
    refine ⟨fun i j hi hj => ?_, fun i hi => ?_⟩
    · rw [m5 i j (by omega), e]
    · rw [m7 i hi, e]
end ZMOD
