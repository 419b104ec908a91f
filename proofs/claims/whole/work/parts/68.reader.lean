/-! the reader: one plain parser, which both halves follow -/
abbrev RS : Type := Nat × Nat × Nat × Nat × Nat × Nat × (Nat → Nat) × (Nat → Nat)
def zrp (S : RS) : Nat := S.1
def zrl (S : RS) : Nat := S.2.1
def zrc (S : RS) : Nat := S.2.2.1
def zrw (S : RS) : Nat := S.2.2.2.1
def zrn (S : RS) : Nat := S.2.2.2.2.1
def zrb (S : RS) : Nat := S.2.2.2.2.2.1
def zrk (S : RS) : Nat → Nat := S.2.2.2.2.2.2.1
def zrq (S : RS) : Nat → Nat := S.2.2.2.2.2.2.2
def zcl (S : RS) : Nat := zrw S * zrl S + zrc S
def kdz (x : Int32) : Option Nat := if x = 97 then some 2 else if x = 100 then some 4 else if x = 108 then some 3 else if x = 109 then some 0 else if x = 115 then some 5 else if x = 116 then some 1 else none
def zad0 (S : RS) (v : Bool) : RS := (zrp S + 1, zrl S, zrc S + 1, zrw S, zrn S, if v = true then zrb S ||| 2 ^ zcl S else zrb S, zrk S, zrq S)
def zad1 (S : RS) (k : Nat) : RS := (zrp S + 1, zrl S, zrc S + 1, zrw S, zrn S + 1, zrb S, fun i => if i = zrn S then k else zrk S i, fun i => if i = zrn S then zcl S else zrq S i)
def zend (S : RS) : RS := (zrp S + 1, zrl S + 1, 0, zrc S, zrn S, zrb S, zrk S, zrq S)
def zlim (S : RS) : Nat := if zrl S = 0 then 4 else zrw S
def zron (tx : Nat → Int32) : Nat → RS → RS × Bool
  | 0, S => (S, false)
  | d + 1, S => if tx (zrp S) = 47 ∨ tx (zrp S) = 61 then (if zrc S = 0 ∨ (0 < zrl S ∧ zrc S ≠ zrw S) then (S, false) else if tx (zrp S) = 61 then (zend S, true) else if zrl S = 2 then (S, false) else zron tx d (zend S)) else match kdz (tx (zrp S)) with
    | none => if tx (zrp S) = 46 ∨ tx (zrp S) = 35 then (if zrc S = zlim S then (S, false) else zron tx d (zad0 S (decide (tx (zrp S) = 35)))) else (S, false)
    | some k => if zrc S = zlim S then (S, false) else if zrn S = 4 then (S, false) else zron tx d (zad1 S k)
def zsk (tx : Nat → Int32) : Nat → Nat → Nat
  | 0, p => p
  | d + 1, p => if tx p = 32 then zsk tx d (p + 1) else p
def ZW (S : RS) : Prop := (zrl S = 0 → zrw S = 0 ∧ zrc S ≤ 4) ∧ (0 < zrl S → 1 ≤ zrw S ∧ zrc S ≤ zrw S) ∧ zrw S ≤ 4 ∧ zrl S ≤ 2 ∧ zrn S ≤ 4 ∧ zrn S ≤ zcl S ∧ zrb S < 2 ^ zcl S ∧ (∀ i, i < zrn S → zrq S i < zcl S) ∧ (∀ j, j < zrn S → ∀ i, i < j → zrq S i < zrq S j) ∧ (∀ i, i < zrn S → zrk S i < 6)
def ZF (S : RS) : Prop := 1 ≤ zrl S ∧ zrl S ≤ 3 ∧ 1 ≤ zrw S ∧ zrw S ≤ 4 ∧ zrn S ≤ 4 ∧ zrn S ≤ zrw S * zrl S ∧ zrb S < 2 ^ (zrw S * zrl S) ∧ (∀ i, i < zrn S → zrq S i < zrw S * zrl S) ∧ (∀ j, j < zrn S → ∀ i, i < j → zrq S i < zrq S j) ∧ (∀ i, i < zrn S → zrk S i < 6)
theorem kdz_lt {x : Int32} {k : Nat} (h : kdz x = some k) : k < 6 := by
  unfold kdz at h
  repeat' split at h
  all_goals first | cases h; decide | cases h
theorem kdz_46 : kdz 46 = none := rfl
theorem kdz_35 : kdz 35 = none := rfl
theorem kdz_ne {x : Int32} {k : Nat} (h : kdz x = some k) : x ≠ 46 ∧ x ≠ 35 := ⟨fun q => (by rw [q, kdz_46] at h; cases h), fun q => (by rw [q, kdz_35] at h; cases h)⟩
theorem kdz_c {x : Int32} {h : Hp} : f_X1_kindBySign x h = some (oI (kdz x)) := by
  unfold f_X1_kindBySign kdz
  repeat' split
  all_goals rfl
theorem kdz_m {x : Int32} {h : Hp} : f_X8_kindOf x h = some (oI (kdz x)) := by
  unfold f_X8_kindOf kdz
  repeat' split
  all_goals rfl
section ZPURE
variable {S : RS}
theorem zcl_le (W : ZW S) : zcl S ≤ 12 := by
  obtain ⟨w1, w2, w3, w4, -⟩ := W
  have := Nat.mul_le_mul w3 w4
  unfold zcl
  rcases Nat.eq_zero_or_pos (zrl S) with q | q
  · have := w1 q; omega
  · have := w2 q; omega
theorem zcl_lt (W : ZW S) (hc : zrc S ≠ zlim S) : zcl S < 12 ∧ zrc S < zlim S := by
  obtain ⟨w1, w2, w3, w4, -⟩ := W
  have := Nat.mul_le_mul w3 w4
  unfold zcl
  unfold zlim at hc ⊢
  rcases Nat.eq_zero_or_pos (zrl S) with q | q
  · have := w1 q; rw [if_pos q] at hc ⊢; omega
  · have := w2 q; rw [if_neg (by omega)] at hc ⊢; omega
theorem zcl_end (W : ZW S) (h : ¬ (zrc S = 0 ∨ (0 < zrl S ∧ zrc S ≠ zrw S))) : zrc S * (zrl S + 1) = zcl S := by
  obtain ⟨w1, w2, -⟩ := W
  unfold zcl
  rcases Nat.eq_zero_or_pos (zrl S) with q | q
  · rw [(w1 q).1, q]; omega
  · have e : zrc S = zrw S := by omega
    rw [e, Nat.mul_succ]
theorem zw_end (W : ZW S) (h : ¬ (zrc S = 0 ∨ (0 < zrl S ∧ zrc S ≠ zrw S))) : ZF (zend S) := by
  have e := zcl_end W h
  obtain ⟨w1, w2, w3, w4, w5, w6, w7, w8, w9, w10⟩ := W
  refine ⟨by show 1 ≤ zrl S + 1; omega, by show zrl S + 1 ≤ 3; omega, by show 1 ≤ zrc S; omega, ?_, w5, ?_, ?_, fun i hi => ?_, w9, w10⟩
  · show zrc S ≤ 4
    rcases Nat.eq_zero_or_pos (zrl S) with q | q
    · exact (w1 q).2
    · have := w2 q; omega
  · show zrn S ≤ zrc S * (zrl S + 1)
    rw [e]; exact w6
  · show zrb S < 2 ^ (zrc S * (zrl S + 1))
    rw [e]; exact w7
  · show zrq S i < zrc S * (zrl S + 1)
    rw [e]; exact w8 i hi
theorem zw_next (W : ZW S) (h : ¬ (zrc S = 0 ∨ (0 < zrl S ∧ zrc S ≠ zrw S))) (h2 : ¬ zrl S = 2) : ZW (zend S) := by
  obtain ⟨f1, f2, f3, f4, f5, f6, f7, f8, f9, f10⟩ := zw_end W h
  have w4 := W.2.2.2.1
  have e : zcl (zend S) = zrw (zend S) * zrl (zend S) := rfl
  refine ⟨fun q => ?_, fun _ => ⟨f3, Nat.zero_le _⟩, f4, ?_, f5, ?_, ?_, fun i hi => ?_, f9, f10⟩
  · have : zrl S + 1 = 0 := q
    omega
  · show zrl S + 1 ≤ 2
    omega
  · rw [e]; exact f6
  · rw [e]; exact f7
  · rw [e]; exact f8 i hi
theorem zcl_ad0 {v : Bool} : zcl (zad0 S v) = zcl S + 1 := rfl
theorem zcl_ad1 {k : Nat} : zcl (zad1 S k) = zcl S + 1 := rfl
theorem zw_lim (W : ZW S) (hc : zrc S ≠ zlim S) : (zrl S = 0 → zrw S = 0 ∧ zrc S + 1 ≤ 4) ∧ (0 < zrl S → 1 ≤ zrw S ∧ zrc S + 1 ≤ zrw S) := by
  obtain ⟨h1, h2⟩ := zcl_lt W hc
  unfold zlim at h2
  refine ⟨fun q => ⟨(W.1 q).1, ?_⟩, fun q => ⟨(W.2.1 q).1, ?_⟩⟩
  · rw [if_pos q] at h2; omega
  · rw [if_neg (by omega)] at h2; omega
theorem zw_ad0 {v : Bool} (W : ZW S) (hc : zrc S ≠ zlim S) : ZW (zad0 S v) := by
  have l := zw_lim W hc
  obtain ⟨w1, w2, w3, w4, w5, w6, w7, w8, w9, w10⟩ := W
  refine ⟨l.1, l.2, w3, w4, w5, ?_, ?_, fun i hi => ?_, w9, w10⟩
  · rw [zcl_ad0]; exact Nat.le_succ_of_le w6
  · rw [zcl_ad0]
    have p1 : zrb S < 2 ^ (zcl S + 1) := Nat.lt_trans w7 (pow_lt (Nat.lt_succ_self _))
    show (if v = true then zrb S ||| 2 ^ zcl S else zrb S) < _
    split
    · exact or_lt p1 (pow_lt (Nat.lt_succ_self _))
    · exact p1
  · rw [zcl_ad0]; exact Nat.lt_succ_of_lt (w8 i hi)
theorem zw_ad1 {k : Nat} (W : ZW S) (hc : zrc S ≠ zlim S) (hn : zrn S ≠ 4) (hk : k < 6) : ZW (zad1 S k) := by
  have l := zw_lim W hc
  obtain ⟨w1, w2, w3, w4, w5, w6, w7, w8, w9, w10⟩ := W
  refine ⟨l.1, l.2, w3, w4, by show zrn S + 1 ≤ 4; omega, ?_, ?_, fun i hi => ?_, fun j hj i hi => ?_, fun i hi => ?_⟩
  · rw [zcl_ad1]; exact Nat.succ_le_succ w6
  · rw [zcl_ad1]; exact Nat.lt_trans w7 (pow_lt (Nat.lt_succ_self _))
  · rw [zcl_ad1]
    show (if i = zrn S then zcl S else zrq S i) < _
    have hi' : i < zrn S + 1 := hi
    split
    · omega
    · have := w8 i (by omega); omega
  · have hj' : j < zrn S + 1 := hj
    show (if i = zrn S then zcl S else zrq S i) < (if j = zrn S then zcl S else zrq S j)
    rw [if_neg (by omega)]
    split
    · exact w8 i (by omega)
    · exact w9 j (by omega) i hi
  · have hi' : i < zrn S + 1 := hi
    show (if i = zrn S then k else zrk S i) < 6
    split
    · exact hk
    · exact w10 i (by omega)
theorem zron_ok {tx : Nat → Int32} : ∀ (d : Nat) (S : RS), ZW S → (zron tx d S).2 = true → ZF (zron tx d S).1 ∧ zrc (zron tx d S).1 = 0
  | 0, S, _, h => by cases h
  | d + 1, S, W, h => by
    unfold zron at h ⊢
    by_cases q : tx (zrp S) = 47 ∨ tx (zrp S) = 61
    · rw [if_pos q] at h ⊢
      by_cases q2 : zrc S = 0 ∨ (0 < zrl S ∧ zrc S ≠ zrw S)
      · rw [if_pos q2] at h; cases h
      · rw [if_neg q2] at h ⊢
        by_cases q3 : tx (zrp S) = 61
        · rw [if_pos q3]; exact ⟨zw_end W q2, rfl⟩
        · rw [if_neg q3] at h ⊢
          by_cases q4 : zrl S = 2
          · rw [if_pos q4] at h; cases h
          · rw [if_neg q4] at h ⊢
            exact zron_ok d _ (zw_next W q2 q4) h
    · rw [if_neg q] at h ⊢
      cases hk : kdz (tx (zrp S)) with
      | none =>
        simp only [hk] at h ⊢
        by_cases q2 : tx (zrp S) = 46 ∨ tx (zrp S) = 35
        · rw [if_pos q2] at h ⊢
          by_cases q3 : zrc S = zlim S
          · rw [if_pos q3] at h; cases h
          · rw [if_neg q3] at h ⊢
            exact zron_ok d _ (zw_ad0 W q3) h
        · rw [if_neg q2] at h; cases h
      | some k =>
        simp only [hk] at h ⊢
        by_cases q3 : zrc S = zlim S
        · rw [if_pos q3] at h; cases h
        · rw [if_neg q3] at h ⊢
          by_cases q4 : zrn S = 4
          · rw [if_pos q4] at h; cases h
          · rw [if_neg q4] at h ⊢
            exact zron_ok d _ (zw_ad1 W q3 q4 (kdz_lt hk)) h
theorem zron_p {tx : Nat → Int32} {m : Nat} : ∀ (d : Nat) (S : RS), zrp S + d = m → zrp (zron tx d S).1 ≤ m
  | 0, S, h => by
    show zrp S ≤ m
    omega
  | d + 1, S, h => by
    have a0 : zrp S ≤ m := by omega
    unfold zron
    by_cases q : tx (zrp S) = 47 ∨ tx (zrp S) = 61
    · rw [if_pos q]
      by_cases q2 : zrc S = 0 ∨ (0 < zrl S ∧ zrc S ≠ zrw S)
      · rw [if_pos q2]; exact a0
      · rw [if_neg q2]
        by_cases q3 : tx (zrp S) = 61
        · rw [if_pos q3]
          show zrp S + 1 ≤ m
          omega
        · rw [if_neg q3]
          by_cases q4 : zrl S = 2
          · rw [if_pos q4]; exact a0
          · rw [if_neg q4]
            exact zron_p d _ (by show zrp S + 1 + d = m; omega)
    · rw [if_neg q]
      cases hk : kdz (tx (zrp S)) with
      | none =>
        simp only
        by_cases q2 : tx (zrp S) = 46 ∨ tx (zrp S) = 35
        · rw [if_pos q2]
          by_cases q3 : zrc S = zlim S
          · rw [if_pos q3]; exact a0
          · rw [if_neg q3]
            exact zron_p d _ (by show zrp S + 1 + d = m; omega)
        · rw [if_neg q2]; exact a0
      | some k =>
        simp only
        by_cases q3 : zrc S = zlim S
        · rw [if_pos q3]; exact a0
        · rw [if_neg q3]
          by_cases q4 : zrn S = 4
          · rw [if_pos q4]; exact a0
          · rw [if_neg q4]
            exact zron_p d _ (by show zrp S + 1 + d = m; omega)
theorem zsk_p {tx : Nat → Int32} {m : Nat} : ∀ (d p : Nat), p + d = m → zsk tx d p ≤ m
  | 0, p, h => by
    show p ≤ m
    omega
  | d + 1, p, h => by
    unfold zsk
    split
    · exact zsk_p d (p + 1) (by omega)
    · omega
end ZPURE
/-! the class's half: blanks and lines -/
def sRd (d a k : Nat) : Prop := a = 17 ∧ k = 3 ∨ d ≤ a ∧ a ≤ d + 7
def RX (d r m : Nat) (tx : Nat → Int32) (h : Hp) : Prop := IsY d ∧ r < 4 ∧ m ≤ 40 ∧ gR h 17 0 = some 10 ∧ gR h 17 4 = some d ∧ gI h 17 1 = nI r ∧ gI h 17 2 = nI m ∧ gI h 16 r = nI m ∧ gI h (12 + r) = tx
def ZD (d : Nat) (S : RS) (h : Hp) : Prop := gI h d 0 = nI (zrw S) ∧ gI h d 1 = nI (zrl S) ∧ gI h d 2 = nI (zcl S) ∧ gI h d 3 = nI (zrb S) ∧ gI h d 4 = nI (zrn S) ∧ (∀ i, i < zrn S → gI h (d + 1) i = nI (zrk S i)) ∧ (∀ i, i < zrn S → gI h (d + 2) i = nI (zrq S i))
section ZCLS
variable {d r m F : Nat} {tx : Nat → Int32} {h h' : Hp} {S : RS}
theorem RX.keep (X : RX d r m tx h) (e : Eo (sRd d) h h') : RX d r m tx h' := by
  obtain ⟨x1, x2, x3, x4, x5, x6, x7, x8, x9⟩ := X
  have hd : d = 41 ∨ d = 49 := x1
  have er : gR h' = gR h := by unfold gR; rw [e.2]
  refine ⟨x1, x2, x3, ?_, ?_, ?_, ?_, ?_, ?_⟩
  · rw [er]; exact x4
  · rw [er]; exact x5
  · rw [e.1 _ _ (by unfold sRd; omega)]; exact x6
  · rw [e.1 _ _ (by unfold sRd; omega)]; exact x7
  · rw [e.1 _ _ (by unfold sRd; omega)]; exact x8
  · rw [← x9]; funext k; exact e.1 _ _ (by unfold sRd; omega)
theorem RX.o (X : RX d r m tx h) : gO h 17 4 (0, 6, 14) = some d := gO_y X.1 X.2.2.2.2.1
theorem RX.sign {p : Nat} (X : RX d r m tx h) (hp : gI h 17 3 = nI p) (hm : p < m) : f_X1_sign h = some (tx p) := by
  obtain ⟨x1, x2, x3, x4, x5, x6, x7, x8, x9⟩ := X
  have e : gO h 17 0 (0, 4, 2) = some 10 := by
    unfold gO
    rw [x4]
    rfl
  unfold f_X1_sign
  rw [e, Ib, x6, hp, get_in shf_txts x2 x8 x3 hm, Ib, x9]
theorem RX.sz (X : RX d r m tx h) : gI h 17 2 = nI m := X.2.2.2.2.2.2.1
theorem RX.le (X : RX d r m tx h) : m ≤ 40 := X.2.2.1
theorem skip_ev {p : Nat} (X : RX d r m tx h) (hp : gI h 17 3 = nI p) (hm : p ≤ m) (hF : 40 < F) : ∃ h', f_X1_skipBlanks F h = some h' ∧ Eo (fun a k => a = 17 ∧ k = 3) h h' ∧ gI h' 17 3 = nI (zsk tx (m - p) p) := by
  have m40 := X.le
  unfold f_X1_skipBlanks
  refine fix_post (fun o => ∃ h', o = some h' ∧ Eo (fun a k => a = 17 ∧ k = 3) h h' ∧ gI h' 17 3 = nI (zsk tx (m - p) p)) (fun (k : Nat) (z : Hp) => Eo (fun a k => a = 17 ∧ k = 3) h z ∧ gI z 17 3 = nI (p + k) ∧ zsk tx (m - (p + k)) (p + k) = zsk tx (m - p) p) (m - p) ?_ (by omega) ?_ ?_
  · exact ⟨Eo.refl, hp, rfl⟩
  · rintro k z hk ⟨eo, e3, ez⟩ self hself
    have X' := X.keep (eo.mono fun a k q => Or.inl q)
    simp only [nm]
    rw [X'.sz, e3, if_neg (nle_k (by omega) (by omega)), X'.sign e3 (by omega), Ib]
    have ed : m - (p + k) = (m - (p + (k + 1))) + 1 := by omega
    rw [ed] at ez
    by_cases q : tx (p + k) = 32
    · rw [if_pos q]
      refine hself _ ⟨eo.sI ⟨rfl, rfl⟩, ?_, ?_⟩
      · rw [gI_eq, n_add1]; rfl
      · rw [← ez]
        show _ = (if tx (p + k) = 32 then _ else _)
        rw [if_pos q]; rfl
    · rw [if_neg q]
      refine ⟨z, rfl, eo, ?_⟩
      rw [e3, ← ez]
      show _ = nI (if tx (p + k) = 32 then _ else _)
      rw [if_neg q]
  · rintro z ⟨eo, e3, ez⟩ self
    have X' := X.keep (eo.mono fun a k q => Or.inl q)
    simp only [nm]
    rw [X'.sz, e3, if_pos (by rw [n_le (by omega) (by omega)]; omega)]
    refine ⟨z, rfl, eo, ?_⟩
    rw [e3, ← ez, show m - (p + (m - p)) = 0 by omega]
    rfl
theorem add_no {x : Int32} (X : RX d r m tx h) (hk : kdz x = none) (h1 : ¬ (x = 46 ∨ x = 35)) : f_X1_addCell x h = some (0, h) := by
  unfold f_X1_addCell
  simp only [nm, jn]
  rw [kdz_c, hk, Ib]
  show (if (-9 : Int32) = -9 then _ else _) = _
  rw [i99, if_neg (fun q => h1 (Or.inl q)), if_neg (fun q => h1 (Or.inr q))]
  rfl
theorem add_full {x : Int32} {k : Nat} (X : RX d r m tx h) (D : ZD d S h) (hk : kdz x = some k) (h4 : zrn S = 4) : f_X1_addCell x h = some (0, h) := by
  have hk6 := kdz_lt hk
  unfold f_X1_addCell
  simp only [nm, jn]
  rw [kdz_c, hk, Ib]
  simp only [show oI (some k) = nI k from rfl]
  rw [i_m9 (by omega), i_m9 (by omega), X.o, Ib, D.2.2.2.2.1, h4, if_pos (show nI 4 = 4 from rfl)]
  rfl
theorem add_0 {x : Int32} (X : RX d r m tx h) (D : ZD d S h) (W : ZW S) (hc : zrc S ≠ zlim S) (hk : kdz x = none) (h1 : x = 46 ∨ x = 35) : ∃ h', f_X1_addCell x h = some (1, h') ∧ Eo (fun a _k => d ≤ a ∧ a ≤ d + 7) h h' ∧ ZD d (zad0 S (decide (x = 35))) h' := by
  have hd : d = 41 ∨ d = 49 := X.1
  obtain ⟨d1, d2, d3, d4, d5, d6, d7⟩ := D
  have c12 := (zcl_lt W hc).1
  have b12 : zrb S < 4096 := Nat.lt_of_lt_of_le W.2.2.2.2.2.2.1 (Nat.pow_le_pow_right (n := 2) (by decide) (show zcl S ≤ 12 by omega))
  have p12 : 2 ^ zcl S < 4096 := pow_lt (n := 12) c12
  unfold f_X1_addCell
  simp only [nm, jn]
  rw [kdz_c, hk, Ib]
  rcases h1 with rfl | rfl
  · refine ⟨sI h d 2 (nI (zcl S) + 1), ?_, Eo.refl.sI (by omega), ?_, ?_, ?_, ?_, ?_, fun i hi => ?_, fun i hi => ?_⟩
    · simp only [show oI none = (-9 : Int32) from rfl, if_true]
      rw [if_neg (by decide), Ib, Ib, X.o, Ib, d3]
      rfl
    · rw [gI_nk (by decide)]; exact d1
    · rw [gI_nk (by decide)]; exact d2
    · rw [gI_eq, n_add1]; rfl
    · rw [gI_nk (by decide)]; exact d4
    · rw [gI_nk (by decide)]; exact d5
    · rw [gI_ne (by omega)]; exact d6 i hi
    · rw [gI_ne (by omega)]; exact d7 i hi
  · have X1 : RX d r m tx (sI h d 3 (nI (zrb S) ||| (1 : Int32) <<< (nI (zcl S) &&& 31))) := X.keep (Eo.refl.sI (Or.inr (by omega)))
    refine ⟨sI (sI h d 3 (nI (zrb S) ||| (1 : Int32) <<< (nI (zcl S) &&& 31))) d 2 (nI (zcl S) + 1), ?_, (Eo.refl.sI (by omega)).sI (by omega), ?_, ?_, ?_, ?_, ?_, fun i hi => ?_, fun i hi => ?_⟩
    · simp only [show oI none = (-9 : Int32) from rfl, if_true]
      rw [if_neg (by decide), X.o, Ib, Ib, d3, d4, Ib, Ib, X1.o, Ib, gI_nk (by decide), d3]
      rfl
    · rw [gI_nk (by decide), gI_nk (by decide)]; exact d1
    · rw [gI_nk (by decide), gI_nk (by decide)]; exact d2
    · rw [gI_eq, n_add1]; rfl
    · rw [gI_nk (by decide), gI_eq, n_shl (by omega), n_or (by omega) (by omega)]; rfl
    · rw [gI_nk (by decide), gI_nk (by decide)]; exact d5
    · rw [gI_ne (by omega), gI_ne (by omega)]; exact d6 i hi
    · rw [gI_ne (by omega), gI_ne (by omega)]; exact d7 i hi
theorem add_1 {x : Int32} {k : Nat} (X : RX d r m tx h) (D : ZD d S h) (W : ZW S) (hc : zrc S ≠ zlim S) (hk : kdz x = some k) (h4 : zrn S ≠ 4) : ∃ h', f_X1_addCell x h = some (1, h') ∧ Eo (fun a _k => d ≤ a ∧ a ≤ d + 7) h h' ∧ ZD d (zad1 S k) h' := by
  have hd : d = 41 ∨ d = 49 := X.1
  have n4 := W.2.2.2.2.1
  have hk6 := kdz_lt hk
  obtain ⟨d1, d2, d3, d4, d5, d6, d7⟩ := D
  have c12 := (zcl_lt W hc).1
  have X1 : RX d r m tx (sI h (d + 1) (zrn S) (nI k)) := X.keep (Eo.refl.sI (Or.inr (by omega)))
  have X2 : RX d r m tx (sI (sI h (d + 1) (zrn S) (nI k)) (d + 2) (zrn S) (nI (zcl S))) := X1.keep (Eo.refl.sI (Or.inr (by omega)))
  have X3 : RX d r m tx (sI (sI (sI h (d + 1) (zrn S) (nI k)) (d + 2) (zrn S) (nI (zcl S))) d 4 (nI (zrn S) + 1)) := X2.keep (Eo.refl.sI (Or.inr (by omega)))
  refine ⟨sI (sI (sI (sI h (d + 1) (zrn S) (nI k)) (d + 2) (zrn S) (nI (zcl S))) d 4 (nI (zrn S) + 1)) d 2 (nI (zcl S) + 1), ?_, (((Eo.refl.sI (by omega)).sI (by omega)).sI (by omega)).sI (by omega), ?_, ?_, ?_, ?_, ?_, fun i hi => ?_, fun i hi => ?_⟩
  · unfold f_X1_addCell
    simp only [nm, jn]
    rw [kdz_c, hk, Ib]
    simp only [show oI (some k) = nI k from rfl]
    rw [i_m9 (by omega), i_m9 (by omega), X.o, Ib, d5, if_neg (by rw [lit_4, n_eq (by omega) (by omega)]; exact h4), if_neg (kdz_ne hk).2, Ib]
    rw [i_m9 (by omega), X.o, Ib, Ib, d5, y_rf7 X.1, st_n (y_s1 X.1) (by omega) (by decide), Ib, X1.o, Ib, Ib, Ib, y_rf8 X.1, gI_ne (by omega), gI_ne (by omega), d3, d5, st_n (y_s2 X.1) (by omega) (by decide), Ib, X2.o, Ib, gI_ne (by omega), gI_ne (by omega), d5, Ib, X3.o, Ib, gI_nk (by decide), gI_ne (by omega), gI_ne (by omega), d3]
    rfl
  · rw [gI_nk (by decide), gI_nk (by decide), gI_ne (by omega), gI_ne (by omega)]; exact d1
  · rw [gI_nk (by decide), gI_nk (by decide), gI_ne (by omega), gI_ne (by omega)]; exact d2
  · rw [gI_eq, n_add1]; rfl
  · rw [gI_nk (by decide), gI_nk (by decide), gI_ne (by omega), gI_ne (by omega)]; exact d4
  · rw [gI_nk (by decide), gI_eq, n_add1]; rfl
  · have hi' : i < zrn S + 1 := hi
    show _ = nI (if i = zrn S then k else zrk S i)
    rw [gI_ne (by omega), gI_ne (by omega), gI_ne (by omega), gI_at]
    by_cases q : i = zrn S
    · rw [if_pos q, if_pos q]
    · rw [if_neg q, if_neg q]; exact d6 i (by omega)
  · have hi' : i < zrn S + 1 := hi
    show _ = nI (if i = zrn S then zcl S else zrq S i)
    rw [gI_ne (by omega), gI_ne (by omega), gI_at]
    by_cases q : i = zrn S
    · rw [if_pos q, if_pos q]
    · rw [if_neg q, if_neg q, gI_ne (by omega)]; exact d7 i (by omega)
theorem endl_no (X : RX d r m tx h) (D : ZD d S h) (W : ZW S) (hq : zrc S = 0 ∨ (0 < zrl S ∧ zrc S ≠ zrw S)) : f_X1_endLine (nI (zrc S)) h = some (0, h) := by
  have c12 := zcl_le W
  have w3 := W.2.2.1
  have w4 := W.2.2.2.1
  have c4 : zrc S ≤ 12 := by unfold zcl at c12; omega
  unfold f_X1_endLine
  simp only [nm, jn]
  by_cases q : zrc S = 0
  · rw [q, if_pos (show nI 0 = 0 from rfl)]; rfl
  · have q2 : 0 < zrl S ∧ zrc S ≠ zrw S := by omega
    rw [if_neg (n_nz (by omega) (by omega)), X.o, Ib, D.2.1, if_neg (by rw [lit_0, n_le (by omega) (by decide)]; omega), Ib, D.1, if_neg (by rw [n_eq (by omega) (by omega)]; exact q2.2)]
    rfl
theorem endl_ok (X : RX d r m tx h) (D : ZD d S h) (W : ZW S) (hq : ¬ (zrc S = 0 ∨ (0 < zrl S ∧ zrc S ≠ zrw S))) : ∃ h', f_X1_endLine (nI (zrc S)) h = some (1, h') ∧ Eo (fun a _k => d ≤ a ∧ a ≤ d + 7) h h' ∧ ZD d (zend S) h' := by
  have hd : d = 41 ∨ d = 49 := X.1
  have c12 := zcl_le W
  have ee := zcl_end W hq
  have w3 := W.2.2.1
  have w4 := W.2.2.2.1
  have c4 : zrc S ≤ 12 := by unfold zcl at c12; omega
  have X1 : RX d r m tx (sI h d 0 (nI (zrc S))) := X.keep (Eo.refl.sI (Or.inr (by omega)))
  refine ⟨sI (sI h d 0 (nI (zrc S))) d 1 (nI (zrl S) + 1), ?_, (Eo.refl.sI (by omega)).sI (by omega), ?_, ?_, ?_, ?_, ?_, fun i hi => ?_, fun i hi => ?_⟩
  · unfold f_X1_endLine
    simp only [nm, jn]
    rw [if_neg (n_nz (by omega) (by omega)), X.o, Ib, D.2.1]
    by_cases q : zrl S = 0
    · rw [if_pos (by rw [lit_0, n_le (by omega) (by decide)]; omega), Ib, X1.o, Ib, gI_nk (by decide), D.2.1]
      rfl
    · rw [if_neg (by rw [lit_0, n_le (by omega) (by decide)]; omega), Ib, D.1, if_pos (by rw [n_eq (by omega) (by omega)]; omega), Ib, X1.o, Ib, gI_nk (by decide), D.2.1]
      rfl
  · rw [gI_nk (by decide), gI_eq]; rfl
  · rw [gI_eq, n_add1]; rfl
  · rw [gI_nk (by decide), gI_nk (by decide), D.2.2.1]
    exact congrArg nI ee.symm
  · rw [gI_nk (by decide), gI_nk (by decide)]; exact D.2.2.2.1
  · rw [gI_nk (by decide), gI_nk (by decide)]; exact D.2.2.2.2.1
  · rw [gI_ne (by omega), gI_ne (by omega)]; exact D.2.2.2.2.2.1 i hi
  · rw [gI_ne (by omega), gI_ne (by omega)]; exact D.2.2.2.2.2.2 i hi
end ZCLS
