/-! easter -/
def mAt (n o p : Nat) : Nat := o / 2 ^ (2 * (n - 1 - p)) % 4
def tkm (n o : Nat) : Nat → Nat
  | 0 => 0
  | p + 1 => tkm n o p ||| 2 ^ mAt n o p
def isO (n o : Nat) : Bool := decide (tkm n o n = 2 ^ n - 1)
theorem mAt_lt {n o p : Nat} : mAt n o p < 4 := Nat.mod_lt _ (by decide)
theorem tkm_lt {n o : Nat} : ∀ p, tkm n o p < 16
  | 0 => by show 0 < 16; decide
  | p + 1 => or_lt (k := 4) (tkm_lt p) (pow_lt (n := 4) mAt_lt)
def qm (a b x y : Nat) : Bool := (decide (x = a) && decide (y = b)) || (decide (x = b) && decide (y = a))
def qcP (Z : SS) (P : Nat → Nat) : Nat := sumN (fun q => cnt (fun k => qm (sa Z q) (sb Z q) (P k) (P (sec (yn (sY Z)) k))) (yc (sY Z))) (sq Z)
def mfo (Z : SS) (acc : Nat × Nat) (o : Nat) : Nat × Nat := if qcP Z (mAt (yn (sY Z)) o) < acc.2 then (o, qcP Z (mAt (yn (sY Z)) o)) else acc
def pE (n : Nat) : Nat → Nat → Nat → List Nat
  | 0, _, pc => [pc]
  | r + 1, used, pc => (List.range n).flatMap (fun i => if used.testBit i = true then [] else pE n r (used ||| 2 ^ i) (pc * 4 + i))
theorem pE_fin : alN 5 (fun n => decide (pE n n 0 0 = (List.range (4 ^ n)).filter (isO n))) = true := by decide +kernel
theorem q1_fin : alN 5 (fun n => alN 2 fun r => alN (4 ^ n) fun o => !isO n o || alN n fun a => alN n fun b => decide (a = b) || decide (cnt (fun k => qm a b (mAt n o k) (mAt n o (sec n k))) (chn n (decide (r = 1))) ≤ 1)) = true := by decide +kernel
theorem qc_le {Z : SS} {o : Nat} (w : SWf Z) (ho : o < 4 ^ yn (sY Z)) (hi : isO (yn (sY Z)) o = true) : qcP Z (mAt (yn (sY Z)) o) ≤ 8 := by
  have hn := w.1.2.2.1
  have cr : chn (yn (sY Z)) (decide ((if yr (sY Z) = true then 1 else 0) = 1)) = yc (sY Z) := by
    unfold yc
    congr 1
    cases yr (sY Z) <;> rfl
  have one : ∀ q, q < sq Z → cnt (fun k => qm (sa Z q) (sb Z q) (mAt (yn (sY Z)) o k) (mAt (yn (sY Z)) o (sec (yn (sY Z)) k))) (yc (sY Z)) ≤ 1 := by
    intro q hq
    obtain ⟨a1, a2, a3⟩ := w.2.2.2.2 q hq
    have f := alN_get (alN_get (alN_get q1_fin (show yn (sY Z) < 5 by omega)) (show (if yr (sY Z) = true then 1 else 0) < 2 by split <;> decide)) ho
    rw [hi, Bool.not_true, Bool.false_or] at f
    have f2 := alN_get (alN_get f a1) a2
    rw [decide_eq_false a3, Bool.false_or, decide_eq_true_eq, cr] at f2
    exact f2
  have : ∀ m, m ≤ sq Z → sumN (fun q => cnt (fun k => qm (sa Z q) (sb Z q) (mAt (yn (sY Z)) o k) (mAt (yn (sY Z)) o (sec (yn (sY Z)) k))) (yc (sY Z))) m ≤ m := by
    intro m
    induction m with
    | zero => intro _; exact Nat.le_refl _
    | succ m ih =>
      intro hm
      have := ih (by omega)
      have := one m (by omega)
      show sumN _ m + cnt _ _ ≤ _
      omega
  have h8 := w.2.2.2.1
  have := this (sq Z) (Nat.le_refl _)
  unfold qcP
  omega
section EAST
variable {B F : Nat} {h : Hp} {y : Nat} {Z : SS}
theorem manAt_ev {o p : Nat} (ci : CI y Z h) (W : YW (sY Z)) (hp : p < yn (sY Z)) (ho : o < 2147483648) : f_X7_manAt (nI o) (nI p) h = some (nI (mAt (yn (sY Z)) o p)) := by
  have hn := W.2.2.1
  have hd : o / 2 ^ (2 * (yn (sY Z) - 1 - p)) ≤ o := Nat.div_le_self _ _
  unfold f_X7_manAt
  rw [ci.o, Ib, ci.n, lit_1, pk_sub (by omega), pk_sub (by omega), lit_2, pk_mul, n_shr ho (by omega)]
  have := pk_andN (n := o / 2 ^ (2 * (yn (sY Z) - 1 - p))) (m := 3) (by omega) 2 rfl
  rw [this]
  rfl
theorem isOr_ev {o : Nat} (ci : CI y Z h) (W : YW (sY Z)) (ho : o < 2147483648) (hF : 4 < F) : f_X7_isOrderOfMen F (nI o) h = some (bz (isO (yn (sY Z)) o)) := by
  have hn := W.2.2.1
  unfold f_X7_isOrderOfMen
  refine fix_seq (fun p => (nI (tkm (yn (sY Z)) o p), nI p)) (yn (sY Z)) rfl (fun p hp self => ?_) (fun self => ?_) (by omega)
  · have t16 := tkm_lt (n := yn (sY Z)) (o := o) p
    have m4 := mAt_lt (n := yn (sY Z)) (o := o) (p := p)
    have p16 : 2 ^ mAt (yn (sY Z)) o p < 16 := pow_lt (n := 4) m4
    simp only [ci.o, Ib, ci.n, nm]
    rw [if_neg (nle_k (by omega) hp), manAt_ev ci W hp ho, Ib, n_shl (by omega), n_or (by omega) (by omega), n_add1]
    rfl
  · have t16 := tkm_lt (n := yn (sY Z)) (o := o) (yn (sY Z))
    have p16 : 2 ^ yn (sY Z) ≤ 16 := Nat.pow_le_pow_right (n := 2) (by decide) hn
    have p1 : 0 < 2 ^ yn (sY Z) := Nat.two_pow_pos _
    simp only [ci.o, Ib, ci.n]
    rw [if_pos (rf_le (by omega)), n_shl (by omega), lit_1, pk_sub p1, i_eq (by omega) (by omega)]
    unfold isO
    by_cases q : tkm (yn (sY Z)) o (yn (sY Z)) = 2 ^ yn (sY Z) - 1
    · rw [if_pos q, decide_eq_true q]; rfl
    · rw [if_neg q, decide_eq_false q]; rfl
theorem qIn_ev {o : Nat} (ci : CI y Z h) (w : SWf Z) (ho : o < 2147483648) (hF : 8 < F) : f_X7_quarrelsIn F (nI o) h = some (nI (qcP Z (mAt (yn (sY Z)) o))) := by
  have W := w.1
  have hn := W.2.2.1
  have hc := yc_le W
  have h8 := w.2.2.2.1
  unfold f_X7_quarrelsIn
  refine fix_seq (fun q => (nI (sumN (fun q => cnt (fun k => qm (sa Z q) (sb Z q) (mAt (yn (sY Z)) o k) (mAt (yn (sY Z)) o (sec (yn (sY Z)) k))) (yc (sY Z))) q), nI q)) (sq Z) rfl (fun q hq self => ?_) (fun self => ?_) (by omega)
  · obtain ⟨a1, a2, -⟩ := w.2.2.2.2 q hq
    simp only [ci.q]
    rw [if_neg (nle_k (by omega) hq)]
    generalize hs0 : sumN (fun q => cnt (fun k => qm (sa Z q) (sb Z q) (mAt (yn (sY Z)) o k) (mAt (yn (sY Z)) o (sec (yn (sY Z)) k))) (yc (sY Z))) q = s0
    refine fix_seq (fun k => (nI (s0 + cnt (fun k => qm (sa Z q) (sb Z q) (mAt (yn (sY Z)) o k) (mAt (yn (sY Z)) o (sec (yn (sY Z)) k))) k), nI k)) (yc (sY Z)) rfl (fun k hk self5 => ?_) (fun self5 => ?_) (by omega)
    · have hk2 := chn_2 hk
      have hs2 : sec (yn (sY Z)) k < yn (sY Z) := sec_lt (by omega)
      have m1 := mAt_lt (n := yn (sY Z)) (o := o) (p := k)
      have m2 := mAt_lt (n := yn (sY Z)) (o := o) (p := sec (yn (sY Z)) k)
      simp only [ci.o, Ib, ci.c]
      rw [if_neg (nle_k (by omega) hk), manAt_ev ci W hk2.2 ho, Ib, sec_ev ci.n hn (by omega), Ib, manAt_ev ci W hs2 ho, Ib, ld_38 (by omega), (ci.qq q hq).1, Ib, ld_39 (by omega), (ci.qq q hq).2, Ib, n_add1, n_add1]
      have E1 := n_eq (a := mAt (yn (sY Z)) o k) (b := sa Z q) (by omega) (by omega)
      have E2 := n_eq (a := mAt (yn (sY Z)) o (sec (yn (sY Z)) k)) (b := sb Z q) (by omega) (by omega)
      have E3 := n_eq (a := mAt (yn (sY Z)) o k) (b := sb Z q) (by omega) (by omega)
      have E4 := n_eq (a := mAt (yn (sY Z)) o (sec (yn (sY Z)) k)) (b := sa Z q) (by omega) (by omega)
      have fin : ∀ b : Bool, qm (sa Z q) (sb Z q) (mAt (yn (sY Z)) o k) (mAt (yn (sY Z)) o (sec (yn (sY Z)) k)) = b → self5 (nI (if b = true then s0 + cnt (fun k => qm (sa Z q) (sb Z q) (mAt (yn (sY Z)) o k) (mAt (yn (sY Z)) o (sec (yn (sY Z)) k))) k + 1 else s0 + cnt (fun k => qm (sa Z q) (sb Z q) (mAt (yn (sY Z)) o k) (mAt (yn (sY Z)) o (sec (yn (sY Z)) k))) k), nI (k + 1)) = self5 (nI (s0 + cnt (fun k => qm (sa Z q) (sb Z q) (mAt (yn (sY Z)) o k) (mAt (yn (sY Z)) o (sec (yn (sY Z)) k))) (k + 1)), nI (k + 1)) := by
        intro b hb
        cases b with
        | true => rw [cnt_s1 (p := fun k => qm (sa Z q) (sb Z q) (mAt (yn (sY Z)) o k) (mAt (yn (sY Z)) o (sec (yn (sY Z)) k))) (k := k) hb]; rfl
        | false => rw [cnt_s0 (p := fun k => qm (sa Z q) (sb Z q) (mAt (yn (sY Z)) o k) (mAt (yn (sY Z)) o (sec (yn (sY Z)) k))) (k := k) hb]; rfl
      unfold qm at fin
      rcases Classical.propComplete (mAt (yn (sY Z)) o k = sa Z q) with q1 | q1 <;> rcases Classical.propComplete (mAt (yn (sY Z)) o (sec (yn (sY Z)) k) = sb Z q) with q2 | q2 <;> rcases Classical.propComplete (mAt (yn (sY Z)) o k = sb Z q) with q3 | q3 <;> rcases Classical.propComplete (mAt (yn (sY Z)) o (sec (yn (sY Z)) k) = sa Z q) with q4 | q4 <;> simp only [E1, E2, E3, E4, q1, q2, q3, q4, if_true, if_false, Ib, i00, i10] <;> first | exact fin true (by simp [q1, q2, q3, q4]) | exact fin false (by simp [q1, q2, q3, q4])
    · simp only [ci.o, Ib, ci.c]
      rw [if_pos (rf_le (by omega)), n_add1, ← hs0]
      rfl
  · simp only [ci.q]
    rw [if_pos (rf_le (by omega))]
    rfl
theorem qNow_ev {P : Nat → Nat} (mi : MI Z h) (w : SWf Z) (hP : ∀ i, i < yn (sY Z) → gI h 104 i = nI (P i) ∧ P i < 4) (hF : 8 < F) : f_X8_quarrelsNow F h = some (nI (qcP Z P)) := by
  have W := w.1
  have hn := W.2.2.1
  have hc := yc_le W
  have h8 := w.2.2.2.1
  unfold f_X8_quarrelsNow
  refine fix_seq (fun q => (nI (sumN (fun q => cnt (fun k => qm (sa Z q) (sb Z q) (P k) (P (sec (yn (sY Z)) k))) (yc (sY Z))) q), nI q)) (sq Z) rfl (fun q hq self => ?_) (fun self => ?_) (by omega)
  · obtain ⟨a1, a2, -⟩ := w.2.2.2.2 q hq
    simp only [mi.q]
    rw [if_neg (nle_k (by omega) hq)]
    generalize hs0 : sumN (fun q => cnt (fun k => qm (sa Z q) (sb Z q) (P k) (P (sec (yn (sY Z)) k))) (yc (sY Z))) q = s0
    refine fix_seq (fun k => (nI (s0 + cnt (fun k => qm (sa Z q) (sb Z q) (P k) (P (sec (yn (sY Z)) k))) k), nI k)) (yc (sY Z)) rfl (fun k hk self5 => ?_) (fun self5 => ?_) (by omega)
    · have hk2 := chn_2 hk
      have hs2 : sec (yn (sY Z)) k < yn (sY Z) := sec_lt (by omega)
      obtain ⟨p1, p2⟩ := hP k hk2.2
      obtain ⟨p3, p4⟩ := hP _ hs2
      simp only [mi.my.2.2.2.1]
      rw [if_neg (nle_k (by omega) hk), ld_104 (by omega), p1, Ib, other_ev mi.my W hk2.2, Ib, ld_104 (by omega), p3, Ib, ld_102 (by omega), (mi.qq q hq).1, Ib, Ib, ld_103 (by omega), (mi.qq q hq).2, Ib, n_add1]
      have E1 : (nI (sa Z q) = nI (P k)) = (P k = sa Z q) := by rw [n_eq (by omega) (by omega)]; exact propext eq_comm
      have E2 : (nI (sb Z q) = nI (P (sec (yn (sY Z)) k))) = (P (sec (yn (sY Z)) k) = sb Z q) := by rw [n_eq (by omega) (by omega)]; exact propext eq_comm
      have E3 : (nI (sb Z q) = nI (P k)) = (P k = sb Z q) := by rw [n_eq (by omega) (by omega)]; exact propext eq_comm
      have E4 : (nI (sa Z q) = nI (P (sec (yn (sY Z)) k))) = (P (sec (yn (sY Z)) k) = sa Z q) := by rw [n_eq (by omega) (by omega)]; exact propext eq_comm
      have fin : ∀ b : Bool, qm (sa Z q) (sb Z q) (P k) (P (sec (yn (sY Z)) k)) = b → self5 (nI (s0 + cnt (fun k => qm (sa Z q) (sb Z q) (P k) (P (sec (yn (sY Z)) k))) k) + bz b, nI (k + 1)) = self5 (nI (s0 + cnt (fun k => qm (sa Z q) (sb Z q) (P k) (P (sec (yn (sY Z)) k))) (k + 1)), nI (k + 1)) := by
        intro b hb
        cases b with
        | true => rw [cnt_s1 (p := fun k => qm (sa Z q) (sb Z q) (P k) (P (sec (yn (sY Z)) k))) (k := k) hb]; show self5 (_ + 1, _) = _; rw [n_add1]; rfl
        | false => rw [cnt_s0 (p := fun k => qm (sa Z q) (sb Z q) (P k) (P (sec (yn (sY Z)) k))) (k := k) hb]; show self5 (_ + 0, _) = _; rw [Int32.add_zero]
      unfold qm at fin
      rcases Classical.propComplete (P k = sa Z q) with q1 | q1 <;> rcases Classical.propComplete (P (sec (yn (sY Z)) k) = sb Z q) with q2 | q2 <;> rcases Classical.propComplete (P k = sb Z q) with q3 | q3 <;> rcases Classical.propComplete (P (sec (yn (sY Z)) k) = sa Z q) with q4 | q4 <;> simp only [E1, E2, E3, E4, q1, q2, q3, q4, if_true, if_false, Ib] <;> first | exact fin true (by simp [q1, q2, q3, q4]) | exact fin false (by simp [q1, q2, q3, q4])
    · simp only [mi.my.2.2.2.1]
      rw [if_pos (rf_le (by omega)), n_add1, ← hs0]
      rfl
  · simp only [mi.q]
    rw [if_pos (rf_le (by omega))]
    rfl
def sEa (a k : Nat) : Prop := a = 104 ∨ a = 105 ∨ a = 66 ∧ k = 61
theorem MI.ofEa {h' : Hp} (M : MI Z h) (e : Eo sEa h h') : MI Z h' := M.keep fun a k q => e.1 a k (fun z => by unfold cM at q; unfold sEa at z; omega)
def eRep (Z : SS) (acc : Nat × Nat) (h : Hp) : Prop := gI h 66 61 = nI acc.2 ∧ acc.2 ≤ 99999 ∧ (acc.2 < 99999 → ∀ i, i < yn (sY Z) → gI h 105 i = nI (mAt (yn (sY Z)) acc.1 i))
theorem dig_s {d i pc v : Nat} (hi : i < d) (hv : v < 4) : (pc * 4 + v) / 2 ^ (2 * (d + 1 - 1 - i)) % 4 = pc / 2 ^ (2 * (d - 1 - i)) % 4 := by
  rw [show 2 * (d + 1 - 1 - i) = 2 + 2 * (d - 1 - i) by omega, Nat.pow_add, ← Nat.div_div_eq_div_mul, show (pc * 4 + v) / 2 ^ 2 = pc by omega]
theorem layC_ev (w : SWf Z) (hF : 8 < F) : ∀ (r D d used pc : Nat) (acc : Nat × Nat) (h : Hp), d + r = yn (sY Z) → r < D → used < 16 → MI Z h → eRep Z acc h → (∀ i, i < d → gI h 104 i = nI (mAt d pc i)) → ∃ h', f_X8_layChained F D (nI d) (nI used) h = some h' ∧ eRep Z ((pE (yn (sY Z)) r used pc).foldl (mfo Z) acc) h' ∧ Eo sEa h h' ∧ ∀ i, i < d → gI h' 104 i = gI h 104 i
  | 0, D + 1, d, used, pc, acc, h, hd, _, hu, mi, er, hc => by
    have W := w.1
    have hn := W.2.2.1
    have hd' : d = yn (sY Z) := by omega
    subst hd'
    have qn := qNow_ev (F := F) (P := mAt (yn (sY Z)) pc) mi w (fun i hi => ⟨hc i hi, mAt_lt⟩) hF
    have q8 : qcP Z (mAt (yn (sY Z)) pc) ≤ 32 := by
      have h8 := w.2.2.2.1
      have hch := yc_le W
      have : ∀ m, sumN (fun q => cnt (fun k => qm (sa Z q) (sb Z q) (mAt (yn (sY Z)) pc k) (mAt (yn (sY Z)) pc (sec (yn (sY Z)) k))) (yc (sY Z))) m ≤ 4 * m := by
        intro m
        induction m with
        | zero => exact Nat.le_refl _
        | succ m ih =>
          have := cnt_le (fun k => qm (sa Z m) (sb Z m) (mAt (yn (sY Z)) pc k) (mAt (yn (sY Z)) pc (sec (yn (sY Z)) k))) (yc (sY Z))
          show sumN _ m + cnt _ _ ≤ _
          omega
      have := this (sq Z)
      unfold qcP
      omega
    obtain ⟨e1, e2, e3⟩ := er
    unfold f_X8_layChained
    rw [mi.my.2.2.1, if_pos rfl, qn, Ib, e1, i_le (by omega) (by omega)]
    show ∃ h', _ ∧ eRep Z (mfo Z acc pc) h' ∧ _
    unfold mfo
    by_cases q : acc.2 ≤ qcP Z (mAt (yn (sY Z)) pc)
    · rw [if_pos q, if_neg (by omega)]
      exact ⟨h, rfl, ⟨e1, e2, e3⟩, Eo.refl, fun _ _ => rfl⟩
    · rw [if_neg q, if_pos (by omega)]
      simp only [nm]
      refine ⟨sA (sI h 66 61 (nI (qcP Z (mAt (yn (sY Z)) pc)))) 105 (va_cpy (gI h 104) (gI h 105) 0 0 (yn (sY Z))), ?_, ⟨?_, by show qcP Z _ ≤ 99999; omega, fun _ i hi => ?_⟩, (Eo.refl.sI (Or.inr (Or.inr ⟨rfl, rfl⟩))).sA (fun k => Or.inr (Or.inl rfl)), fun i hi => ?_⟩
      · refine (cpy_loop (a := 104) (b := 105) (na := 4) (nb := 4) (sp := 0) (dp := 0) (n := yn (sY Z)) (fun h0 => some h0) (fun h0 => gI h0 66 10) (fun _ x => x) (fun _ x => x) (by decide) rfl rfl (by omega) (by omega) (by decide) (by decide) (fun f => ?_) (fun f k hk => by rw [Nat.zero_add]) (fun f k hk => by rw [Nat.zero_add]) (by omega)).trans ?_
        · rw [gAj_ne (by decide), gI_nk (by decide)]; exact mi.my.2.2.1
        · rw [gf_ne (by decide), gf_ne (by decide)]
      · rw [gAj_ne (by decide), gI_eq]
      · rw [gAj_eq, pk_cpy_in (by omega) (by omega), Nat.sub_zero, Nat.zero_add]
        exact hc i hi
      · rw [gAj_ne (by decide), gI_ne (by decide)]
  | r + 1, D + 1, d, used, pc, acc, h, hd, hD, hu, mi, er, hc => by
    have W := w.1
    have hn := W.2.2.1
    unfold f_X8_layChained
    rw [mi.my.2.2.1, i_eq (by omega) (by omega), if_neg (by omega)]
    refine fix_post (fun x => ∃ h', x = some h' ∧ eRep Z ((pE (yn (sY Z)) (r + 1) used pc).foldl (mfo Z) acc) h' ∧ Eo sEa h h' ∧ ∀ i, i < d → gI h' 104 i = gI h 104 i) (fun (j : Nat) (z : Int32 × Hp) => z.1 = nI j ∧ eRep Z (((List.range j).flatMap (fun i => if used.testBit i = true then [] else pE (yn (sY Z)) r (used ||| 2 ^ i) (pc * 4 + i))).foldl (mfo Z) acc) z.2 ∧ Eo sEa h z.2 ∧ ∀ i, i < d → gI z.2 104 i = gI h 104 i) (yn (sY Z)) ?_ (by omega) ?_ ?_
    · exact ⟨rfl, er, Eo.refl, fun _ _ => rfl⟩
    · rintro j ⟨z1, g⟩ hj ⟨rfl, erg, eo, hpre⟩ self hself
      have M := mi.ofEa eo
      simp only at erg eo hpre ⊢
      rw [M.my.2.2.1, if_neg (nle_k (by omega) hj), hasb_ev (by omega) (by omega), Ib, i_bz0, n_add1]
      have fl : (List.range (j + 1)).flatMap (fun i => if used.testBit i = true then [] else pE (yn (sY Z)) r (used ||| 2 ^ i) (pc * 4 + i)) = (List.range j).flatMap (fun i => if used.testBit i = true then [] else pE (yn (sY Z)) r (used ||| 2 ^ i) (pc * 4 + i)) ++ (if used.testBit j = true then [] else pE (yn (sY Z)) r (used ||| 2 ^ j) (pc * 4 + j)) := by
        rw [List.range_succ, List.flatMap_append]
        simp
      by_cases q : used.testBit j = true
      · rw [if_pos q, Ib]
        refine hself _ ⟨n_add1 j, ?_, eo, hpre⟩
        rw [fl, if_pos q, List.append_nil]
        exact erg
      · have p16 : 2 ^ j < 16 := pow_lt (n := 4) (by omega)
        rw [if_neg q, st_104 (by omega), Ib, n_shl (by omega), n_or (by omega) (by omega), n_add1]
        obtain ⟨h', b1, b2, b3, b4⟩ := layC_ev w hF r D (d + 1) (used ||| 2 ^ j) (pc * 4 + j) _ (sI g 104 d (nI j)) (by omega) (by omega) (or_lt (k := 4) hu p16) (mi.ofEa (eo.sI (Or.inl rfl))) (show eRep Z _ (sI g 104 d (nI j)) from ⟨by rw [gI_ne (by decide)]; exact erg.1, erg.2.1, fun z i hi => by rw [gI_ne (by decide)]; exact erg.2.2 z i hi⟩) (fun i hi => by
          rw [gI_at]
          by_cases e : i = d
          · rw [if_pos e, e]
            unfold mAt
            rw [show d + 1 - 1 - d = 0 by omega, Nat.mul_zero, Nat.pow_zero, Nat.div_one, show (pc * 4 + j) % 4 = j by omega]
          · rw [if_neg e, hpre i (by omega), hc i (by omega)]
            unfold mAt
            rw [dig_s (by omega) (by omega)])
        rw [b1, Ib, Ib]
        refine hself _ ⟨rfl, ?_, (eo.sI (Or.inl rfl)).trans b3, fun i hi => ?_⟩
        · rw [fl, if_neg q, List.foldl_append]
          exact b2
        · show gI h' 104 i = _
          rw [b4 i (by omega), gI_nk (by omega)]
          exact hpre i hi
    · rintro ⟨z1, g⟩ ⟨rfl, erg, eo, hpre⟩ self
      simp only at erg eo hpre ⊢
      rw [(mi.ofEa eo).my.2.2.1, if_pos (rf_le (by omega))]
      exact ⟨g, rfl, erg, eo, hpre⟩
theorem foldl_fil {Z : SS} {a : Nat × Nat} : ∀ m, ((List.range m).filter (isO (yn (sY Z)))).foldl (mfo Z) a = (List.range m).foldl (fun acc o => if isO (yn (sY Z)) o = true then mfo Z acc o else acc) a
  | 0 => rfl
  | m + 1 => by
    rw [List.range_succ, List.filter_append, List.foldl_append, List.foldl_append, foldl_fil m]
    by_cases q : isO (yn (sY Z)) m = true
    · simp [q]
    · simp [q]
theorem mfo_start {Z : SS} : ∀ (L : List Nat), L ≠ [] → (∀ o, o ∈ L → qcP Z (mAt (yn (sY Z)) o) ≤ 8) → L.foldl (mfo Z) (0, 99999) = L.foldl (mfo Z) (0, 9)
  | [], h, _ => absurd rfl h
  | o :: L, _, h => by
    have h8 := h o List.mem_cons_self
    rw [List.foldl_cons, List.foldl_cons]
    have e1 : mfo Z (0, 99999) o = (o, qcP Z (mAt (yn (sY Z)) o)) := by
      unfold mfo
      rw [if_pos (by show _ < 99999; omega)]
    have e2 : mfo Z (0, 9) o = (o, qcP Z (mAt (yn (sY Z)) o)) := by
      unfold mfo
      rw [if_pos (by show _ < 9; omega)]
    rw [e1, e2]
theorem mfo_le {Z : SS} : ∀ (L : List Nat) (a : Nat × Nat), (L.foldl (mfo Z) a).2 ≤ a.2
  | [], a => Nat.le_refl _
  | o :: L, a => by
    rw [List.foldl_cons]
    refine Nat.le_trans (mfo_le L _) ?_
    unfold mfo
    split
    · show qcP Z _ ≤ a.2; omega
    · exact Nat.le_refl _
theorem mfo_lt {Z : SS} {N : Nat} : ∀ (L : List Nat) (a : Nat × Nat), a.1 < N → (∀ o, o ∈ L → o < N) → (L.foldl (mfo Z) a).1 < N
  | [], a, h, _ => h
  | o :: L, a, h, hL => by
    rw [List.foldl_cons]
    refine mfo_lt L _ ?_ (fun x hx => hL x (List.mem_cons_of_mem _ hx))
    unfold mfo
    split
    · exact hL o List.mem_cons_self
    · exact h
/-- the class looks through all orders -/
def eaf (n b : Nat) (k : Nat) : Nat → Int32 := fun j => if j < k then nI (mAt n b j) else 0
theorem ceaster_ev {r : Nat} (ci : CI y Z h) (w : SWf Z) (hr : r < 6) (q0 : ¬ yn (sY Z) = 0) (hF : 256 < F) : f_X7_easter F (nI r) h = some (nI (((List.range (4 ^ yn (sY Z))).filter (isO (yn (sY Z)))).foldl (mfo Z) (0, 9)).2, sA (sI h 9 r (nI (yn (sY Z)))) (3 + r) (fun j => if j < 40 then eaf (yn (sY Z)) (((List.range (4 ^ yn (sY Z))).filter (isO (yn (sY Z)))).foldl (mfo Z) (0, 9)).1 (yn (sY Z)) j else gI h (3 + r) j)) := by
  have W := w.1
  have hn := W.2.2.1
  have p4 : 4 ^ yn (sY Z) ≤ 256 := Nat.pow_le_pow_right (n := 4) (by decide) hn
  have e4 : 2 ^ (2 * yn (sY Z)) = 4 ^ yn (sY Z) := by rw [Nat.pow_mul]
  rw [foldl_fil]
  unfold f_X7_easter
  rw [knows_yes shf_rows hr, Ib, i10, ci.o, Ib, ci.n, if_neg (n_nz (by omega) (by omega)), lit_2, pk_mul, n_shl (by omega), e4]
  refine fix_seq (fun k => (nI ((List.range k).foldl (fun acc o => if isO (yn (sY Z)) o = true then mfo Z acc o else acc) (0, 9)).1, nI ((List.range k).foldl (fun acc o => if isO (yn (sY Z)) o = true then mfo Z acc o else acc) (0, 9)).2, nI k)) (4 ^ yn (sY Z)) rfl (fun k hk self => ?_) (fun self => ?_) (by omega)
  · have b2 : ((List.range k).foldl (fun acc o => if isO (yn (sY Z)) o = true then mfo Z acc o else acc) (0, 9)).2 ≤ 9 := by
      rw [← foldl_fil]
      exact mfo_le _ _
    have st : (List.range (k + 1)).foldl (fun acc o => if isO (yn (sY Z)) o = true then mfo Z acc o else acc) (0, 9) = if isO (yn (sY Z)) k = true then mfo Z ((List.range k).foldl (fun acc o => if isO (yn (sY Z)) o = true then mfo Z acc o else acc) (0, 9)) k else (List.range k).foldl (fun acc o => if isO (yn (sY Z)) o = true then mfo Z acc o else acc) (0, 9) := by
      rw [List.range_succ, List.foldl_append]; rfl
    generalize (List.range k).foldl (fun acc o => if isO (yn (sY Z)) o = true then mfo Z acc o else acc) (0, 9) = acc at *
    rw [st]
    simp only
    rw [if_neg (nle_k (by omega) hk), isOr_ev ci W (by omega) (by omega), Ib, i_bz0, qIn_ev ci w (by omega) (by omega), Ib, n_add1]
    by_cases q : isO (yn (sY Z)) k = true
    · have h8 := qc_le w hk q
      rw [if_pos q, if_pos q, Ib, i_le (by omega) (by omega)]
      unfold mfo
      by_cases q2 : acc.2 ≤ qcP Z (mAt (yn (sY Z)) k)
      · rw [if_pos q2, Ib, if_neg (by omega)]
      · rw [if_neg q2, Ib, if_pos (by omega)]
    · rw [if_neg q, if_neg q, Ib, if_pos (rf_le (by omega)), Ib]
  · have bl : ((List.range (4 ^ yn (sY Z))).foldl (fun acc o => if isO (yn (sY Z)) o = true then mfo Z acc o else acc) (0, 9)).1 < 4 ^ yn (sY Z) := by
      rw [← foldl_fil]
      exact mfo_lt _ _ (Nat.pow_pos (by decide)) (fun o ho => List.mem_range.mp (List.mem_filter.mp ho).1)
    generalize (List.range (4 ^ yn (sY Z))).foldl (fun acc o => if isO (yn (sY Z)) o = true then mfo Z acc o else acc) (0, 9) = acc at *
    simp only
    rw [if_pos (rf_le (by omega)), make_yes shf_rows hr (by omega) (by omega), Ib]
    refine fix_seq (fun k => (nI k, sA (sI h 9 r (nI (yn (sY Z)))) (3 + r) (fun j => if j < 40 then eaf (yn (sY Z)) acc.1 k j else gI h (3 + r) j))) (yn (sY Z)) ?_ (fun k hk self2 => ?_) (fun self2 => ?_) (by omega)
    · refine Prod.ext rfl ?_
      show sA _ _ _ = sA _ _ _
      congr 1
      funext j
      unfold fil eaf
      by_cases z : j < 40
      · rw [if_pos z, if_neg (by omega), if_pos (by omega)]
      · rw [if_neg z, if_neg (by omega)]
    · have cig : CI y Z (sA (sI h 9 r (nI (yn (sY Z)))) (3 + r) (fun j => if j < 40 then eaf (yn (sY Z)) acc.1 k j else gI h (3 + r) j)) := by
        have hy : y = 41 ∨ y = 49 := ci.1
        exact ci.keep (fun a k z => by rw [gI_sA, if_neg (by unfold cCy at z; omega), gI_sI, if_neg (by unfold cCy at z; omega)]) rfl rfl rfl
      simp only
      rw [if_neg (nle_k (by omega) hk), manAt_ev cig W hk (by omega), Ib, set_in (m := yn (sY Z)) shf_rows hr (by rw [gAj_ne (by omega), gI_eq]) (by omega) hk, Ib, sI_sA, n_add1]
      congr 3
      funext j
      unfold upd eaf
      by_cases z : j = k
      · rw [if_pos z, if_pos (by omega), if_pos (by omega), z]
      · rw [if_neg z]
        by_cases z2 : j < k
        · simp only [z2, if_true, show j < k + 1 by omega]
        · simp only [z2, if_false, show ¬ j < k + 1 by omega]
    · simp only
      rw [if_pos (rf_le (by omega))]
theorem alk_easter {x : Int32} (I : Inv0 (PB B) h) (hF : 256 < F) : Alk2 (PB B) (PB B) (f_X7_easter F x) (f_X8_easter F x) h := by
  obtain ⟨y, Z, w, ci, mi, si⟩ := PB_oth.mp I.2.2.2
  have W := w.1
  have hn := W.2.2.1
  by_cases hx : inR x 6
  · obtain ⟨r, hr, rfl⟩ := hx
    by_cases q0 : yn (sY Z) = 0
    · refine alk_two (fun _ q => q) I (v := -4) ?_ ?_
      · unfold f_X7_easter
        rw [knows_yes shf_rows hr, Ib, i10, ci.o, Ib, ci.n, q0, if_pos (by decide)]
      · unfold f_X8_easter
        rw [isRow_yes hr, Ib, i10, mi.my.2.2.1, q0, if_pos (by decide)]
    · have hpe := of_decide_eq_true (alN_get pE_fin (show yn (sY Z) < 5 by omega))
      have hne : (List.range (4 ^ yn (sY Z))).filter (isO (yn (sY Z))) ≠ [] := by
        have : alN 5 (fun n => !decide ((List.range (4 ^ n)).filter (isO n) = [])) = true := by decide +kernel
        have := alN_get this (show yn (sY Z) < 5 by omega)
        simpa using this
      have hms := mfo_start (Z := Z) _ hne (fun o ho => qc_le w (List.mem_range.mp (List.mem_filter.mp ho).1) (List.mem_filter.mp ho).2)
      have hl9 := mfo_le (Z := Z) ((List.range (4 ^ yn (sY Z))).filter (isO (yn (sY Z)))) (0, 9)
      have ce := ceaster_ev ci w hr q0 hF
      rw [← hpe] at hms hl9 ce
      generalize ((pE (yn (sY Z)) (yn (sY Z)) 0 0).foldl (mfo Z) (0, 9)) = acc at *
      refine alk_rowsR I mi ⟨_, r, yn (sY Z), h, _, hr, by omega, ce, Sm1.refl, y, Z, w, ci, si, fun h' mi' hh => ?_⟩
      have er0 : eRep Z (0, 99999) (sI h' 66 61 (99999 : Int32)) := ⟨gI_eq, Nat.le_refl _, fun z => absurd z (Nat.lt_irrefl _)⟩
      have e0 : Eo sEa h' (sI h' 66 61 (99999 : Int32)) := Eo.refl.sI (Or.inr (Or.inr ⟨rfl, rfl⟩))
      obtain ⟨h2, b1, b2, b3, -⟩ := layC_ev (F := F) w (by omega) (yn (sY Z)) 7 0 0 0 (0, 99999) (sI h' 66 61 (99999 : Int32)) (by omega) (by omega) (by decide) (mi'.ofEa e0) er0 (fun i hi => absurd hi (Nat.not_lt_zero i))
      rw [hms] at b2
      have eo2 := e0.trans b3
      have M2 := mi'.ofEa eo2
      have g61 : gI h2 66 61 = nI acc.2 := b2.1
      refine ⟨h2, fun j => if 40 * r ≤ j ∧ j < 40 * r + 40 then (if j - 40 * r < yn (sY Z) then nI (mAt (yn (sY Z)) acc.1 (j - 40 * r)) else 0) else gI h2 69 j, ?_, ⟨fun a k q => eo2.1 a k (fun z => by unfold sEa at z; rw [irr_iff] at q; omega), by show h2.2.1 = h'.2.1; rw [eo2.2]⟩, M2, fun i hi => ?_, fun j hj hno => ?_⟩
      · unfold f_X8_easter
        simp only [nm]
        rw [isRow_yes hr, Ib, i10, mi'.my.2.2.1, if_neg (n_nz (by omega) (by omega)), lit_0, b1, Ib, M2.my.2.2.1, st_68 hr, Ib]
        refine fix_seq (fun k => (nI k, sA (sI h2 68 r (nI (yn (sY Z)))) 69 (fun j => if 40 * r ≤ j ∧ j < 40 * r + k then (if j - 40 * r < yn (sY Z) then nI (mAt (yn (sY Z)) acc.1 (j - 40 * r)) else 0) else gI h2 69 j))) 40 ?_ (fun k hk self => ?_) (fun self => ?_) (by omega)
        · refine Prod.ext rfl (sA_self fun j => ?_)
          rw [if_neg (by omega), gI_ne (by decide)]
        · simp only
          rw [lit_40, if_neg (nle_k (by decide) hk), gAj_ne (by decide), gI_ne (by decide), M2.my.2.2.1, i_le (by omega) (by omega), pk_mul, nI_add, n_add1]
          have fin : ∀ v : Int32, v = (if k < yn (sY Z) then nI (mAt (yn (sY Z)) acc.1 k) else 0) → ((stI (sA (sI h2 68 r (nI (yn (sY Z)))) 69 (fun j => if 40 * r ≤ j ∧ j < 40 * r + k then (if j - 40 * r < yn (sY Z) then nI (mAt (yn (sY Z)) acc.1 (j - 40 * r)) else 0) else gI h2 69 j)) 69 (nI (40 * r + k)) v).bind fun h12 => self (nI (k + 1), h12)) = self (nI (k + 1), sA (sI h2 68 r (nI (yn (sY Z)))) 69 (fun j => if 40 * r ≤ j ∧ j < 40 * r + (k + 1) then (if j - 40 * r < yn (sY Z) then nI (mAt (yn (sY Z)) acc.1 (j - 40 * r)) else 0) else gI h2 69 j)) := by
            intro v hv
            rw [st_69 (by omega), Ib, sI_sA, hv]
            congr 3
            funext j
            unfold upd
            by_cases z : j = 40 * r + k
            · rw [if_pos z, if_pos (show 40 * r ≤ j ∧ j < 40 * r + (k + 1) by omega), z, show 40 * r + k - 40 * r = k by omega]
            · rw [if_neg z]
              show (if 40 * r ≤ j ∧ j < 40 * r + k then _ else _) = _
              by_cases z2 : 40 * r ≤ j ∧ j < 40 * r + k
              · rw [if_pos z2, if_pos (show 40 * r ≤ j ∧ j < 40 * r + (k + 1) by omega)]
              · rw [if_neg z2, if_neg (by omega)]
          by_cases q : yn (sY Z) ≤ k
          · rw [if_pos q, Ib]
            exact fin 0 (by rw [if_neg (by omega)])
          · rw [if_neg q, ld_105 (by omega), gAj_ne (by decide), gI_ne (by decide), b2.2.2 (show acc.2 < 99999 by have : acc.2 ≤ 9 := hl9; omega) k (by omega), Ib, Ib]
            exact fin _ (by rw [if_pos (by omega)])
        · simp only
          rw [lit_40, if_pos (rf_le (by decide)), gAj_ne (by decide), gI_ne (by decide), g61]
          rfl
      · simp only
        unfold eaf
        rw [if_pos (show 40 * r ≤ 40 * r + i ∧ 40 * r + i < 40 * r + 40 by omega), if_pos hi, show 40 * r + i - 40 * r = i by omega]
      · simp only
        rw [if_neg hno]
  · refine alk_two (fun _ q => q) I (v := -1) ?_ ?_
    · unfold f_X7_easter
      rw [knows_no shf_rows hx, Ib, i00]
    · unfold f_X8_easter
      rw [isRow_no hx, Ib, i00]
end EAST
