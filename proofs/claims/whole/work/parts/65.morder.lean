/-! order: the model -/
theorem asc_fin : alN 6 (fun m => alN 32 fun l => alN m fun j => !l.testBit j || (decide ((asc m (clw l j)).length + 1 = (asc m l).length) && (!alN j (fun w => !l.testBit w) || decide (asc m l = j :: asc m (clw l j))))) = true := by decide +kernel
theorem asc_1 {m l j : Nat} (hm : m ≤ 5) (hl : l < 32) (hj : j < m) (h : l.testBit j = true) : (asc m (clw l j)).length + 1 = (asc m l).length ∧ ((∀ w, w < j → l.testBit w = false) → asc m l = j :: asc m (clw l j)) := by
  have f := alN_get (alN_get (alN_get asc_fin (show m < 6 by omega)) hl) hj
  rw [h, Bool.not_true, Bool.false_or, Bool.and_eq_true, decide_eq_true_eq] at f
  refine ⟨f.1, fun hw => ?_⟩
  have f2 := f.2
  rw [show alN j (fun w => !l.testBit w) = true by rw [alN_t]; exact fun w hw' => by rw [hw w hw']; rfl, Bool.not_true, Bool.false_or, decide_eq_true_eq] at f2
  exact f2
theorem asc_0 {m l : Nat} (h : ∀ w, w < m → l.testBit w = false) : asc m l = [] := by
  unfold asc
  rw [List.filter_eq_nil_iff]
  intro w hw
  rw [h w (List.mem_range.mp hw)]
  decide
theorem asc_nil {m l : Nat} (h : (asc m l).length = 0) : asc m l = [] := List.eq_nil_of_length_eq_zero h
theorem ofr_2 {acc : Bst} {a st : Nat} {L L' : List Nat} : ofr (ofr acc a st L) a st L' = ofr acc a st L := by
  refine ofr_id ?_
  unfold ofr
  by_cases q : btr a st acc = true
  · rw [if_pos q]
    exact ⟨(a, st, L), rfl, Or.inr ⟨rfl, Nat.le_refl _⟩⟩
  · rw [if_neg q]
    exact btr_f.mp (by simpa using q)
theorem ofr_y {acc : Bst} {a st : Nat} {L : List Nat} (h : btr a st acc = true) : ofr acc a st L = some (a, st, L) := by
  unfold ofr
  rw [if_pos h]
theorem ofr_n {acc : Bst} {a st : Nat} {L : List Nat} (h : btr a st acc = false) : ofr acc a st L = acc := by
  unfold ofr
  rw [if_neg (by rw [h]; decide)]
def BstW (acc : Bst) : Prop := ∀ x, acc = some x → x.1 ≤ 5 ∧ x.2.1 ≤ 60000
theorem BstW.off {acc : Bst} {a st : Nat} {L : List Nat} (h : BstW acc) (h1 : a ≤ 5) (h2 : st ≤ 60000) : BstW (ofr acc a st L) := by
  unfold ofr
  split
  · intro x hx; cases hx; exact ⟨h1, h2⟩
  · exact h
def mRep (m : Nat) (acc : Bst) (h : Hp) : Prop := BstW acc ∧ match acc with
  | none => gI h 66 54 = -1 ∧ gI h 66 55 = nI 99999
  | some x => gI h 66 54 = nI x.1 ∧ gI h 66 55 = nI x.2.1 ∧ ∀ i, i < m → gI h 101 i = nI (x.2.2.getD i 0)
def sOD (a k : Nat) : Prop := a = 100 ∨ a = 101 ∨ a = 66 ∧ (k = 54 ∨ k = 55)
def sOM (a k : Nat) : Prop := sML a k ∨ a = 98 ∨ a = 99 ∨ sOD a k
theorem Eo.od {h h' : Hp} (e : Eo sOD h h') : Eo sOM h h' := e.mono fun a k q => Or.inr (Or.inr (Or.inr q))
theorem Eo.mb {h h' : Hp} (e : Eo sMB h h') : Eo sOM h h' := e.mono fun a k q => by
  rcases q with q | q | q
  · exact Or.inl q
  · exact Or.inr (Or.inl q)
  · exact Or.inr (Or.inr (Or.inl q))
theorem mRep.keep {m : Nat} {acc : Bst} {h h' : Hp} (R : mRep m acc h) (e1 : gI h' 66 54 = gI h 66 54) (e2 : gI h' 66 55 = gI h 66 55) (e3 : gI h' 101 = gI h 101) : mRep m acc h' := by
  obtain ⟨r1, r2⟩ := R
  refine ⟨r1, ?_⟩
  cases acc with
  | none => exact ⟨e1.trans r2.1, e2.trans r2.2⟩
  | some x => exact ⟨e1.trans r2.1, e2.trans r2.2.1, fun i hi => by rw [e3]; exact r2.2.2 i hi⟩
section MORD
variable {h : Hp} {F m : Nat}
theorem mleaf_ev {D met st : Nat} {used : Int32} {pre : List Nat} {acc : Bst} (h48 : gI h 66 48 = nI m) (hm : m ≤ 5) (hmet : met ≤ 5) (hst : st ≤ 60000) (h99 : gI h 99 met = nI st) (hp : ∀ i, i < m → gI h 100 i = nI (pre.getD i 0)) (R : mRep m acc h) (hF : 5 < F) : ∃ h', f_X8_layOrders F (D + 1) (nI m) used (nI met) h = some h' ∧ mRep m (ofr acc met st pre) h' ∧ Eo sOD h h' ∧ ∀ i, gI h' 100 i = gI h 100 i := by
  have yes : ∃ h', (fix (σ := Int32 × Hp) (ρ := Hp) (fun self27 s26 => (if (gI s26.2 66 48) ≤ s26.1 then some s26.2 else ((ldI s26.2 100 s26.1).bind fun v29 => (stI s26.2 101 s26.1 v29).bind fun h30 => self27 ((s26.1 + 1), h30)))) F ((0 : Int32), sI (sI h 66 54 (nI met)) 66 55 (nI st))) = some h' ∧ mRep m (some (met, st, pre)) h' ∧ Eo sOD h h' ∧ ∀ i, gI h' 100 i = gI h 100 i := by
    refine ⟨sA (sI (sI h 66 54 (nI met)) 66 55 (nI st)) 101 (va_cpy (gI h 100) (gI h 101) 0 0 m), ?_, ⟨fun x hx => by cases hx; exact ⟨hmet, hst⟩, ?_, ?_, fun i hi => ?_⟩, ((Eo.refl.sI (Or.inr (Or.inr ⟨rfl, Or.inl rfl⟩))).sI (Or.inr (Or.inr ⟨rfl, Or.inr rfl⟩))).sA (fun k => Or.inr (Or.inl rfl)), fun i => ?_⟩
    · refine (cpy_loop (a := 100) (b := 101) (na := 5) (nb := 5) (sp := 0) (dp := 0) (n := m) (fun h0 => some h0) (fun h0 => gI h0 66 48) (fun _ x => x) (fun _ x => x) (by decide) rfl rfl (by omega) (by omega) (by decide) (by decide) (fun f => ?_) (fun f k hk => by rw [Nat.zero_add]) (fun f k hk => by rw [Nat.zero_add]) (by omega)).trans ?_
      · rw [gAj_ne (by decide), gI_nk (by decide), gI_nk (by decide)]; exact h48
      · rw [gf_ne (by decide), gf_ne (by decide), gf_ne (by decide), gf_ne (by decide)]
    · rw [gAj_ne (by decide), gI_nk (by decide), gI_eq]
    · rw [gAj_ne (by decide), gI_eq]
    · rw [gAj_eq, pk_cpy_in (by omega) (by omega), Nat.sub_zero, Nat.zero_add]; exact hp i hi
    · rw [gAj_ne (by decide), gI_ne (by decide), gI_ne (by decide)]
  have R0 := R
  obtain ⟨r1, r2⟩ := R
  unfold f_X8_layOrders
  simp only [nm, jn]
  rw [h48, if_pos rfl, ld_99 (by omega), gI_ne (by decide), h99, Ib, ld_99 (by omega), h99, Ib]
  cases acc with
  | none =>
    rw [ofr_y (show btr met st none = true from rfl), r2.1, if_pos (by rw [zn, z_m1, z_lt (by omega) (by omega) (by omega) (by omega)]; omega)]
    exact yes
  | some x =>
    obtain ⟨b1, b2⟩ := r1 x rfl
    rw [r2.1, r2.2.1, i_lt (by omega) (by omega), i_eq (by omega) (by omega), i_le (by omega) (by omega)]
    by_cases q1 : x.1 < met
    · rw [if_pos q1, ofr_y (show btr met st (some x) = true by simp [btr, q1])]
      exact yes
    · rw [if_neg q1]
      by_cases q2 : met = x.1
      · rw [if_pos q2]
        by_cases q3 : x.2.1 ≤ st
        · rw [if_pos q3, ofr_n (btr_f.mpr ⟨x, rfl, Or.inr ⟨q2, q3⟩⟩)]
          exact ⟨h, rfl, R0, Eo.refl, fun _ => rfl⟩
        · rw [if_neg q3, ofr_y (show btr met st (some x) = true by simp only [btr, decide_eq_true q2, Bool.true_and, decide_eq_true (show st < x.2.1 by omega), Bool.or_true])]
          exact yes
      · rw [if_neg q2, ofr_n (btr_f.mpr ⟨x, rfl, Or.inl (by omega)⟩)]
        exact ⟨h, rfl, R0, Eo.refl, fun _ => rfl⟩
theorem pre_at {pre : List Nat} {k i d : Nat} (hd : pre.length = d) (hi : i < d + 1) : (pre ++ [k]).getD i 0 = if i = d then k else pre.getD i 0 := by
  subst hd
  by_cases e : i = pre.length
  · subst e
    rw [if_pos rfl]
    simp
  · rw [if_neg e, List.getD_eq_getElem?_getD, List.getD_eq_getElem?_getD, List.getElem?_append_left (by omega)]
theorem dead_ev (hm : m ≤ 5) (hF : 5 < F) : ∀ (r D d used left met st : Nat) (pre : List Nat) (acc : Bst) (h : Hp), d + r = m → r < D → used < 32 → left < 32 → (∀ w, w < m → left.testBit w = !used.testBit w) → (asc m left).length = r → met < d → st ≤ 60000 → gI h 66 48 = nI m → gI h 99 met = nI st → pre.length = d → (∀ i, i < d → gI h 100 i = nI (pre.getD i 0)) → mRep m acc h → ∃ h', f_X8_layOrders F D (nI d) (nI used) (nI met) h = some h' ∧ mRep m (ofr acc met st (pre ++ asc m left)) h' ∧ Eo sOD h h' ∧ ∀ i, i < d → gI h' 100 i = gI h 100 i
  | 0, D + 1, d, used, left, met, st, pre, acc, h, hd, _, hu, hl, hul, has, hmet, hst, h48, h99, hp, hpre, R => by
    have hd' : d = m := by omega
    subst hd'
    obtain ⟨h', a1, a2, a3, a4⟩ := mleaf_ev (F := F) (D := D) (used := nI used) h48 hm (by omega) hst h99 hpre R hF
    refine ⟨h', a1, ?_, a3, fun i _ => a4 i⟩
    rw [asc_nil has, List.append_nil]
    exact a2
  | r + 1, D + 1, d, used, left, met, st, pre, acc, h, hd, hD, hu, hl, hul, has, hmet, hst, h48, h99, hp, hpre, R => by
    unfold f_X8_layOrders
    rw [h48, i_eq (by omega) (by omega), if_neg (by omega)]
    refine fix_post (fun x => ∃ h', x = some h' ∧ mRep m (ofr acc met st (pre ++ asc m left)) h' ∧ Eo sOD h h' ∧ ∀ i, i < d → gI h' 100 i = gI h 100 i) (fun (j : Nat) (z : Int32 × Hp) => z.1 = nI j ∧ Eo sOD h z.2 ∧ (∀ i, i < d → gI z.2 100 i = gI h 100 i) ∧ (((∀ w, w < j → left.testBit w = false) ∧ mRep m acc z.2) ∨ mRep m (ofr acc met st (pre ++ asc m left)) z.2)) m ?_ (by omega) ?_ ?_
    · exact ⟨rfl, Eo.refl, fun _ _ => rfl, Or.inl ⟨fun w hw => absurd hw (Nat.not_lt_zero w), R⟩⟩
    · rintro j ⟨z1, g⟩ hj ⟨rfl, eo, hpg, hcase⟩ self hself
      have g48 : gI g 66 48 = nI m := by rw [eo.1 66 48 (by unfold sOD; omega)]; exact h48
      have g99 : gI g 99 met = nI st := by rw [eo.1 99 met (by unfold sOD; omega)]; exact h99
      simp only at eo hpg hcase ⊢
      rw [g48, if_neg (nle_k (by omega) hj), hasb_ev (by omega) (by omega), Ib, i_bz0]
      by_cases q : used.testBit j = true
      · have ql : left.testBit j = false := by rw [hul j hj, q]; rfl
        rw [if_pos q, Ib, n_add1]
        refine hself _ ⟨rfl, eo, hpg, ?_⟩
        rcases hcase with ⟨c1, c2⟩ | c
        · exact Or.inl ⟨fun w hw => by
            by_cases e : w = j
            · rw [e]; exact ql
            · exact c1 w (by omega), c2⟩
        · exact Or.inr c
      · have qu : used.testBit j = false := by simpa using q
        have ql : left.testBit j = true := by rw [hul j hj, qu]; rfl
        have p32 : 2 ^ j < 32 := pow_lt (n := 5) (by omega)
        obtain ⟨as1, as2⟩ := asc_1 hm hl hj ql
        have ct := clw_tb hl (show j < 5 by omega)
        rw [if_neg q, st_100 (by omega), Ib, i_eq (by omega) (by omega), if_neg (by omega), Ib, i00, Ib, n_shl (by omega), n_or (by omega) (by omega), n_add1, n_add1]
        have acc' : ∃ a, mRep m a g ∧ (ofr a met st (pre ++ [j] ++ asc m (clw left j)) = ofr acc met st (pre ++ asc m left)) := by
          rcases hcase with ⟨c1, c2⟩ | c
          · refine ⟨acc, c2, ?_⟩
            rw [as2 c1, List.append_assoc]; rfl
          · exact ⟨_, c, ofr_2⟩
        obtain ⟨a, a1, a2⟩ := acc'
        obtain ⟨h', b1, b2, b3, b4⟩ := dead_ev hm hF r D (d + 1) (used ||| 2 ^ j) (clw left j) met st (pre ++ [j]) a (sI g 100 d (nI j)) (by omega) (by omega) (or_lt (k := 5) hu p32) (clw_lt hl) (fun w hw => by
          rw [ct w, tb_or, tb_pow, hul w hw]
          by_cases e : w = j
          · subst e; simp
          · simp [e, show ¬ j = w by omega]) (by omega) (by omega) hst (by rw [gI_ne (by decide)]; exact g48) (by rw [gI_ne (by decide)]; exact g99) (by rw [List.length_append, hp]; rfl) (fun i hi => by
          rw [pre_at hp hi, gI_at]
          by_cases e : i = d
          · rw [if_pos e, if_pos e]
          · rw [if_neg e, if_neg e, hpg i (by omega)]; exact hpre i (by omega)) (a1.keep (gI_ne (by decide)) (gI_ne (by decide)) (gf_ne (by decide)))
        rw [b1, Ib, Ib]
        refine hself _ ⟨rfl, (eo.sI (Or.inl rfl)).trans b3, fun i hi => ?_, Or.inr (by rw [← a2]; exact b2)⟩
        show gI h' 100 i = _
        rw [b4 i (by omega), gI_nk (by omega)]
        exact hpg i hi
    · rintro ⟨z1, g⟩ ⟨rfl, eo, hpg, hcase⟩ self
      have g48 : gI g 66 48 = nI m := by rw [eo.1 66 48 (by unfold sOD; omega)]; exact h48
      simp only at eo hpg hcase ⊢
      rw [g48, if_pos (rf_le (by omega))]
      rcases hcase with ⟨c1, c2⟩ | c
      · rw [asc_0 c1] at has
        cases has
      · exact ⟨g, rfl, c, eo, hpg⟩
end MORD
section MORD2
variable {Z : SS} {F m : Nat} {c : Nat → Nat}
theorem MI.ofOM {h h' : Hp} (M : MI Z h) (e : Eo sOM h h') : MI Z h' := M.keep fun a k q => e.1 a k (fun z => by unfold cM at q; unfold sOM sML sOD at z; omega)
theorem live_ev {N : Nat → Nat → Option Ent} (hNe : ∀ s k, N s k = nst (bfin (sY Z) (ct (sC Z)) (co (sC Z)) s) (c k / 100) (c k % 100)) (hN : Nok (SW (sY Z)) N) (w : SWf Z) (hm : m ≤ 5) (hc : ∀ i, i < m → c i / 100 < yn (sY Z) ∧ c i % 100 < ycl (sY Z)) (hF : 20736 < F) : ∀ (r D d used left s st : Nat) (pre : List Nat) (acc : Bst) (h : Hp), d + r = m → r < D → used < 32 → left < 32 → (∀ w, w < m → left.testBit w = !used.testBit w) → (asc m left).length = r → SW (sY Z) s → st ≤ 12000 * d → MI Z h → gI h 66 48 = nI m → (∀ i, i < m → gI h 97 i = nI (c i)) → gI h 98 d = nI (cod (yn (sY Z)) s) → gI h 99 d = nI st → pre.length = d → (∀ i, i < d → gI h 100 i = nI (pre.getD i 0)) → mRep m acc h → ∃ h', f_X8_layOrders F D (nI d) (nI used) (nI d) h = some h' ∧ mRep m (mA N m r pre left s st acc) h' ∧ Eo sOM h h' ∧ (∀ i, i < d → gI h' 100 i = gI h 100 i) ∧ (∀ j, j ≤ d → gI h' 98 j = gI h 98 j ∧ gI h' 99 j = gI h 99 j)
  | 0, D + 1, d, used, left, s, st, pre, acc, h, hd, _, hu, hl, hul, has, S, hst, mi, h48, h97, h98, h99, hp, hpre, R => by
    have hd' : d = m := by omega
    subst hd'
    obtain ⟨h', a1, a2, a3, a4⟩ := mleaf_ev (F := F) (D := D) (used := nI used) h48 hm (by omega) (by omega) h99 hpre R (by omega)
    refine ⟨h', a1, ?_, a3.od, fun i _ => a4 i, fun j _ => ⟨a3.1 98 j (by unfold sOD; omega), a3.1 99 j (by unfold sOD; omega)⟩⟩
    rw [mA, hp]
    exact a2
  | r + 1, D + 1, d, used, left, s, st, pre, acc, h, hd, hD, hu, hl, hul, has, S, hst, mi, h48, h97, h98, h99, hp, hpre, R => by
    have W := w.1
    have hcl := ycl_le W
    have hn := W.2.2.1
    unfold f_X8_layOrders
    rw [h48, i_eq (by omega) (by omega), if_neg (by omega), mA]
    refine fix_post (fun x => ∃ h', x = some h' ∧ mRep m ((List.range m).foldl (fun acc k => if left.testBit k = true then (match N s k with
      | some b => mA N m r (pre ++ [k]) (clw left k) b.1 (st + b.2.1) acc
      | none => ofr acc pre.length st (pre ++ [k] ++ asc m (clw left k))) else acc) acc) h' ∧ Eo sOM h h' ∧ (∀ i, i < d → gI h' 100 i = gI h 100 i) ∧ (∀ j, j ≤ d → gI h' 98 j = gI h 98 j ∧ gI h' 99 j = gI h 99 j)) (fun (j : Nat) (z : Int32 × Hp) => z.1 = nI j ∧ Eo sOM h z.2 ∧ (∀ i, i < d → gI z.2 100 i = gI h 100 i) ∧ (∀ j, j ≤ d → gI z.2 98 j = gI h 98 j ∧ gI z.2 99 j = gI h 99 j) ∧ mRep m ((List.range j).foldl (fun acc k => if left.testBit k = true then (match N s k with
      | some b => mA N m r (pre ++ [k]) (clw left k) b.1 (st + b.2.1) acc
      | none => ofr acc pre.length st (pre ++ [k] ++ asc m (clw left k))) else acc) acc) z.2) m ?_ (by omega) ?_ ?_
    · exact ⟨rfl, Eo.refl, fun _ _ => rfl, fun _ _ => ⟨rfl, rfl⟩, R⟩
    · rintro j ⟨z1, g⟩ hj ⟨rfl, eo, hpg, h89, Rg⟩ self hself
      have M := mi.ofOM eo
      have g48 : gI g 66 48 = nI m := by rw [eo.1 66 48 (by unfold sOM sML sOD; omega)]; exact h48
      have g97 : ∀ i, i < m → gI g 97 i = nI (c i) := fun i hi => by rw [eo.1 97 i (by unfold sOM sML sOD; omega)]; exact h97 i hi
      simp only at eo hpg h89 Rg ⊢
      have fs : ∀ a, (List.range j).foldl (fun acc k => if left.testBit k = true then (match N s k with
        | some b => mA N m r (pre ++ [k]) (clw left k) b.1 (st + b.2.1) acc
        | none => ofr acc pre.length st (pre ++ [k] ++ asc m (clw left k))) else acc) acc = a → (List.range (j + 1)).foldl (fun acc k => if left.testBit k = true then (match N s k with
        | some b => mA N m r (pre ++ [k]) (clw left k) b.1 (st + b.2.1) acc
        | none => ofr acc pre.length st (pre ++ [k] ++ asc m (clw left k))) else acc) acc = if left.testBit j = true then (match N s j with
        | some b => mA N m r (pre ++ [j]) (clw left j) b.1 (st + b.2.1) a
        | none => ofr a pre.length st (pre ++ [j] ++ asc m (clw left j))) else a := by
        intro a ha
        rw [List.range_succ, List.foldl_append, ha]
        rw [List.foldl_cons, List.foldl_nil]
      generalize hacc : (List.range j).foldl (fun acc k => if left.testBit k = true then (match N s k with
        | some b => mA N m r (pre ++ [k]) (clw left k) b.1 (st + b.2.1) acc
        | none => ofr acc pre.length st (pre ++ [k] ++ asc m (clw left k))) else acc) acc = a at *
      have fs2 := fs a rfl
      clear fs hacc
      rw [g48, if_neg (nle_k (by omega) hj), hasb_ev (by omega) (by omega), Ib, i_bz0]
      by_cases q : used.testBit j = true
      · have ql : left.testBit j = false := by rw [hul j hj, q]; rfl
        rw [if_neg (by rw [ql]; decide)] at fs2
        rw [if_pos q, Ib, n_add1]
        exact hself _ ⟨rfl, eo, hpg, h89, by rw [fs2]; exact Rg⟩
      · have qu : used.testBit j = false := by simpa using q
        have ql : left.testBit j = true := by rw [hul j hj, qu]; rfl
        have p32 : 2 ^ j < 32 := pow_lt (n := 5) (by omega)
        obtain ⟨as1, as2⟩ := asc_1 hm hl hj ql
        have ct' := clw_tb hl (show j < 5 by omega)
        have hul' : ∀ w, w < m → (clw left j).testBit w = !(used ||| 2 ^ j).testBit w := fun w hw => by
          rw [ct' w, tb_or, tb_pow, hul w hw]
          by_cases e : w = j
          · subst e; simp
          · simp [e, show ¬ j = w by omega]
        have e0 : Eo sOM g (sI g 100 d (nI j)) := Eo.refl.sI (Or.inr (Or.inr (Or.inr (Or.inl rfl))))
        have M0 := M.ofOM e0
        have hpre' : ∀ g', (∀ i, gI g' 100 i = gI (sI g 100 d (nI j)) 100 i) → ∀ i, i < d + 1 → gI g' 100 i = nI ((pre ++ [j]).getD i 0) := fun g' hg i hi => by
          rw [hg, pre_at hp hi, gI_at]
          by_cases e : i = d
          · rw [if_pos e, if_pos e]
          · rw [if_neg e, if_neg e, hpg i (by omega)]; exact hpre i (by omega)
        rw [if_pos ql] at fs2
        obtain ⟨g2, n1, hcase⟩ := mwant_ev (F := F) (i := c j / 100) (c := c j % 100) (v := c j) M0.my M0.mt W S w.2.1.2.1 (show d < 5 by omega) (by rw [gI_ne (by decide), (h89 d (Nat.le_refl _)).1]; exact h98) (by rw [gI_ne (by decide), (h89 d (Nat.le_refl _)).2]; exact h99) rfl rfl (by have := hc j hj; omega) (hc j hj).1 hF
        have k100 : ∀ i, gI g2 100 i = gI (sI g 100 d (nI j)) 100 i := fun i => n1.1 100 i (by unfold sMB sML; omega)
        have R2 : mRep m a g2 := Rg.keep (by rw [n1.1 66 54 (by unfold sMB sML; omega), gI_ne (by decide)]) (by rw [n1.1 66 55 (by unfold sMB sML; omega), gI_ne (by decide)]) (by rw [n1.row (fun k => by unfold sMB sML; omega), gf_ne (by decide)])
        have g248 : gI g2 66 48 = nI m := by rw [n1.1 66 48 (by unfold sMB sML; omega), gI_ne (by decide)]; exact g48
        rw [if_neg q, st_100 (by omega), Ib, if_pos trivial, ld_97 (by omega), gI_ne (by decide), g97 j hj, Ib]
        rcases hcase with ⟨q1, q2, q3⟩ | ⟨b, q1, q2, q3, q4, q5⟩
        · rw [(hNe s j).trans q1] at fs2
          have g299 : ∀ i, gI g2 99 i = gI g 99 i := fun i => by rw [q3.1 99 i (by unfold sML; omega), gI_ne (by decide)]
          have g298 : ∀ i, gI g2 98 i = gI g 98 i := fun i => by rw [q3.1 98 i (by unfold sML; omega), gI_ne (by decide)]
          obtain ⟨h', b1, b2, b3, b4⟩ := dead_ev (F := F) hm (by omega) r D (d + 1) (used ||| 2 ^ j) (clw left j) d st (pre ++ [j]) a g2 (by omega) (by omega) (or_lt (k := 5) hu p32) (clw_lt hl) hul' (by omega) (by omega) (by omega) g248 (by rw [g299, (h89 d (Nat.le_refl _)).2]; exact h99) (by rw [List.length_append, hp]; rfl) (hpre' g2 k100) R2
          rw [q2, Ib, i00, Ib, i00, Ib, n_shl (by omega), n_or (by omega) (by omega), n_add1, n_add1, b1, Ib, Ib]
          refine hself _ ⟨rfl, ((eo.trans e0).trans n1.mb).trans b3.od, fun i hi => ?_, fun i hi => ⟨?_, ?_⟩, ?_⟩
          · show gI h' 100 i = _
            rw [b4 i (by omega), k100, gI_nk (by omega)]; exact hpg i hi
          · show gI h' 98 i = _
            rw [b3.1 98 i (by unfold sOD; omega), g298]; exact (h89 i hi).1
          · show gI h' 99 i = _
            rw [b3.1 99 i (by unfold sOD; omega), g299]; exact (h89 i hi).2
          · rw [fs2]
            show mRep m (ofr a pre.length st (pre ++ [j] ++ asc m (clw left j))) h'
            rw [hp]
            exact b2
        · rw [(hNe s j).trans q1] at fs2
          obtain ⟨Sb, bd, -⟩ := hN s j b S ((hNe s j).trans q1)
          obtain ⟨h', b1, b2, b3, b4, b5⟩   := live_ev hNe hN w hm hc hF r D (d + 1) (used ||| 2 ^ j) (clw left j) b.1 (st + b.2.1) (pre ++ [j]) a g2 (by omega) (by omega) (or_lt (k := 5) hu p32) (clw_lt hl) hul' (by omega) Sb (by omega) (M0.ofOM n1.mb) g248 (fun i hi => by rw [n1.1 97 i (by unfold sMB sML; omega), gI_ne (by decide)]; exact g97 i hi) q3 q4 (by rw [List.length_append, hp]; rfl) (hpre' g2 k100) R2
          rw [q2, Ib, i10, Ib, i10, Ib, n_shl (by omega), n_or (by omega) (by omega), n_add1, n_add1, b1, Ib, Ib]
          refine hself _ ⟨rfl, ((eo.trans e0).trans n1.mb).trans b3, fun i hi => ?_, fun i hi => ⟨?_, ?_⟩, ?_⟩
          · show gI h' 100 i = _
            rw [b4 i (by omega), k100, gI_nk (by omega)]; exact hpg i hi
          · show gI h' 98 i = _
            rw [(b5 i (by omega)).1, (q5 i (by omega)).1, gI_ne (by decide)]; exact (h89 i hi).1
          · show gI h' 99 i = _
            rw [(b5 i (by omega)).2, (q5 i (by omega)).2, gI_ne (by decide)]; exact (h89 i hi).2
          · rw [fs2]; exact b2
    · rintro ⟨z1, g⟩ ⟨rfl, eo, hpg, h89, Rg⟩ self
      have g48 : gI g 66 48 = nI m := by rw [eo.1 66 48 (by unfold sOM sML sOD; omega)]; exact h48
      simp only at eo hpg h89 Rg ⊢
      rw [g48, if_pos (rf_le (by omega))]
      exact ⟨g, rfl, Rg, eo, hpg, h89⟩
end MORD2
