/-! order -/
theorem ofr_some {acc : Bst} {a st : Nat} {L : List Nat} : (ofr acc a st L).isSome = true := by
  cases h : btr a st acc with
  | true => rw [ofr_y h]; rfl
  | false =>
    rw [ofr_n h]
    obtain ⟨x, e, _⟩ := btr_f.mp h
    rw [e]; rfl
theorem fold_some {f : Bst → Nat → Bst} {P : Nat → Prop} (h1 : ∀ a k, a.isSome = true → (f a k).isSome = true) (h2 : ∀ a k, P k → (f a k).isSome = true) : ∀ (L : List Nat) (a : Bst), (a.isSome = true ∨ ∃ k, k ∈ L ∧ P k) → (L.foldl f a).isSome = true
  | [], a, h => by
    rcases h with h | ⟨k, hk, _⟩
    · exact h
    · exact absurd hk List.not_mem_nil
  | x :: L, a, h => by
    rw [List.foldl_cons]
    apply fold_some h1 h2 L
    rcases h with h | ⟨k, hk, hp⟩
    · exact Or.inl (h1 a x h)
    · rcases List.mem_cons.mp hk with rfl | hk
      · exact Or.inl (h2 a k hp)
      · exact Or.inr ⟨k, hk, hp⟩
theorem mA_keep {N : Nat → Nat → Option Ent} {m : Nat} : ∀ (r : Nat) (pre : List Nat) (left s st : Nat) (acc : Bst), acc.isSome = true → (mA N m r pre left s st acc).isSome = true
  | 0, pre, left, s, st, acc, _ => ofr_some
  | r + 1, pre, left, s, st, acc, h => by
    rw [mA]
    refine fold_some (P := fun _ => False) (fun a k ha => ?_) (fun a k z => z.elim) _ _ (Or.inl h)
    by_cases q : left.testBit k = true
    · rw [if_pos q]
      cases e : N s k with
      | none => exact ofr_some
      | some b => exact mA_keep r _ _ _ _ a ha
    · rw [if_neg q]; exact ha
theorem mA_some {N : Nat → Nat → Option Ent} {m : Nat} (hm : m ≤ 5) : ∀ (r : Nat) (pre : List Nat) (left s st : Nat) (acc : Bst), left < 32 → (asc m left).length = r → (mA N m r pre left s st acc).isSome = true
  | 0, pre, left, s, st, acc, _, _ => ofr_some
  | r + 1, pre, left, s, st, acc, hl, ha => by
    rw [mA]
    refine fold_some (P := fun k => k < m ∧ left.testBit k = true) (fun a k hs => ?_) (fun a k hk => ?_) _ _ (Or.inr ?_)
    · by_cases q : left.testBit k = true
      · rw [if_pos q]
        cases e : N s k with
        | none => exact ofr_some
        | some b => exact mA_keep r _ _ _ _ a hs
      · rw [if_neg q]; exact hs
    · rw [if_pos hk.2]
      cases e : N s k with
      | none => exact ofr_some
      | some b =>
        have := (asc_1 hm hl hk.1 hk.2).1
        exact mA_some hm r _ _ _ _ a (clw_lt hl) (by omega)
    · rcases Classical.em (∃ k, k ∈ List.range m ∧ k < m ∧ left.testBit k = true) with z | z
      · exact z
      · rw [asc_0 (fun w hw => by
          cases e : left.testBit w with
          | false => rfl
          | true => exact absurd ⟨w, List.mem_range.mpr hw, hw, e⟩ z)] at ha
        cases ha
def sOX (a k : Nat) : Prop := sFM a k ∨ sOM a k
theorem MI.ofOX {Z : SS} {h h' : Hp} (M : MI Z h) (e : Eo sOX h h') : MI Z h' := M.keep fun a k q => e.1 a k (fun z => by unfold cM at q; unfold sOX sFM sOM sML sOD at z; omega)
theorem Sm2.ofOX {h h' : Hp} (e : Eo sOX h h') : Sm2 h h' := ⟨fun a k q => e.1 a k (fun z => by unfold sOX sFM sOM sML sOD at z; rw [irr_iff] at q; omega), by show h'.2.1 = h.2.1; rw [e.2]⟩
theorem all_fin : alN 6 (fun m => decide ((asc m (2 ^ m - 1)).length = m) && decide (Kb m ≤ 4000) && decide (2 ^ m - 1 < 32)) = true := by decide +kernel
def orf (L : List Nat) (m k : Nat) (f : Nat → Int32) : Nat → Int32 := fun j => if j < 40 then (if j < k then nI (L.getD j 0) else 0) else f j
section ORDER
variable {B F : Nat} {h : Hp} {y : Nat} {Z : SS} {r r2 m : Nat} {c : Nat → Nat} {N : Nat → Nat → Option Ent}
theorem order_c {M S : Nat} {L : List Nat} (hNe : ∀ s k, N s k = nst (bfin (sY Z) (ct (sC Z)) (co (sC Z)) s) (c k / 100) (c k % 100)) (hN : Nok (SW (sY Z)) N) (ci : CI y Z h) (w : SWf Z) (si : SIZ Z B h) (hr : r < 6) (hr2 : r2 < 6) (q0 : ¬ yn (sY Z) = 0) (hm : m ≤ 5) (i2 : gI h 9 r = nI m) (hc : ∀ i, i < m → gI h (3 + r) i = nI (c i) ∧ c i / 100 < yn (sY Z) ∧ c i % 100 < ycl (sY Z)) (hA : mA N m m [] (2 ^ m - 1) (cs (sC Z)) 0 none = some (M, S, L)) (hB : B < 1800000000) (hF : 20736 < F) : ∃ g, f_X7_order F (nI r) (nI r2) h = some (nI M, sA (sI g 9 r2 (nI m)) (3 + r2) (orf L m m (gI g (3 + r2)))) ∧ Eo sCw h g ∧ SIZ Z (B + 4000) g := by
  have W := w.1
  have hcl := ycl_le W
  have hn := W.2.2.1
  have fa := alN_get all_fin (show m < 6 by omega)
  rw [Bool.and_eq_true, Bool.and_eq_true, decide_eq_true_eq, decide_eq_true_eq, decide_eq_true_eq] at fa
  obtain ⟨⟨fa1, fa2⟩, fa3⟩ := fa
  have ok : ∀ i, i < m → okW (yn (sY Z)) (ycl (sY Z)) (gI h (3 + r) i) := fun i hi => ⟨c i, by have := (hc i hi).2; omega, (hc i hi).1, (hc i hi).2.1, (hc i hi).2.2⟩
  obtain ⟨h2, t1, t2, t3, t4, t5, t6⟩ := take5_ev (F := F) hr hm i2 (fun i hi => ⟨(hc i hi).1, by have := (hc i hi).2; omega⟩) (by omega)
  have ci2 := ci.ofCw t2.tk
  obtain ⟨h5, a1, a2, a3, a4⟩ := arrange_ev (y := y) (F := F) hNe hN w hm (fun i hi => (hc i hi).2) hF m 7 0 (2 ^ m - 1) (2 ^ m - 1) (cs (sC Z)) 0 B [] none h2 (by omega) (by omega) fa3 fa3 fa1 w.2.1.1 (by omega) ci2 (SI.ofTk si t2) t3 t6 rfl (fun i hi => absurd hi (Nat.not_lt_zero i)) ⟨fun x hx => (by cases hx), t4, t5⟩ (by omega)
  rw [cA_mA hN hm m [] _ _ _ _ _ fa3 w.2.1.1 (fun w _ h1 _ => h1), hA] at a2
  have e1 : (1 : Int32) <<< (nI m &&& 31) - 1 = nI (2 ^ m - 1) := by
    rw [n_shl (by omega), lit_1, pk_sub (Nat.two_pow_pos m)]
  have g0 : gI h5 31 0 = nI m := by rw [a3.2.1]; exact t3
  refine ⟨h5, ?_, t2.tk.trans a3.1, SI.mono a4 (by omega)⟩
  unfold f_X7_order f_X5_all
  rw [rw_ok ci W hr hr2 q0 hm i2 ok (by omega), Ib, if_pos rfl, t1, Ib, t3, e1, Ib, Ib, ci2.now.1, lit_0, a1, Ib, g0, show nI 0 = (0 : Int32) from rfl, make_yes shf_rows hr2 (by omega) (by omega), Ib]
  refine fix_seq (fun k => (nI k, sA (sI h5 9 r2 (nI m)) (3 + r2) (orf L m k (gI h5 (3 + r2))))) m ?_ (fun k hk self => ?_) (fun self => ?_) (by omega)
  · refine Prod.ext rfl ?_
    show sA _ _ _ = sA _ _ _
    congr 1
    funext j
    unfold fil orf
    by_cases z : j < 40
    · rw [if_pos z, if_neg (by omega), if_pos (by omega)]
    · rw [if_neg z, if_neg (by omega)]
  · simp only
    rw [gAj_ne (by omega), gI_ne (by decide), g0, if_neg (nle_k (by omega) hk), ld_34 (by omega), gAj_ne (by omega), gI_ne (by decide), a2.2.2.2 k hk, Ib, set_in (m := m) shf_rows hr2 (by rw [gAj_ne (by omega), gI_eq]) (by omega) hk, Ib, sI_sA, n_add1]
    congr 3
    funext j
    unfold upd orf
    by_cases z : j = k
    · rw [if_pos z, if_pos (by omega), if_pos (by omega), z]
    · rw [if_neg z]
      by_cases z2 : j < k
      · simp only [z2, if_true, show j < k + 1 by omega]
      · simp only [z2, if_false, show ¬ j < k + 1 by omega]
  · simp only
    rw [gAj_ne (by omega), gI_ne (by decide), g0, if_pos (rf_le (by omega)), gAj_ne (by omega), gI_ne (by decide), a2.2.1]
theorem order_m {M S : Nat} {L : List Nat} (hNe : ∀ s k, N s k = nst (bfin (sY Z) (ct (sC Z)) (co (sC Z)) s) (c k / 100) (c k % 100)) (hN : Nok (SW (sY Z)) N) (mi : MI Z h) (w : SWf Z) (hr : r < 6) (hr2 : r2 < 6) (q0 : ¬ yn (sY Z) = 0) (hm : m ≤ 5) (i2 : gI h 68 r = nI m) (hc : ∀ i, i < m → gI h 69 (40 * r + i) = nI (c i) ∧ c i / 100 < yn (sY Z) ∧ c i % 100 < ycl (sY Z)) (hA : mA N m m [] (2 ^ m - 1) (cs (sC Z)) 0 none = some (M, S, L)) (hF : 20736 < F) : ∃ g, f_X8_order F (nI r) (nI r2) h = some (nI M, sA (sI g 68 r2 (nI m)) 69 (fun j => if 40 * r2 ≤ j ∧ j < 40 * r2 + 40 then (if j - 40 * r2 < m then nI (L.getD (j - 40 * r2) 0) else 0) else gI g 69 j)) ∧ Eo sOX h g := by
  have W := w.1
  have fa := alN_get all_fin (show m < 6 by omega)
  rw [Bool.and_eq_true, Bool.and_eq_true, decide_eq_true_eq, decide_eq_true_eq, decide_eq_true_eq] at fa
  obtain ⟨⟨fa1, fa2⟩, fa3⟩ := fa
  obtain ⟨h2, t1, t2, t3, t4, t5, t6⟩ := nv_ok (F := F) (b := 1) rfl mi w hr q0 hm i2 hc (by omega)
  have t2' : Eo sOX h h2 := t2.mono fun a k q => Or.inl q
  have e0 : Eo sOX h (sI (sI h2 66 54 (-1)) 66 55 (99999 : Int32)) := (t2'.sI (show sOX 66 54 by unfold sOX sOM sOD; omega)).sI (show sOX 66 55 by unfold sOX sOM sOD; omega)
  obtain ⟨h5, a1, a2, a3, -, -⟩ := live_ev (F := F) hNe hN w hm (fun i hi => (hc i hi).2) hF m 7 0 0 (2 ^ m - 1) (cs (sC Z)) 0 [] none (sI (sI h2 66 54 (-1)) 66 55 (99999 : Int32)) (by omega) (by omega) (by decide) fa3 (fun w hw => by rw [Nat.testBit_two_pow_sub_one, Nat.zero_testBit, decide_eq_true hw]; rfl) fa1 w.2.1.1 (by omega) (mi.ofOX e0) (by rw [gI_nk (by decide), gI_nk (by decide)]; exact t3) (fun i hi => by rw [gI_ne (by decide), gI_ne (by decide)]; exact t4 i hi) (by rw [gI_ne (by decide), gI_ne (by decide)]; exact t5) (by rw [gI_ne (by decide), gI_ne (by decide)]; exact t6) rfl (fun i hi => absurd hi (Nat.not_lt_zero i)) ⟨fun x hx => (by cases hx), by rw [gI_nk (by decide), gI_eq], gI_eq⟩
  rw [hA] at a2
  have eo := e0.trans (a3.mono fun a k q => Or.inr q)
  have g48 : gI h5 66 48 = nI m := by
    rw [a3.1 66 48 (by unfold sOM sML sOD; omega), gI_nk (by decide), gI_nk (by decide)]; exact t3
  refine ⟨h5, ?_, eo⟩
  unfold f_X8_order
  simp only [nm]
  rw [isRow_yes hr2, Ib, t1, Ib, if_pos (show (0 : Int32) ≤ 0 by decide), lit_0, a1, Ib, g48, st_68 hr2, Ib]
  refine fix_seq (fun k => (nI k, sA (sI h5 68 r2 (nI m)) 69 (fun j => if 40 * r2 ≤ j ∧ j < 40 * r2 + k then (if j - 40 * r2 < m then nI (L.getD (j - 40 * r2) 0) else 0) else gI h5 69 j))) 40 ?_ (fun k hk self => ?_) (fun self => ?_) (by omega)
  · refine Prod.ext rfl (sA_self fun j => ?_)
    rw [if_neg (by omega), gI_ne (by decide)]
  · simp only
    rw [lit_40, if_neg (nle_k (by decide) hk), gAj_ne (by decide), gI_ne (by decide), g48, i_le (by omega) (by omega), pk_mul, nI_add, n_add1]
    have fin : ∀ v : Int32, v = (if k < m then nI (L.getD k 0) else 0) → ((stI (sA (sI h5 68 r2 (nI m)) 69 (fun j => if 40 * r2 ≤ j ∧ j < 40 * r2 + k then (if j - 40 * r2 < m then nI (L.getD (j - 40 * r2) 0) else 0) else gI h5 69 j)) 69 (nI (40 * r2 + k)) v).bind fun h12 => self (nI (k + 1), h12)) = self (nI (k + 1), sA (sI h5 68 r2 (nI m)) 69 (fun j => if 40 * r2 ≤ j ∧ j < 40 * r2 + (k + 1) then (if j - 40 * r2 < m then nI (L.getD (j - 40 * r2) 0) else 0) else gI h5 69 j)) := by
      intro v hv
      rw [st_69 (by omega), Ib, sI_sA, hv]
      congr 3
      funext j
      unfold upd
      by_cases z : j = 40 * r2 + k
      · rw [if_pos z, if_pos (show 40 * r2 ≤ j ∧ j < 40 * r2 + (k + 1) by omega), z, show 40 * r2 + k - 40 * r2 = k by omega]
      · rw [if_neg z]
        show (if 40 * r2 ≤ j ∧ j < 40 * r2 + k then _ else _) = _
        by_cases z2 : 40 * r2 ≤ j ∧ j < 40 * r2 + k
        · rw [if_pos z2, if_pos (show 40 * r2 ≤ j ∧ j < 40 * r2 + (k + 1) by omega)]
        · rw [if_neg z2, if_neg (by omega)]
    by_cases q : m ≤ k
    · rw [if_pos q, Ib]
      exact fin 0 (by rw [if_neg (by omega)])
    · rw [if_neg q, ld_101 (by omega), gAj_ne (by decide), gI_ne (by decide), a2.2.2.2 k (by omega), Ib, Ib]
      exact fin _ (by rw [if_pos (by omega)])
  · simp only
    rw [lit_40, if_pos (rf_le (by decide)), gAj_ne (by decide), gI_ne (by decide), a2.2.1]
    rfl
theorem alk_order {x z : Int32} (I : Inv0 (PB B) h) (hB : B < 1800000000) (hF : 20736 < F) : Alk2 (PB B) (PB (B + 4000)) (f_X7_order F x z) (f_X8_order F x z) h := by
  obtain ⟨y, Z, w, ci, mi, si⟩ := PB_oth.mp I.2.2.2
  have W := w.1
  have hn := W.2.2.1
  have hmono : ∀ h, PB B h → PB (B + 4000) h := fun _ q => q.mono (by omega)
  by_cases hz : inR z 6
  · obtain ⟨r2, hr2, rfl⟩ := hz
    by_cases hx : inR x 6
    · obtain ⟨r, hr, rfl⟩ := hx
      by_cases q0 : yn (sY Z) = 0
      · refine alk_two hmono I (v := -4) ?_ ?_
        · unfold f_X7_order f_X7_refusedWants
          rw [rwm_st ci hr hr2 q0, Ib, if_neg nz4, Ib, if_neg nz4]
        · unfold f_X8_order f_X8_needWants
          rw [isRow_yes hr2, Ib, i10, isRow_yes hr, Ib, i10, mi.my.2.2.1, q0, if_pos (by decide), Ib, if_neg n4_le]
      · obtain ⟨i1, i2, i3⟩ := I.1 r hr
        rcases i2 with i2 | ⟨m, hm, i2⟩
        · refine (alk_as I (f := 1) (by decide) ?_ (fun h' hh => ?_)).to hmono
          · unfold f_X7_order f_X7_refusedWants
            rw [rwm_no ci W hr hr2 q0 i2, found_n (by decide), Ib, if_neg nz3, Ib, if_neg nz3]
          · unfold f_X8_order f_X8_needWants
            rw [isRow_yes hr2, Ib, i10, isRow_yes hr, Ib, i10, hh 66 (by decide), mi.my.2.2.1, if_neg (n_nz (by omega) (by omega)), ld_68 hr, Ib, hh 68 (by decide), ← i1, i2, if_neg m1_neg, bindself, show (1 : Int32) = nI 1 from rfl, meets_n (by decide), Ib, if_neg n3_le]
        · by_cases h5 : m ≤ 5
          · by_cases hok : ∀ i, i < m → okW (yn (sY Z)) (ycl (sY Z)) (gI h (3 + r) i)
            · obtain ⟨c, hc⟩ := wantNat hok
              obtain ⟨N, hNe, hN⟩ : ∃ N : Nat → Nat → Option Ent, (∀ s k, N s k = nst (bfin (sY Z) (ct (sC Z)) (co (sC Z)) s) (c k / 100) (c k % 100)) ∧ Nok (SW (sY Z)) N := ⟨nwt (sY Z) (ct (sC Z)) (co (sC Z)) c, fun _ _ => rfl, nwt_ok W⟩
              have fa := alN_get all_fin (show m < 6 by omega)
              rw [Bool.and_eq_true, Bool.and_eq_true, decide_eq_true_eq, decide_eq_true_eq, decide_eq_true_eq] at fa
              have hsome := mA_some (N := N) h5 m [] (2 ^ m - 1) (cs (sC Z)) 0 none fa.2 fa.1.1
              cases hA : mA N m m [] (2 ^ m - 1) (cs (sC Z)) 0 none with
              | none => rw [hA] at hsome; cases hsome
              | some x =>
                obtain ⟨M, S, L⟩ := x
                obtain ⟨g, e1, e2, e3⟩ := order_c (F := F) hNe hN ci w si hr hr2 q0 h5 i2 hc hA hB hF
                refine alk_rowsR I mi ⟨_, r2, m, g, _, hr2, by omega, e1, Sm1.ofCw e2, y, Z, w, ci.ofCw e2, e3, fun h' mi' hh => ?_⟩
                obtain ⟨g2, e4, e5⟩ := order_m (c := c) (F := F) hNe hN mi' w hr hr2 q0 h5 (by rw [hh 68 r (by decide), ← i1]; exact i2) (fun i hi => by rw [hh 69 _ (by decide), ← i3 i (by omega)]; exact hc i hi) hA hF
                refine ⟨g2, _, e4, Sm2.ofOX e5, mi'.ofOX e5, fun i hi => ?_, fun j hj hno => ?_⟩
                · unfold orf
                  rw [if_pos (show 40 * r2 ≤ 40 * r2 + i ∧ 40 * r2 + i < 40 * r2 + 40 by omega), if_pos hi, show 40 * r2 + i - 40 * r2 = i by omega]
                · rw [if_neg hno]
            · refine (alk_as I (f := 3) (by decide) ?_ (fun h' hh => ?_)).to hmono
              · unfold f_X7_order
                rw [rw_no ci W hr hr2 q0 h5 i2 hok (by omega), found_n (by decide), Ib, if_neg nz3]
              · have mi' : MI Z h' := mi.keep fun a k q => by rw [hh a (by unfold cM at q; omega)]
                unfold f_X8_order
                rw [isRow_yes hr2, Ib, nv_no rfl mi' W hr q0 h5 (by rw [hh 68 (by decide), ← i1]; exact i2) (fun z => hok fun i hi => by have := z i hi; rw [hh 69 (by decide), ← i3 i (by omega)] at this; exact this) (by omega), meets_n (by decide), Ib, if_neg n3_le]
          · refine (alk_as I (f := 5) (by decide) ?_ (fun h' hh => ?_)).to hmono
            · unfold f_X7_order
              rw [rw_sz ci W hr hr2 q0 hm i2 h5, found_n (by decide), Ib, if_neg nz3]
            · have mi' : MI Z h' := mi.keep fun a k q => by rw [hh a (by unfold cM at q; omega)]
              unfold f_X8_order
              rw [isRow_yes hr2, Ib, nv_sz rfl mi' W hr q0 hm (by rw [hh 68 (by decide), ← i1]; exact i2) h5, meets_n (by decide), Ib, if_neg n3_le]
    · refine alk_two hmono I (v := -1) ?_ ?_
      · unfold f_X7_order f_X7_refusedWants
        rw [rwm_bad (Or.inl hx), Ib, if_neg nz1, Ib, if_neg nz1]
      · unfold f_X8_order f_X8_needWants
        rw [isRow_yes hr2, Ib, i10, isRow_no hx, Ib, i00, Ib, if_neg m1_neg]
  · refine alk_two hmono I (v := -1) ?_ ?_
    · unfold f_X7_order f_X7_refusedWants
      rw [rwm_bad (Or.inr hz), Ib, if_neg nz1, Ib, if_neg nz1]
    · unfold f_X8_order f_X8_needWants
      rw [isRow_no hz, Ib, i00, Ib, if_neg m1_neg]
end ORDER
