/-! judge -/
def okJ (n : Nat) (x : Int32) : Prop := ∃ c : Nat, c < 2147483648 ∧ x = nI c ∧ c / 10 < n ∧ c % 10 < 4
def jr (Y : YS) (t op : Nat) (c : Nat → Nat) : Nat → Nat → Nat → Nat × Nat
  | s, k, 0 => (k, s)
  | s, k, r + 1 => match aft Y t op s (c k / 10) (c k % 10) with
    | none => (k, s)
    | some s' => jr Y t op c s' (k + 1) r
def strc (Y : YS) (s : Nat) : Nat := sumN (fun k => dst (yw Y) (dg s k) (dg s (sec (yn Y) k))) (yc Y)
section JUDGE
variable {y : Nat} {Z : SS} {h : Hp} {F r m : Nat}
theorem cstep_ev {x : Int32} (ci : CI y Z h) (W : YW (sY Z)) : f_X7_isStep x h = some (bz (pB (okJ (yn (sY Z)) x))) := by
  have hn := W.2.2.1
  unfold f_X7_isStep
  by_cases q : x < 0
  · rw [if_pos q, pB_n (fun ⟨c, h1, h2, _⟩ => by rw [h2] at q; exact nI_pos h1 q)]; rfl
  · obtain ⟨c, hc, rfl⟩ := nI_of q
    have d1 : c / 10 ≤ c := Nat.div_le_self _ _
    have d2 : c % 10 < 10 := Nat.mod_lt _ (by decide)
    rw [if_neg q, lit_10, pk_div hc (by decide) (by decide), rem_n hc (by decide) (by decide), lit_4, i_le (by decide) (by omega)]
    by_cases q1 : c / 10 < yn (sY Z)
    · rw [cman_y ci W ⟨_, q1, rfl⟩, Ib, i10]
      by_cases q2 : 4 ≤ c % 10
      · rw [if_pos q2, pB_n]
        · rfl
        · rintro ⟨c', h1, h2, h3, h4⟩
          rw [n_eq hc h1] at h2
          subst h2
          omega
      · rw [if_neg q2, pB_y ⟨c, hc, rfl, q1, by omega⟩]; rfl
    · rw [cman_n ci W (fun ⟨j, hj, e⟩ => by rw [n_eq (by omega) (by omega)] at e; omega), Ib, i00, pB_n]
      · rfl
      · rintro ⟨c', h1, h2, h3, h4⟩
        rw [n_eq hc h1] at h2
        subst h2
        omega
theorem mstep_T {x : Int32} (mi : MI Z h) (W : YW (sY Z)) : (if x < 0 then some (0 : Int32) else ((f_X8_isMan (x / (10 : Int32)) h).bind fun v31 => (if v31 = 0 then some (0 : Int32) else (if (4 : Int32) ≤ (rem32 x (10 : Int32)) then some (0 : Int32) else some (1 : Int32))))) = some (bz (pB (okJ (yn (sY Z)) x))) := by
  have hn := W.2.2.1
  by_cases q : x < 0
  · rw [if_pos q, pB_n (fun ⟨c, h1, h2, _⟩ => by rw [h2] at q; exact nI_pos h1 q)]; rfl
  · obtain ⟨c, hc, rfl⟩ := nI_of q
    have d1 : c / 10 ≤ c := Nat.div_le_self _ _
    have d2 : c % 10 < 10 := Nat.mod_lt _ (by decide)
    rw [if_neg q, lit_10, pk_div hc (by decide) (by decide), rem_n hc (by decide) (by decide), lit_4, i_le (by decide) (by omega)]
    by_cases q1 : c / 10 < yn (sY Z)
    · rw [mman_y mi W ⟨_, q1, rfl⟩, Ib, i10]
      by_cases q2 : 4 ≤ c % 10
      · rw [if_pos q2, pB_n]
        · rfl
        · rintro ⟨c', h1, h2, h3, h4⟩
          rw [n_eq hc h1] at h2
          subst h2
          omega
      · rw [if_neg q2, pB_y ⟨c, hc, rfl, q1, by omega⟩]; rfl
    · rw [mman_n mi W (fun ⟨j, hj, e⟩ => by rw [n_eq (by omega) (by omega)] at e; omega), Ib, i00, pB_n]
      · rfl
      · rintro ⟨c', h1, h2, h3, h4⟩
        rw [n_eq hc h1] at h2
        subst h2
        omega
theorem stretch_ev {s : Nat} (ci : CI y Z h) (W : YW (sY Z)) (S : SW (sY Z) s) (hF : 4 < F) : f_X7_stretch F (nI s) h = some (nI (strc (sY Z) s)) := by
  have hn := W.2.2.1
  have hc := yc_le W
  unfold f_X7_stretch
  refine fix_seq (fun k => (nI (sumN (fun k => dst (yw (sY Z)) (dg s k) (dg s (sec (yn (sY Z)) k))) k), nI k)) (yc (sY Z)) rfl (fun k hk self => ?_) (fun self => ?_) (by omega)
  · have hk2 := chn_2 hk
    have hs2 : sec (yn (sY Z)) k < yn (sY Z) := sec_lt (by omega)
    simp only [ci.o, Ib, ci.c]
    rw [if_neg (nle_k (by omega) hk), sec_ev ci.n hn (by omega), Ib, apart_ev ci.yc W ci.1 ci.2.1 (by have := S.1; omega) (by omega) (by omega) (S.2.2.1 k hk2.2) (S.2.2.1 _ hs2), Ib, nI_add, n_add1]
    rfl
  · simp only [ci.o, Ib, ci.c]
    rw [if_pos (rf_le (by omega))]
    rfl
theorem judge_c {c : Nat → Nat} (ci : CI y Z h) (w : SWf Z) (hr : r < 6) (q0 : ¬ yn (sY Z) = 0) (hm : m ≤ 40) (i2 : gI h 9 r = nI m) (hc : ∀ i, i < m → gI h (3 + r) i = nI (c i) ∧ c i / 10 < yn (sY Z) ∧ c i % 10 < 4) (hF : 40 < F) : f_X7_judge F (nI r) h = some (nI (jr (sY Z) (ct (sC Z)) (co (sC Z)) c (cs (sC Z)) 0 m).1, sI h 0 14 (nI (strc (sY Z) (jr (sY Z) (ct (sC Z)) (co (sC Z)) c (cs (sC Z)) 0 m).2))) := by
  have W := w.1
  have hn := W.2.2.1
  have o16 := op16 W w.2.1.2.2.1
  unfold f_X7_judge
  rw [rwm_ok ci W hr hr q0 hm i2, Ib, if_pos rfl, size_yes shf_rows hr, i2, Ib]
  refine fix_seq (fun k => nI k) m rfl (fun k hk self => ?_) (fun self => ?_) (by omega)
  · obtain ⟨c1, c2, c3⟩ := hc k hk
    rw [if_neg (nle_k (by omega) hk), get_in shf_rows hr i2 hm hk, c1, Ib, cstep_ev ci W, pB_y ⟨c k, by omega, rfl, c2, c3⟩, Ib]
    show (if bz true = 0 then _ else _) = _
    rw [i_bz0, if_pos rfl, n_add1]
  · rw [if_pos (rf_le (by omega))]
    simp only [jn, nm]
    refine fix_inv (fun k z => ∃ s, SW (sY Z) s ∧ z = (nI s, nI k) ∧ jr (sY Z) (ct (sC Z)) (co (sC Z)) c s k (m - k) = jr (sY Z) (ct (sC Z)) (co (sC Z)) c (cs (sC Z)) 0 m) m ⟨cs (sC Z), w.2.1.1, by rw [ci.now.1]; rfl, rfl⟩ (by omega) ?_ ?_
    · rintro k _ hk ⟨s, S, rfl, hj⟩ self2 hself2
      obtain ⟨c1, c2, c3⟩ := hc k hk
      have d1 : c k / 10 < 4 := by omega
      simp only
      rw [if_neg (nle_k (by omega) hk), get_in shf_rows hr i2 hm hk, c1, Ib, lit_10, pk_div (by omega) (by decide) (by decide), rem_n (by omega) (by decide) (by decide), after_ev ci.yc W ci.1 ci.rc S.1 c2 c3 o16 S.2.2.1 (by omega), Ib]
      rw [show m - k = (m - (k + 1)) + 1 by omega] at hj
      have hj2 : (match aft (sY Z) (ct (sC Z)) (co (sC Z)) s (c k / 10) (c k % 10) with | none => (k, s) | some s' => jr (sY Z) (ct (sC Z)) (co (sC Z)) c s' (k + 1) (m - (k + 1))) = jr (sY Z) (ct (sC Z)) (co (sC Z)) c (cs (sC Z)) 0 m := hj
      cases ha : aft (sY Z) (ct (sC Z)) (co (sC Z)) s (c k / 10) (c k % 10) with
      | none =>
        rw [ha] at hj2
        show (if (-9 : Int32) = -9 then _ else _) = _
        rw [if_pos rfl, stretch_ev ci W S (by omega), Ib, ← hj2]
      | some s' =>
        rw [ha] at hj2
        have S' := aft_SW W S c2 c3 ha
        show (if nI s' = (-9 : Int32) then _ else _) = _
        rw [i_m9 (by have := S'.1; omega), n_add1]
        exact hself2 _ ⟨s', S', rfl, hj2⟩
    · rintro _ ⟨s, S, rfl, hj⟩ self2
      simp only
      rw [Nat.sub_self] at hj
      have hj2 : (m, s) = jr (sY Z) (ct (sC Z)) (co (sC Z)) c (cs (sC Z)) 0 m := hj
      rw [if_pos (rf_le (by omega)), stretch_ev ci W S (by omega), Ib, ← hj2]
theorem mstretch_ev {s : Nat} {K : Int32} (mi : MI Z h) (W : YW (sY Z)) (L : LK (sY Z) s h) (hF : 4 < F) : fix (σ := Int32 × Int32) (ρ := (Int32 × Hp)) (fun self16 s15 => (if (gI h 66 11) ≤ s15.2 then ((f_X8_tells s15.1 K h).bind fun v18 => some (v18.1, v18.2)) else ((f_X8_farOf s15.2 h).bind fun v19 => self16 ((s15.1 + v19), (s15.2 + 1))))) F ((0 : Int32), (0 : Int32)) = some (K, sI h 66 2 (nI (strc (sY Z) s))) := by
  have hc := yc_le W
  refine fix_seq (fun k => (nI (sumN (fun k => dst (yw (sY Z)) (dg s k) (dg s (sec (yn (sY Z)) k))) k), nI k)) (yc (sY Z)) rfl (fun k hk self => ?_) (fun self => ?_) (by omega)
  · simp only [mi.my.2.2.2.1]
    rw [if_neg (nle_k (by omega) hk), farOf_ev mi.my W L hk, Ib, nI_add, n_add1]
    rfl
  · simp only [mi.my.2.2.2.1]
    rw [if_pos (rf_le (by omega))]
    rfl
theorem judge_m {c : Nat → Nat} (mi : MI Z h) (w : SWf Z) (hr : r < 6) (q0 : ¬ yn (sY Z) = 0) (hm : m ≤ 40) (i2 : gI h 68 r = nI m) (hc : ∀ i, i < m → gI h 69 (40 * r + i) = nI (c i) ∧ c i / 10 < yn (sY Z) ∧ c i % 10 < 4) (hF : 40 < F) : ∃ h2, f_X8_judge F (nI r) h = some (nI (jr (sY Z) (ct (sC Z)) (co (sC Z)) c (cs (sC Z)) 0 m).1, sI h2 66 2 (nI (strc (sY Z) (jr (sY Z) (ct (sC Z)) (co (sC Z)) c (cs (sC Z)) 0 m).2))) ∧ Eo sSt h h2 := by
  have W := w.1
  have hn := W.2.2.1
  unfold f_X8_judge
  rw [isRow_yes hr, Ib, i10, mi.my.2.2.1, if_neg (n_nz (by omega) (by omega)), ld_68 hr, i2, Ib, if_pos (n_ge (by omega))]
  simp only [Ib]
  refine fix_post (fun x => ∃ h2, x = some (nI (jr (sY Z) (ct (sC Z)) (co (sC Z)) c (cs (sC Z)) 0 m).1, sI h2 66 2 (nI (strc (sY Z) (jr (sY Z) (ct (sC Z)) (co (sC Z)) c (cs (sC Z)) 0 m).2))) ∧ Eo sSt h h2) (fun (k : Nat) (z : Int32 × Int32) => z = (bz true, nI k)) m ?_ (by omega) ?_ ?_
  · rfl
  · rintro k _ hk rfl self hself
    obtain ⟨c1, c2, c3⟩ := hc k hk
    simp only
    rw [if_neg (nle_k (by omega) hk), rowAt_n hr (by omega), c1, Ib, fl1 (c := true) (fun _ => by
      rw [mstep_T mi W, pB_y ⟨c k, by omega, rfl, c2, c3⟩]), n_add1]
    exact hself _ rfl
  · rintro _ rfl self
    obtain ⟨h1, e1, l1, eo⟩ := look_ev mi W (F := F) (by omega)
    simp only [jn]
    rw [if_pos (rf_le (by omega)), i_bz0, if_pos rfl, e1, Ib]
    refine fix_post (fun x => ∃ h2, x = some (nI (jr (sY Z) (ct (sC Z)) (co (sC Z)) c (cs (sC Z)) 0 m).1, sI h2 66 2 (nI (strc (sY Z) (jr (sY Z) (ct (sC Z)) (co (sC Z)) c (cs (sC Z)) 0 m).2))) ∧ Eo sSt h h2) (fun (k : Nat) (z : Int32 × Hp) => z.1 = nI k ∧ Eo sSt h z.2 ∧ ∃ s, SW (sY Z) s ∧ LK (sY Z) s z.2 ∧ jr (sY Z) (ct (sC Z)) (co (sC Z)) c s k (m - k) = jr (sY Z) (ct (sC Z)) (co (sC Z)) c (cs (sC Z)) 0 m) m ?_ (by omega) ?_ ?_
    · exact ⟨rfl, eo.to, cs (sC Z), w.2.1.1, l1, rfl⟩
    · rintro k ⟨z1, g⟩ hk ⟨rfl, eg, s, S, L, hj⟩ self9 hself9
      obtain ⟨c1, c2, c3⟩ := hc k hk
      have M := mi.ofS eg
      have e69 : gI g 69 (40 * r + k) = nI (c k) := by rw [eg.1 69 _ (by unfold sSt; omega)]; exact c1
      obtain ⟨g2, b1, b2, b3⟩ := steps_ev (F := F) M.my M.mt W L S.1 c2 c3 w.2.1.2.1 S.2.2.1 (by omega)
      have eg2 := eg.trans b3
      simp only at eg ⊢
      rw [ld_68 hr, eg.1 68 r (by unfold sSt; omega), i2, Ib, if_neg (nle_k (by omega) hk), rowAt_n hr (by omega), e69, Ib, Ib, lit_10, pk_div (by omega) (by decide) (by decide), rem_n (by omega) (by decide) (by decide), b1, Ib]
      rw [show m - k = (m - (k + 1)) + 1 by omega] at hj
      have hj2 : (match aft (sY Z) (ct (sC Z)) (co (sC Z)) s (c k / 10) (c k % 10) with | none => (k, s) | some s' => jr (sY Z) (ct (sC Z)) (co (sC Z)) c s' (k + 1) (m - (k + 1))) = jr (sY Z) (ct (sC Z)) (co (sC Z)) c (cs (sC Z)) 0 m := hj
      cases ha : aft (sY Z) (ct (sC Z)) (co (sC Z)) s (c k / 10) (c k % 10) with
      | none =>
        rw [ha] at hj2 b2
        refine ⟨g2, ?_, eg2⟩
        show (if bz false = 0 then _ else _) = _
        rw [i_bz0, if_neg (by decide), mstretch_ev (mi.ofS eg2) W b2 (by omega), ← hj2]; rfl
      | some s' =>
        rw [ha] at hj2 b2
        have S' := aft_SW W S c2 c3 ha
        show ∃ h2, (if bz true = 0 then _ else _) = _ ∧ _
        rw [i_bz0, if_pos rfl, n_add1]
        exact hself9 _ ⟨rfl, eg2, s', S', b2, hj2⟩
    · rintro ⟨z1, g⟩ ⟨rfl, eg, s, S, L, hj⟩ self9
      simp only at eg ⊢
      rw [Nat.sub_self] at hj
      have hj2 : (m, s) = jr (sY Z) (ct (sC Z)) (co (sC Z)) c (cs (sC Z)) 0 m := hj
      refine ⟨g, ?_, eg⟩
      rw [ld_68 hr, eg.1 68 r (by unfold sSt; omega), i2, Ib, if_pos (rf_le (by omega)), mstretch_ev (mi.ofS eg) W L (by omega), ← hj2]
end JUDGE
theorem stepNat {n m : Nat} {v : Nat → Int32} (h : ∀ i, i < m → okJ n (v i)) : ∃ k : Nat → Nat, ∀ i, i < m → v i = nI (k i) ∧ k i / 10 < n ∧ k i % 10 < 4 := by
  refine ⟨fun i => (v i).toNatClampNeg, fun i hi => ?_⟩
  obtain ⟨c, hc, e, e2, e3⟩ := h i hi
  have : (v i).toNatClampNeg = c := by rw [e]; exact nI_clamp hc
  simp only [this]
  exact ⟨e, e2, e3⟩
section JUDGE2
variable {B F : Nat} {h : Hp}
theorem alk_judge {x : Int32} (I : Inv0 (PB B) h) (hF : 40 < F) : Alk2 (PB B) (PB B) (f_X7_judge F x) (f_X8_judge F x) h := by
  obtain ⟨y, Z, w, ci, mi, si⟩ := PB_oth.mp I.2.2.2
  have W := w.1
  have hn := W.2.2.1
  by_cases hx : inR x 6
  · obtain ⟨r, hr, rfl⟩ := hx
    by_cases q0 : yn (sY Z) = 0
    · refine alk_two (fun _ q => q) I (v := -4) ?_ ?_
      · unfold f_X7_judge
        rw [rwm_st ci hr hr q0, Ib, if_neg nz4]
      · unfold f_X8_judge
        rw [isRow_yes hr, Ib, i10, mi.my.2.2.1, q0, if_pos (by decide)]
    · obtain ⟨i1, i2, i3⟩ := I.1 r hr
      rcases i2 with i2 | ⟨m, hm, i2⟩
      · refine (alk_as I (f := 1) (by decide) ?_ (fun h' hh => ?_)).two
        · unfold f_X7_judge
          rw [rwm_no ci W hr hr q0 i2, found_n (by decide), Ib, if_neg nz3]
        · unfold f_X8_judge
          rw [isRow_yes hr, Ib, i10, hh 66 (by decide), mi.my.2.2.1, if_neg (n_nz (by omega) (by omega)), ld_68 hr, Ib, hh 68 (by decide), ← i1, i2, if_neg m1_neg, bindself]; rfl
      · by_cases hok : ∀ i, i < m → okJ (yn (sY Z)) (gI h (3 + r) i)
        · obtain ⟨c, hc⟩ := stepNat hok
          refine alk_toldR I mi ⟨_, _, h, judge_c ci w hr q0 hm i2 hc hF, Sm1.refl, y, Z, w, ci, si, fun h' mi' hh => ?_⟩
          obtain ⟨h2, e1, e2⟩ := judge_m (c := c) (F := F) mi' w hr q0 hm (by rw [hh 68 r (by decide), ← i1]; exact i2) (fun i hi => by rw [hh 69 _ (by decide), ← i3 i (by omega)]; exact hc i hi) hF
          exact ⟨h2, e1, Sm2.ofS e2, mi'.ofS e2⟩
        · refine (alk_as I (f := 3) (by decide) ?_ (fun h' hh => ?_)).two
          · unfold f_X7_judge
            rw [rwm_ok ci W hr hr q0 hm i2, Ib, if_pos rfl, size_yes shf_rows hr, i2, Ib]
            refine fix_inv (fun k z => z = nI k ∧ ∀ j, j < k → okJ (yn (sY Z)) (gI h (3 + r) j)) m ⟨rfl, fun j hj => absurd hj (Nat.not_lt_zero j)⟩ (by omega) ?_ ?_
            · rintro k z hk ⟨rfl, hz⟩ self hself
              rw [if_neg (nle_k (by omega) hk), get_in shf_rows hr i2 hm hk, Ib, cstep_ev ci W, Ib, n_add1, i_bz0]
              by_cases q : okJ (yn (sY Z)) (gI h (3 + r) k)
              · rw [if_pos (pB_y q)]
                exact hself _ ⟨rfl, fun j hj => by
                  by_cases e : j = k
                  · rw [e]; exact q
                  · exact hz j (by omega)⟩
              · rw [if_neg (by rw [pB_n q]; decide), bindself]; rfl
            · rintro z ⟨rfl, hz⟩ self
              exact absurd hz hok
          · have mi' : MI Z h' := mi.keep fun a k q => by rw [hh a (by unfold cM at q; omega)]
            unfold f_X8_judge
            rw [isRow_yes hr, Ib, i10, mi'.my.2.2.1, if_neg (n_nz (by omega) (by omega)), ld_68 hr, Ib, hh 68 (by decide), ← i1, i2, if_pos (n_ge (by omega))]
            simp only [Ib]
            refine fix_seq (fun k => (bz (alN k (fun i => pB (okJ (yn (sY Z)) (gI h (3 + r) i)))), nI k)) m rfl (fun k hk self => ?_) (fun self => ?_) (by omega)
            · simp only
              rw [if_neg (nle_k (by omega) hk), rowAt_n hr (by omega), hh 69 (by decide), ← i3 k (by omega), Ib, n_add1, alN_s]
              exact fl1 (fun _ => mstep_T mi' W)
            · have : alN m (fun i => pB (okJ (yn (sY Z)) (gI h (3 + r) i))) = false := by
                cases e : alN m (fun i => pB (okJ (yn (sY Z)) (gI h (3 + r) i))) with
                | false => rfl
                | true => exact absurd (fun i hi => by have := alN_get e hi; rw [pB_t] at this; exact this) hok
              simp only
              rw [if_pos (rf_le (by omega)), this, i_bz0, if_neg (by decide), bindself]; rfl
  · refine alk_two (fun _ q => q) I (v := -1) ?_ ?_
    · unfold f_X7_judge
      rw [rwm_bad (Or.inl hx), Ib, if_neg nz1]
    · unfold f_X8_judge
      rw [isRow_no hx, Ib, i00]
end JUDGE2
