/-! wants: fetch -/
def okW (n cl : Nat) (x : Int32) : Prop := ∃ c : Nat, c < 2147483648 ∧ x = nI c ∧ c / 100 < n ∧ c % 100 < cl
def sCw (a _k : Nat) : Prop := 23 ≤ a ∧ a ≤ 37
def sTk (a _k : Nat) : Prop := 31 ≤ a ∧ a ≤ 33
def sFM (a k : Nat) : Prop := sML a k ∨ a = 97 ∨ a = 98 ∨ a = 99 ∨ a = 66 ∧ k = 48
theorem CI.ofCw {y : Nat} {Z : SS} {h h' : Hp} (I : CI y Z h) (e : Eo sCw h h') : CI y Z h' := by
  have hy : y = 41 ∨ y = 49 := I.1
  have r : gR h' = gR h := by show h'.2.1 = h.2.1; rw [e.2]
  exact I.keep (fun a k q => e.1 a k (fun z => by unfold cCy at q; unfold sCw at z; omega)) (by rw [r]) (by rw [r]) (by rw [r])
theorem Sm1.ofCw {h h' : Hp} (e : Eo sCw h h') : Sm1 h h' := fun a k q => e.1 a k (fun z => by unfold sCw at z; rw [irr_iff] at q; omega)
theorem MI.ofFM {Z : SS} {h h' : Hp} (M : MI Z h) (e : Eo sFM h h') : MI Z h' := M.keep fun a k q => e.1 a k (fun z => by unfold cM at q; unfold sFM sML at z; omega)
theorem Sm2.ofFM {h h' : Hp} (e : Eo sFM h h') : Sm2 h h' := ⟨fun a k q => e.1 a k (fun z => by unfold sFM sML at z; rw [irr_iff] at q; omega), by show h'.2.1 = h.2.1; rw [e.2]⟩
theorem Eo.se {h h' : Hp} (e : Eo sSe h h') : Eo sCw h h' := e.mono fun a k q => by unfold sSe at q; unfold sCw; omega
theorem Eo.tk {h h' : Hp} (e : Eo sTk h h') : Eo sCw h h' := e.mono fun a k q => by unfold sTk at q; unfold sCw; omega
theorem SI.ofTk {Y : YS} {t op B : Nat} {h h' : Hp} (I : SI Y t op B h) (e : Eo sTk h h') : SI Y t op B h' := I.keep fun a h1 h2 => e.row fun k => by unfold sTk; omega
theorem Eo.fm {h h' : Hp} (e : Eo sMB h h') : Eo sFM h h' := e.mono fun a k q => by
  rcases q with q | q | q
  · exact Or.inl q
  · exact Or.inr (Or.inr (Or.inl q))
  · exact Or.inr (Or.inr (Or.inr (Or.inl q)))
section WANTS
variable {y : Nat} {Z : SS} {h : Hp} {F r q m : Nat}
theorem okw_no {n cl c : Nat} (hc : c < 2147483648) (h : ¬ (c / 100 < n ∧ c % 100 < cl)) : ¬ okW n cl (nI c) := by
  rintro ⟨c', h1, h2, h3, h4⟩
  rw [n_eq hc h1] at h2
  subst h2
  exact h ⟨h3, h4⟩
theorem okw_c {α : Type} {x : Int32} {A C : Option α} (ci : CI y Z h) (W : YW (sY Z)) : (if x < 0 then A else ((f_X7_isMan (x / (100 : Int32)) h).bind fun v12 => (if v12 = 0 then A else ((f_X7_isCell (rem32 x (100 : Int32)) h).bind fun v13 => (if v13 = 0 then A else C))))) = if pB (okW (yn (sY Z)) (ycl (sY Z)) x) = true then C else A := by
  have hn := W.2.2.1
  have hcl := ycl_le W
  by_cases q0 : x < 0
  · rw [if_pos q0, if_neg (by rw [pB_n (fun ⟨c, h1, h2, _⟩ => by rw [h2] at q0; exact nI_pos h1 q0)]; decide)]
  · obtain ⟨c, hc, rfl⟩ := nI_of q0
    have d1 : c / 100 ≤ c := Nat.div_le_self _ _
    have d2 : c % 100 < 100 := Nat.mod_lt _ (by decide)
    rw [if_neg q0, lit_100, pk_div hc (by decide) (by decide), rem_n hc (by decide) (by decide)]
    by_cases q1 : c / 100 < yn (sY Z)
    · rw [cman_y ci W ⟨_, q1, rfl⟩, Ib, i10]
      by_cases q2 : c % 100 < ycl (sY Z)
      · rw [ccell_y ci W ⟨_, q2, rfl⟩, Ib, i10, if_pos (pB_y ⟨c, hc, rfl, q1, q2⟩)]
      · rw [ccell_n ci W (fun ⟨j, hj, e⟩ => by rw [n_eq (by omega) (by omega)] at e; omega), Ib, i00, if_neg (by rw [pB_n (okw_no hc (fun z => q2 z.2))]; decide)]
    · rw [cman_n ci W (fun ⟨j, hj, e⟩ => by rw [n_eq (by omega) (by omega)] at e; omega), Ib, i00, if_neg (by rw [pB_n (okw_no hc (fun z => q1 z.1))]; decide)]
theorem okw_m {x : Int32} (mi : MI Z h) (W : YW (sY Z)) : (if x < 0 then some (0 : Int32) else ((f_X8_isMan (x / (100 : Int32)) h).bind fun v12 => (if v12 = 0 then some (0 : Int32) else ((f_X8_isCell (rem32 x (100 : Int32)) h).bind fun v13 => (if v13 = 0 then some (0 : Int32) else some (1 : Int32)))))) = some (bz (pB (okW (yn (sY Z)) (ycl (sY Z)) x))) := by
  have hn := W.2.2.1
  have hcl := ycl_le W
  by_cases q0 : x < 0
  · rw [if_pos q0, pB_n (fun ⟨c, h1, h2, _⟩ => by rw [h2] at q0; exact nI_pos h1 q0)]; rfl
  · obtain ⟨c, hc, rfl⟩ := nI_of q0
    have d1 : c / 100 ≤ c := Nat.div_le_self _ _
    have d2 : c % 100 < 100 := Nat.mod_lt _ (by decide)
    rw [if_neg q0, lit_100, pk_div hc (by decide) (by decide), rem_n hc (by decide) (by decide)]
    by_cases q1 : c / 100 < yn (sY Z)
    · rw [mman_y mi W ⟨_, q1, rfl⟩, Ib, i10]
      by_cases q2 : c % 100 < ycl (sY Z)
      · rw [mcell_y mi.my W ⟨_, q2, rfl⟩, Ib, i10, pB_y ⟨c, hc, rfl, q1, q2⟩]; rfl
      · rw [mcell_n mi.my W (fun ⟨j, hj, e⟩ => by rw [n_eq (by omega) (by omega)] at e; omega), Ib, i00, pB_n (okw_no hc (fun z => q2 z.2))]; rfl
    · rw [mman_n mi W (fun ⟨j, hj, e⟩ => by rw [n_eq (by omega) (by omega)] at e; omega), Ib, i00, pB_n (okw_no hc (fun z => q1 z.1))]; rfl
theorem rw_sz (ci : CI y Z h) (W : YW (sY Z)) (hr : r < 6) (hq : q < 6) (q0 : ¬ yn (sY Z) = 0) (hm : m ≤ 40) (i2 : gI h 9 r = nI m) (h5 : ¬ m ≤ 5) : f_X7_refusedWants F (nI r) (nI q) h = f_X7_found (nI 5) h := by
  unfold f_X7_refusedWants
  rw [rwm_ok ci W hr hq q0 hm i2, Ib, if_pos rfl, size_yes shf_rows hr, i2, Ib, lit_5, i_le (by omega) (by decide), if_neg h5, bindself]
theorem rw_no (ci : CI y Z h) (W : YW (sY Z)) (hr : r < 6) (hq : q < 6) (q0 : ¬ yn (sY Z) = 0) (hm : m ≤ 5) (i2 : gI h 9 r = nI m) (hno : ¬ ∀ i, i < m → okW (yn (sY Z)) (ycl (sY Z)) (gI h (3 + r) i)) (hF : 5 < F) : f_X7_refusedWants F (nI r) (nI q) h = f_X7_found (nI 3) h := by
  unfold f_X7_refusedWants
  rw [rwm_ok ci W hr hq q0 (by omega) i2, Ib, if_pos rfl, size_yes shf_rows hr, i2, Ib, lit_5, i_le (by omega) (by decide), if_pos hm]
  simp only [Ib, jn, bindself]
  refine fix_inv (fun k z => z = nI k ∧ ∀ j, j < k → okW (yn (sY Z)) (ycl (sY Z)) (gI h (3 + r) j)) m ⟨rfl, fun j hj => absurd hj (Nat.not_lt_zero j)⟩ (by omega) ?_ ?_
  · rintro k z hk ⟨rfl, hz⟩ self hself
    rw [if_neg (nle_k (by omega) hk), get_in shf_rows hr i2 (by omega) hk, Ib, okw_c ci W, n_add1]
    by_cases q1 : okW (yn (sY Z)) (ycl (sY Z)) (gI h (3 + r) k)
    · rw [if_pos (pB_y q1)]
      exact hself _ ⟨rfl, fun j hj => by
        by_cases e : j = k
        · rw [e]; exact q1
        · exact hz j (by omega)⟩
    · rw [if_neg (by rw [pB_n q1]; decide)]; rfl
  · rintro z ⟨rfl, hz⟩ self
    exact absurd hz hno
theorem rw_ok (ci : CI y Z h) (W : YW (sY Z)) (hr : r < 6) (hq : q < 6) (q0 : ¬ yn (sY Z) = 0) (hm : m ≤ 5) (i2 : gI h 9 r = nI m) (hok : ∀ i, i < m → okW (yn (sY Z)) (ycl (sY Z)) (gI h (3 + r) i)) (hF : 5 < F) : f_X7_refusedWants F (nI r) (nI q) h = some (0, h) := by
  unfold f_X7_refusedWants
  rw [rwm_ok ci W hr hq q0 (by omega) i2, Ib, if_pos rfl, size_yes shf_rows hr, i2, Ib, lit_5, i_le (by omega) (by decide), if_pos hm]
  simp only [Ib, jn, bindself]
  refine fix_seq (fun k => nI k) m rfl (fun k hk self => ?_) (fun self => ?_) (by omega)
  · rw [if_neg (nle_k (by omega) hk), get_in shf_rows hr i2 (by omega) hk, Ib, okw_c ci W, n_add1, if_pos (pB_y (hok k hk))]
  · rw [if_pos (rf_le (by omega))]
theorem nv_sz {b : Int32} (hb : b = 1) (mi : MI Z h) (W : YW (sY Z)) (hr : r < 6) (q0 : ¬ yn (sY Z) = 0) (hm : m ≤ 40) (i2 : gI h 68 r = nI m) (h5 : ¬ m ≤ 5) : f_X8_needWants F b (nI r) h = f_X8_meets (nI 5) h := by
  have hn := W.2.2.1
  subst hb
  unfold f_X8_needWants
  rw [i10, isRow_yes hr, Ib, i10, mi.my.2.2.1, if_neg (n_nz (by omega) (by omega)), ld_68 hr, i2, Ib, if_pos (n_ge (by omega)), Ib, lit_5, i_le (by omega) (by decide), if_neg h5, bindself]
theorem nv_no {b : Int32} (hb : b = 1) (mi : MI Z h) (W : YW (sY Z)) (hr : r < 6) (q0 : ¬ yn (sY Z) = 0) (hm : m ≤ 5) (i2 : gI h 68 r = nI m) (hno : ¬ ∀ i, i < m → okW (yn (sY Z)) (ycl (sY Z)) (gI h 69 (40 * r + i))) (hF : 5 < F) : f_X8_needWants F b (nI r) h = f_X8_meets (nI 3) h := by
  have hn := W.2.2.1
  subst hb
  unfold f_X8_needWants
  rw [i10, isRow_yes hr, Ib, i10, mi.my.2.2.1, if_neg (n_nz (by omega) (by omega)), ld_68 hr, i2, Ib, if_pos (n_ge (by omega)), Ib, lit_5, i_le (by omega) (by decide), if_pos hm]
  simp only [Ib]
  refine fix_seq (fun k => (bz (alN k (fun i => pB (okW (yn (sY Z)) (ycl (sY Z)) (gI h 69 (40 * r + i))))), nI k)) m rfl (fun k hk self => ?_) (fun self => ?_) (by omega)
  · simp only
    rw [if_neg (nle_k (by omega) hk), rowAt_n hr (by omega), Ib, n_add1, alN_s]
    exact fl1 (fun _ => okw_m mi W)
  · have : alN m (fun i => pB (okW (yn (sY Z)) (ycl (sY Z)) (gI h 69 (40 * r + i)))) = false := by
      cases e : alN m (fun i => pB (okW (yn (sY Z)) (ycl (sY Z)) (gI h 69 (40 * r + i)))) with
      | false => rfl
      | true => exact absurd (fun i hi => by have := alN_get e hi; rw [pB_t] at this; exact this) hno
    simp only
    rw [if_pos (rf_le (by omega)), this, i_bz0, if_neg (by decide), bindself]; rfl
theorem nv_ok {b : Int32} {c : Nat → Nat} (hb : b = 1) (mi : MI Z h) (w : SWf Z) (hr : r < 6) (q0 : ¬ yn (sY Z) = 0) (hm : m ≤ 5) (i2 : gI h 68 r = nI m) (hc : ∀ i, i < m → gI h 69 (40 * r + i) = nI (c i) ∧ c i / 100 < yn (sY Z) ∧ c i % 100 < ycl (sY Z)) (hF : 5 < F) : ∃ h2, f_X8_needWants F b (nI r) h = some (0, h2) ∧ Eo sFM h h2 ∧ gI h2 66 48 = nI m ∧ (∀ i, i < m → gI h2 97 i = nI (c i)) ∧ gI h2 98 0 = nI (cod (yn (sY Z)) (cs (sC Z))) ∧ gI h2 99 0 = nI 0 := by
  have W := w.1
  have hn := W.2.2.1
  have hcl := ycl_le W
  subst hb
  have E1 : Eo sFM h (sI h 66 48 (nI m)) := Eo.refl.sI (Or.inr (Or.inr (Or.inr (Or.inr ⟨rfl, rfl⟩))))
  have E2 : Eo sFM h (sA (sI h 66 48 (nI m)) 97 (va_cpy (gI h 69) (gI h 97) (40 * r) 0 m)) := E1.sA (fun k => Or.inr (Or.inl rfl))
  have M2 := mi.ofFM E2
  have g48 : gI (sA (sI h 66 48 (nI m)) 97 (va_cpy (gI h 69) (gI h 97) (40 * r) 0 m)) 66 48 = nI m := by rw [gAj_ne (by decide), gI_eq]
  have g97 : ∀ i, i < m → gI (sA (sI h 66 48 (nI m)) 97 (va_cpy (gI h 69) (gI h 97) (40 * r) 0 m)) 97 i = nI (c i) := fun i hi => by
    rw [gAj_eq, pk_cpy_in (by omega) (by omega), Nat.sub_zero]; exact (hc i hi).1
  obtain ⟨h3, l1, l2, l3⟩ := look_ev M2 W (F := F) (by omega)
  have M3 := M2.of82 l3
  refine ⟨sI (sI h3 98 0 (nI (cod (yn (sY Z)) (cs (sC Z))))) 99 0 (nI 0), ?_, ((E2.trans (l3.mono fun a k q => Or.inl (Or.inl q))).sI (Or.inr (Or.inr (Or.inl rfl)))).sI (Or.inr (Or.inr (Or.inr (Or.inl rfl)))), ?_, fun i hi => ?_, ?_, gI_eq⟩
  · unfold f_X8_needWants
    rw [i10, isRow_yes hr, Ib, i10, mi.my.2.2.1, if_neg (n_nz (by omega) (by omega)), ld_68 hr, i2, Ib, if_pos (n_ge (by omega)), Ib, lit_5, i_le (by omega) (by decide), if_pos hm]
    simp only [Ib]
    refine fix_seq (fun k => (bz true, nI k)) m rfl (fun k hk self => ?_) (fun self => ?_) (by omega)
    · simp only
      rw [if_neg (nle_k (by omega) hk), rowAt_n hr (by omega), (hc k hk).1, Ib, n_add1, fl1 (c := true) (fun _ => by
        rw [okw_m mi W, pB_y ⟨c k, by have := (hc k hk).2; omega, rfl, (hc k hk).2.1, (hc k hk).2.2⟩])]
      rfl
    · simp only [nm]
      rw [if_pos (rf_le (by omega)), i_bz0, if_pos rfl]
      refine fix_seq (fun k => (nI k, sA (sI h 66 48 (nI m)) 97 (va_cpy (gI h 69) (gI h 97) (40 * r) 0 k))) m ?_ (fun k hk self2 => ?_) (fun self2 => ?_) (by omega)
      · refine Prod.ext rfl (sA_self fun j => ?_)
        rw [cpy_0, gI_ne (by decide)]
      · simp only
        rw [gAj_ne (by decide), gI_eq, if_neg (nle_k (by omega) hk), rowAt_n hr (by omega), gAj_ne (by decide), gI_ne (by decide), Ib, st_97 (by omega), Ib, sI_sA, n_add1]
        have := cpy_s (f := gI h 69) (g := gI h 97) (sp := 40 * r) (dp := 0) (k := k)
        rw [Nat.zero_add] at this
        rw [this]
      · simp only
        rw [g48, if_pos (rf_le (by omega)), l1, Ib, code_ev M3.my W l2 w.2.1.1.1 (by omega), Ib, lit_0, st_98 (by decide), Ib, st_99 (by decide), Ib]
  · rw [gI_ne (by decide), gI_ne (by decide), l3.1 66 48 (by unfold s82; omega)]; exact g48
  · rw [gI_ne (by decide), gI_ne (by decide), l3.1 97 i (by unfold s82; omega)]; exact g97 i hi
  · rw [gI_ne (by decide), gI_eq]
theorem take5_ev {c : Nat → Nat} (hr : r < 6) (hm : m ≤ 5) (i2 : gI h 9 r = nI m) (hc : ∀ i, i < m → gI h (3 + r) i = nI (c i) ∧ c i < 2147483648) (hF : 5 < F) : ∃ h2, f_X5_take F 1 (nI r) h = some h2 ∧ Eo sTk h h2 ∧ gI h2 31 0 = nI m ∧ gI h2 31 4 = -9 ∧ gI h2 31 5 = 0 ∧ ∀ i, i < m → gI h2 32 i = nI (c i / 100) ∧ gI h2 33 i = nI (c i % 100) := by
  have e1 : mxI (0 : Int32) (mnI (nI m) (5 : Int32)) = nI m := by
    have e0 : mnI (nI m) (5 : Int32) = nI m := by
      unfold mnI
      rw [lit_5, i_lt (by decide) (by omega), if_neg (by omega)]
    rw [e0]
    unfold mxI
    rw [lit_0, i_lt (by decide) (by omega)]
    by_cases z : 0 < m
    · rw [if_pos z]
    · rw [if_neg z, show m = 0 by omega]
  unfold f_X5_take
  simp only [nm]
  rw [size_yes shf_rows hr, i2, Ib, e1]
  refine fix_post (fun x => ∃ h2, x = some h2 ∧ Eo sTk h h2 ∧ gI h2 31 0 = nI m ∧ gI h2 31 4 = -9 ∧ gI h2 31 5 = 0 ∧ ∀ i, i < m → gI h2 32 i = nI (c i / 100) ∧ gI h2 33 i = nI (c i % 100)) (fun (k : Nat) (z : Int32 × Hp) => z.1 = nI k ∧ Eo sTk h z.2 ∧ gI z.2 31 0 = nI m ∧ ∀ i, i < k → gI z.2 32 i = nI (c i / 100) ∧ gI z.2 33 i = nI (c i % 100)) m ?_ (by omega) ?_ ?_
  · exact ⟨rfl, Eo.refl.sI ⟨by omega, by omega⟩, gI_eq, fun i hi => absurd hi (Nat.not_lt_zero i)⟩
  · rintro k ⟨z1, g⟩ hk ⟨rfl, eo, g0, gw⟩ self hself
    obtain ⟨c1, c2⟩ := hc k hk
    have e9 : gI g 9 r = nI m := by rw [eo.1 9 r (by unfold sTk; omega)]; exact i2
    have e3 : gI g (3 + r) k = nI (c k) := by rw [eo.1 (3 + r) k (by unfold sTk; omega)]; exact c1
    simp only at eo g0 gw ⊢
    rw [g0, if_neg (nle_k (by omega) hk), get_in shf_rows hr e9 (by omega) hk, e3, Ib, lit_100, pk_div c2 (by decide) (by decide), st_32 (by omega), Ib, get_in (m := m) shf_rows hr (by rw [gI_ne (by decide)]; exact e9) (by omega) hk, gI_ne (by omega), e3, Ib, rem_n c2 (by decide) (by decide), st_33 (by omega), Ib, n_add1]
    refine hself _ ⟨rfl, (eo.sI ⟨by omega, by omega⟩).sI ⟨by omega, by omega⟩, ?_, fun i hi => ⟨?_, ?_⟩⟩
    · show gI (sI (sI g 32 k _) 33 k _) 31 0 = _
      rw [gI_ne (by decide), gI_ne (by decide)]; exact g0
    · show gI (sI (sI g 32 k _) 33 k _) 32 i = _
      rw [gI_ne (by decide), gI_at]
      by_cases e : i = k
      · rw [if_pos e, e]
      · rw [if_neg e]; exact (gw i (by omega)).1
    · show gI (sI (sI g 32 k _) 33 k _) 33 i = _
      rw [gI_at]
      by_cases e : i = k
      · rw [if_pos e, e]
      · rw [if_neg e, gI_ne (by decide)]; exact (gw i (by omega)).2
  · rintro ⟨z1, g⟩ ⟨rfl, eo, g0, gw⟩ self
    simp only at eo g0 gw ⊢
    rw [g0, if_pos (rf_le (by omega))]
    refine ⟨_, rfl, (eo.sI ⟨by omega, by omega⟩).sI ⟨by omega, by omega⟩, ?_, ?_, gI_eq, fun i hi => ⟨?_, ?_⟩⟩
    · rw [gI_nk (by decide), gI_nk (by decide)]; exact g0
    · rw [gI_nk (by decide), gI_eq]
    · rw [gI_ne (by decide), gI_ne (by decide)]; exact (gw i hi).1
    · rw [gI_ne (by decide), gI_ne (by decide)]; exact (gw i hi).2
end WANTS
theorem wantNat {n cl m : Nat} {v : Nat → Int32} (h : ∀ i, i < m → okW n cl (v i)) : ∃ k : Nat → Nat, ∀ i, i < m → v i = nI (k i) ∧ k i / 100 < n ∧ k i % 100 < cl := by
  refine ⟨fun i => (v i).toNatClampNeg, fun i hi => ?_⟩
  obtain ⟨c, hc, e, e2, e3⟩ := h i hi
  have : (v i).toNatClampNeg = c := by rw [e]; exact nI_clamp hc
  simp only [this]
  exact ⟨e, e2, e3⟩
def frw (N : Nat → Nat → Option Ent) : Nat → Nat → Nat → Nat → Nat × Nat
  | _, st, k, 0 => (k, st)
  | s, st, k, r + 1 => match N s k with
    | none => (k, st)
    | some b => frw N b.1 (st + b.2.1) (k + 1) r
theorem frw_n {N : Nat → Nat → Option Ent} {s st k r : Nat} (h : N s k = none) : frw N s st k (r + 1) = (k, st) := by
  rw [frw, h]
theorem frw_s {N : Nat → Nat → Option Ent} {s st k r : Nat} {b : Ent} (h : N s k = some b) : frw N s st k (r + 1) = frw N b.1 (st + b.2.1) (k + 1) r := by
  rw [frw, h]
def nwt (Y : YS) (t op : Nat) (c : Nat → Nat) (s k : Nat) : Option Ent := nst (bfin Y t op s) (c k / 100) (c k % 100)
section FETCH
variable {B F : Nat} {h : Hp} {y : Nat} {Z : SS} {r m : Nat}
theorem fetch_c {c : Nat → Nat} (ci : CI y Z h) (w : SWf Z) (si : SIZ Z B h) (hr : r < 6) (q0 : ¬ yn (sY Z) = 0) (hm : m ≤ 5) (i2 : gI h 9 r = nI m) (hc : ∀ i, i < m → gI h (3 + r) i = nI (c i) ∧ c i / 100 < yn (sY Z) ∧ c i % 100 < ycl (sY Z)) (hB : B < 1900000000) (hF : 20736 < F) : ∃ g, f_X7_fetch F (nI r) h = some (nI (frw (nwt (sY Z) (ct (sC Z)) (co (sC Z)) c) (cs (sC Z)) 0 0 m).1, sI g 0 14 (nI (frw (nwt (sY Z) (ct (sC Z)) (co (sC Z)) c) (cs (sC Z)) 0 0 m).2)) ∧ Eo sCw h g ∧ SIZ Z (B + 5) g := by
  have W := w.1
  have hn := W.2.2.1
  have hcl := ycl_le W
  have o16 := op16 W w.2.1.2.2.1
  have ok : ∀ i, i < m → okW (yn (sY Z)) (ycl (sY Z)) (gI h (3 + r) i) := fun i hi => ⟨c i, by have := (hc i hi).2; omega, (hc i hi).1, (hc i hi).2.1, (hc i hi).2.2⟩
  obtain ⟨h2, t1, t2, t3, -, -, t4⟩ := take5_ev (F := F) hr hm i2 (fun i hi => ⟨(hc i hi).1, by have := (hc i hi).2; omega⟩) (by omega)
  unfold f_X7_fetch
  simp only [nm]
  rw [rw_ok ci W hr hr q0 hm i2 ok (by omega), Ib, if_pos rfl, t1, Ib, (ci.ofCw t2.tk).now.1]
  generalize hR : frw (nwt (sY Z) (ct (sC Z)) (co (sC Z)) c) (cs (sC Z)) 0 0 m = R
  refine fix_post (fun x => ∃ g, x = some (nI R.1, sI g 0 14 (nI R.2)) ∧ Eo sCw h g ∧ SIZ Z (B + 5) g) (fun (k : Nat) (z : Int32 × Int32 × Int32 × Hp) => z.2.2.1 = nI k ∧ Eo sSe h2 z.2.2.2 ∧ SIZ Z (B + k) z.2.2.2 ∧ ∃ s st, SW (sY Z) s ∧ z.1 = nI s ∧ z.2.1 = nI st ∧ frw (nwt (sY Z) (ct (sC Z)) (co (sC Z)) c) s st k (m - k) = R) m ?_ (by omega) ?_ ?_
  · exact ⟨rfl, Eo.refl, SI.ofTk si t2, cs (sC Z), 0, w.2.1.1, rfl, rfl, hR⟩
  · rintro k ⟨z1, z2, z3, g⟩ hk ⟨rfl, eo, sig, s, st, S, rfl, rfl, hj⟩ self hself
    obtain ⟨c1, c2, c3⟩ := hc k hk
    have eC := t2.tk.trans eo.se
    have cig := ci.ofCw eC
    simp only at eo sig ⊢
    rw [eo.1 31 0 (by unfold sSe; omega), t3, if_neg (nle_k (by omega) hk), ld_32 (by omega), eo.1 32 k (by unfold sSe; omega), (t4 k hk).1, Ib, ld_33 (by omega), eo.1 33 k (by unfold sSe; omega), (t4 k hk).2, Ib]
    rw [show m - k = (m - (k + 1)) + 1 by omega] at hj
    obtain ⟨g2, n1, n2, hcase⟩ := nearest_ev (F := F) (i := c k / 100) (c := c k % 100) cig.cx sig W o16 S c2 (by omega) (by omega) hF
    rcases hcase with ⟨q1, q2⟩ | ⟨b, p, q1, q2, q3, q4⟩
    · rw [frw_n (show nwt (sY Z) (ct (sC Z)) (co (sC Z)) c s k = none from q1)] at hj
      rw [q2, Ib, if_pos rfl]
      refine ⟨g2, by rw [← hj], eC.trans n2.se, SI.mono (n1.si W) (by omega)⟩
    · rw [frw_s (show nwt (sY Z) (ct (sC Z)) (co (sC Z)) c s k = some b from q1)] at hj
      have hp := get_lt q2
      obtain ⟨bk, -, hlen⟩ := bfin_ok (t := ct (sC Z)) (op := co (sC Z)) W S
      rw [q4, Ib, i_m9 (by omega), depth_ev n1 W q3 q2, Ib, stand_ev n1 W q3 q2, Ib, nI_add, n_add1]
      exact hself _ ⟨rfl, eo.trans n2, n1.si W, b.1, st + b.2.1, (bk.1 b (List.mem_of_getElem? q2)).1, rfl, rfl, hj⟩
  · rintro ⟨z1, z2, z3, g⟩ ⟨rfl, eo, sig, s, st, S, rfl, rfl, hj⟩ self
    simp only at eo sig ⊢
    rw [Nat.sub_self] at hj
    have hj2 : (m, st) = R := hj
    rw [eo.1 31 0 (by unfold sSe; omega), t3, if_pos (rf_le (by omega)), ← hj2]
    exact ⟨g, rfl, t2.tk.trans eo.se, SI.mono sig (by omega)⟩
theorem fetch_m {c : Nat → Nat} (mi : MI Z h) (w : SWf Z) (hr : r < 6) (q0 : ¬ yn (sY Z) = 0) (hm : m ≤ 5) (i2 : gI h 68 r = nI m) (hc : ∀ i, i < m → gI h 69 (40 * r + i) = nI (c i) ∧ c i / 100 < yn (sY Z) ∧ c i % 100 < ycl (sY Z)) (hF : 20736 < F) : ∃ g, f_X8_fetch F (nI r) h = some (nI (frw (nwt (sY Z) (ct (sC Z)) (co (sC Z)) c) (cs (sC Z)) 0 0 m).1, sI g 66 2 (nI (frw (nwt (sY Z) (ct (sC Z)) (co (sC Z)) c) (cs (sC Z)) 0 0 m).2)) ∧ Eo sFM h g := by
  have W := w.1
  have hn := W.2.2.1
  have hcl := ycl_le W
  obtain ⟨h2, t1, t2, t3, t4, t5, t6⟩ := nv_ok (F := F) (b := 1) rfl mi w hr q0 hm i2 hc (by omega)
  unfold f_X8_fetch f_X8_tells
  simp only [nm, jn]
  rw [t1, Ib, if_pos (show (0 : Int32) ≤ 0 by decide)]
  generalize hR : frw (nwt (sY Z) (ct (sC Z)) (co (sC Z)) c) (cs (sC Z)) 0 0 m = R
  refine fix_post (fun x => ∃ g, x = some (nI R.1, sI g 66 2 (nI R.2)) ∧ Eo sFM h g) (fun (k : Nat) (z : Int32 × Hp) => z.1 = nI k ∧ Eo sMB h2 z.2 ∧ ∃ s st, SW (sY Z) s ∧ gI z.2 98 k = nI (cod (yn (sY Z)) s) ∧ gI z.2 99 k = nI st ∧ frw (nwt (sY Z) (ct (sC Z)) (co (sC Z)) c) s st k (m - k) = R) m ?_ (by omega) ?_ ?_
  · exact ⟨rfl, Eo.refl, cs (sC Z), 0, w.2.1.1, t5, t6, hR⟩
  · rintro k ⟨z1, g⟩ hk ⟨rfl, eo, s, st, S, g98, g99, hj⟩ self hself
    obtain ⟨c1, c2, c3⟩ := hc k hk
    have M := mi.ofFM (t2.trans eo.fm)
    simp only at eo g98 g99 ⊢
    rw [eo.1 66 48 (by unfold sMB sML; omega), t3, if_neg (nle_k (by omega) hk), ld_97 (by omega), eo.1 97 k (by unfold sMB sML; omega), t4 k hk, Ib]
    rw [show m - k = (m - (k + 1)) + 1 by omega] at hj
    obtain ⟨g2, n1, hcase⟩ := mwant_ev (F := F) (i := c k / 100) (c := c k % 100) (v := c k) M.my M.mt W S w.2.1.2.1 (show k < 5 by omega) g98 g99 rfl rfl (by omega) c2 hF
    rcases hcase with ⟨q1, q2, q3⟩ | ⟨b, q1, q2, q3, q4, q5⟩
    · rw [frw_n (show nwt (sY Z) (ct (sC Z)) (co (sC Z)) c s k = none from q1)] at hj
      rw [q2, Ib, if_pos rfl, ld_99 (by omega), q3.1 99 k (by unfold sML; omega), g99, Ib]
      exact ⟨g2, by rw [← hj]; rfl, (t2.trans eo.fm).trans n1.fm⟩
    · rw [frw_s (show nwt (sY Z) (ct (sC Z)) (co (sC Z)) c s k = some b from q1)] at hj
      obtain ⟨bk, -, -⟩ := bfin_ok (t := ct (sC Z)) (op := co (sC Z)) W S
      have sb : SW (sY Z) b.1 := by
        have : ∀ (L : List Ent) (a : Option Ent), (∀ x, a = some x → SW (sY Z) x.1) → (∀ e, e ∈ L → SW (sY Z) e.1) → ∀ x, L.foldl (nfs (c k / 100) (c k % 100)) a = some x → SW (sY Z) x.1 := by
          intro L
          induction L with
          | nil => intro a ha _ x hx; exact ha x hx
          | cons e L ih =>
            intro a ha hL x hx
            rw [List.foldl_cons] at hx
            refine ih _ (fun y hy => ?_) (fun z hz => hL z (List.mem_cons_of_mem _ hz)) x hx
            by_cases q : dg e.1 (c k / 100) = c k % 100
            · cases a with
              | none => rw [nfs_new q] at hy; cases hy; exact hL e List.mem_cons_self
              | some b' =>
                rw [nfs_old q] at hy
                split at hy
                · cases hy; exact hL e List.mem_cons_self
                · cases hy; exact ha _ rfl
            · rw [nfs_no q] at hy; exact ha y hy
        exact this _ none (fun x hx => by cases hx) (fun e he => (bk.1 e he).1) b q1
      rw [q2, Ib, i10, n_add1]
      exact hself _ ⟨rfl, eo.trans n1, b.1, st + b.2.1, sb, q3, q4, hj⟩
  · rintro ⟨z1, g⟩ ⟨rfl, eo, s, st, S, g98, g99, hj⟩ self
    simp only at eo g98 g99 ⊢
    rw [Nat.sub_self] at hj
    have hj2 : (m, st) = R := hj
    rw [eo.1 66 48 (by unfold sMB sML; omega), t3, if_pos (rf_le (by omega)), ld_99 (by omega), g99, Ib, ← hj2]
    exact ⟨g, rfl, t2.trans eo.fm⟩
theorem alk_fetch {x : Int32} (I : Inv0 (PB B) h) (hB : B < 1900000000) (hF : 20736 < F) : Alk2 (PB B) (PB (B + 5)) (f_X7_fetch F x) (f_X8_fetch F x) h := by
  obtain ⟨y, Z, w, ci, mi, si⟩ := PB_oth.mp I.2.2.2
  have W := w.1
  have hn := W.2.2.1
  have hmono : ∀ h, PB B h → PB (B + 5) h := fun _ q => q.mono (by omega)
  by_cases hx : inR x 6
  · obtain ⟨r, hr, rfl⟩ := hx
    by_cases q0 : yn (sY Z) = 0
    · refine alk_two hmono I (v := -4) ?_ ?_
      · unfold f_X7_fetch f_X7_refusedWants
        rw [rwm_st ci hr hr q0, Ib, if_neg nz4, Ib, if_neg nz4]
      · unfold f_X8_fetch f_X8_needWants
        rw [i10, isRow_yes hr, Ib, i10, mi.my.2.2.1, q0, if_pos (by decide), Ib, if_neg n4_le]
    · obtain ⟨i1, i2, i3⟩ := I.1 r hr
      rcases i2 with i2 | ⟨m, hm, i2⟩
      · refine (alk_as I (f := 1) (by decide) ?_ (fun h' hh => ?_)).to hmono
        · unfold f_X7_fetch f_X7_refusedWants
          rw [rwm_no ci W hr hr q0 i2, found_n (by decide), Ib, if_neg nz3, Ib, if_neg nz3]
        · unfold f_X8_fetch f_X8_needWants
          rw [i10, isRow_yes hr, Ib, i10, hh 66 (by decide), mi.my.2.2.1, if_neg (n_nz (by omega) (by omega)), ld_68 hr, Ib, hh 68 (by decide), ← i1, i2, if_neg m1_neg, bindself, show (1 : Int32) = nI 1 from rfl, meets_n (by decide), Ib, if_neg n3_le]
      · by_cases h5 : m ≤ 5
        · by_cases hok : ∀ i, i < m → okW (yn (sY Z)) (ycl (sY Z)) (gI h (3 + r) i)
          · obtain ⟨c, hc⟩ := wantNat hok
            obtain ⟨g, e1, e2, e3⟩ := fetch_c (F := F) ci w si hr q0 h5 i2 hc hB hF
            refine alk_toldR I mi ⟨_, _, g, e1, Sm1.ofCw e2, y, Z, w, ci.ofCw e2, e3, fun h' mi' hh => ?_⟩
            obtain ⟨g2, e4, e5⟩ := fetch_m (c := c) (F := F) mi' w hr q0 h5 (by rw [hh 68 r (by decide), ← i1]; exact i2) (fun i hi => by rw [hh 69 _ (by decide), ← i3 i (by omega)]; exact hc i hi) hF
            exact ⟨g2, e4, Sm2.ofFM e5, mi'.ofFM e5⟩
          · refine (alk_as I (f := 3) (by decide) ?_ (fun h' hh => ?_)).to hmono
            · unfold f_X7_fetch
              rw [rw_no ci W hr hr q0 h5 i2 hok (by omega), found_n (by decide), Ib, if_neg nz3]
            · have mi' : MI Z h' := mi.keep fun a k q => by rw [hh a (by unfold cM at q; omega)]
              unfold f_X8_fetch
              rw [nv_no rfl mi' W hr q0 h5 (by rw [hh 68 (by decide), ← i1]; exact i2) (fun z => hok fun i hi => by have := z i hi; rw [hh 69 (by decide), ← i3 i (by omega)] at this; exact this) (by omega), meets_n (by decide), Ib, if_neg n3_le]
        · refine (alk_as I (f := 5) (by decide) ?_ (fun h' hh => ?_)).to hmono
          · unfold f_X7_fetch
            rw [rw_sz ci W hr hr q0 hm i2 h5, found_n (by decide), Ib, if_neg nz3]
          · have mi' : MI Z h' := mi.keep fun a k q => by rw [hh a (by unfold cM at q; omega)]
            unfold f_X8_fetch
            rw [nv_sz rfl mi' W hr q0 hm (by rw [hh 68 (by decide), ← i1]; exact i2) h5, meets_n (by decide), Ib, if_neg n3_le]
  · refine alk_two hmono I (v := -1) ?_ ?_
    · unfold f_X7_fetch f_X7_refusedWants
      rw [rwm_bad (Or.inl hx), Ib, if_neg nz1, Ib, if_neg nz1]
    · unfold f_X8_fetch f_X8_needWants
      rw [i10, isRow_no hx, Ib, i00, Ib, if_neg m1_neg]
end FETCH
