/-! near, path -/
theorem sA_sA {h : Hp} {a : Nat} {f g : Nat → Int32} : sA (sA h a f) a g = sA h a g := by
  unfold sA
  refine Prod.ext ?_ rfl
  funext c j
  by_cases e : c = a
  · simp [e]
  · simp [e]
theorem n9_le : ¬ (0 : Int32) ≤ -9 := by decide
theorem n3_le : ¬ (0 : Int32) ≤ -3 := by decide
theorem n4_le : ¬ (0 : Int32) ≤ -4 := by decide
theorem nz4 : ¬ (-4 : Int32) = 0 := by decide
def sMW (a k : Nat) : Prop := sML a k ∨ a = 96
section NEED
variable {Z : SS} {h : Hp} {F r m : Nat}
theorem needW_sz (mi : MI Z h) (W : YW (sY Z)) (hr : r < 6) (q0 : ¬ yn (sY Z) = 0) (hm : m ≤ 40) (i2 : gI h 68 r = nI m) (hs : m ≠ yn (sY Z)) : f_X8_needWanted F 1 (nI r) h = f_X8_meets (nI 5) h := by
  have hn := W.2.2.1
  unfold f_X8_needWanted
  rw [i10, isRow_yes hr, Ib, i10, mi.my.2.2.1, if_neg (n_nz (by omega) (by omega)), ld_68 hr, i2, Ib, if_pos (n_ge (by omega)), Ib, i_eq (by omega) (by omega), if_neg hs, bindself]; rfl
theorem needW_T (mi : MI Z h) (W : YW (sY Z)) (hr : r < 6) {k : Nat} (hk : k < yn (sY Z)) : ((f_X8_rowAt (nI r) (nI k) h).bind fun v18 => (if v18 = (-9 : Int32) then some (1 : Int32) else ((f_X8_rowAt (nI r) (nI k) h).bind fun v19 => (f_X8_isCell v19 h).bind fun v20 => (if v20 = 0 then some (0 : Int32) else some (1 : Int32))))) = some (bz (pB (okA (ycl (sY Z)) (gI h 69 (40 * r + k))))) := by
  have hn := W.2.2.1
  rw [rowAt_n hr (by omega), Ib, Ib]
  by_cases q1 : gI h 69 (40 * r + k) = -9
  · rw [if_pos q1, pB_y (show okA (ycl (sY Z)) (gI h 69 (40 * r + k)) from Or.inl q1)]; rfl
  · rw [if_neg q1]
    by_cases q2 : inR (gI h 69 (40 * r + k)) (ycl (sY Z))
    · rw [mcell_y mi.my W q2, Ib, i10, pB_y (show okA (ycl (sY Z)) (gI h 69 (40 * r + k)) from Or.inr q2)]; rfl
    · rw [mcell_n mi.my W q2, Ib, i00, pB_n (show ¬ okA (ycl (sY Z)) (gI h 69 (40 * r + k)) from fun z => z.elim q1 q2)]; rfl
theorem needW_no (mi : MI Z h) (W : YW (sY Z)) (hr : r < 6) (q0 : ¬ yn (sY Z) = 0) (i2 : gI h 68 r = nI (yn (sY Z))) (hno : ¬ ∀ i, i < yn (sY Z) → okA (ycl (sY Z)) (gI h 69 (40 * r + i))) (hF : 4 < F) : f_X8_needWanted F 1 (nI r) h = f_X8_meets (nI 3) h := by
  have hn := W.2.2.1
  unfold f_X8_needWanted
  rw [i10, isRow_yes hr, Ib, i10, mi.my.2.2.1, if_neg (n_nz (by omega) (by omega)), ld_68 hr, i2, Ib, if_pos (n_ge (by omega)), Ib, if_pos rfl]
  refine fix_seq (fun k => (bz (alN k (fun k => pB (okA (ycl (sY Z)) (gI h 69 (40 * r + k))))), nI k)) (yn (sY Z)) rfl (fun k hk self => ?_) (fun self => ?_) (by omega)
  · simp only
    rw [if_neg (nle_k (by omega) hk), n_add1, alN_s]
    exact fl1 (fun _ => needW_T mi W hr hk)
  simp only
  rw [if_pos (rf_le (by omega))]
  have : alN (yn (sY Z)) (fun k => pB (okA (ycl (sY Z)) (gI h 69 (40 * r + k)))) = false := by
    cases e : alN (yn (sY Z)) (fun k => pB (okA (ycl (sY Z)) (gI h 69 (40 * r + k)))) with
    | false => rfl
    | true => exact absurd (fun i hi => by have := alN_get e hi; rw [pB_t] at this; exact this) hno
  rw [this]
  show (if bz false = 0 then _ else _) = _
  rw [i_bz0, if_neg (by decide), bindself]; rfl
theorem needW_ok (mi : MI Z h) (w : SWf Z) (hr : r < 6) (q0 : ¬ yn (sY Z) = 0) (i2 : gI h 68 r = nI (yn (sY Z))) (hok : ∀ i, i < yn (sY Z) → okA (ycl (sY Z)) (gI h 69 (40 * r + i))) (hF : 20736 < F) : ∃ h2, f_X8_needWanted F 1 (nI r) h = some (0, h2) ∧ ME (sY Z) (bfin (sY Z) (ct (sC Z)) (co (sC Z)) (cs (sC Z))) h2 ∧ Eo sMW h h2 ∧ ∀ i, i < yn (sY Z) → gI h2 96 i = gI h 69 (40 * r + i) := by
  have W := w.1
  have hn := W.2.2.1
  have mi1 : MI Z (sA h 96 (va_cpy (gI h 69) (gI h 96) (40 * r) 0 (yn (sY Z)))) := mi.keep fun a k q => gAj_ne (by unfold cM at q; omega)
  obtain ⟨h2, a1, a2, a3⟩ := layNow_ev mi1 w hF
  refine ⟨h2, ?_, a2, (Eo.refl.sA (fun k => Or.inr rfl)).trans (a3.mono fun a k q => Or.inl q), fun i hi => ?_⟩
  · unfold f_X8_needWanted
    rw [i10, isRow_yes hr, Ib, i10, mi.my.2.2.1, if_neg (n_nz (by omega) (by omega)), ld_68 hr, i2, Ib, if_pos (n_ge (by omega)), Ib, if_pos rfl]
    refine fix_seq (fun k => (bz (alN k (fun k => pB (okA (ycl (sY Z)) (gI h 69 (40 * r + k))))), nI k)) (yn (sY Z)) rfl (fun k hk self => ?_) (fun self => ?_) (by omega)
    · simp only
      rw [if_neg (nle_k (by omega) hk), n_add1, alN_s]
      exact fl1 (fun _ => needW_T mi W hr hk)
    simp only
    rw [if_pos (rf_le (by omega))]
    have : alN (yn (sY Z)) (fun k => pB (okA (ycl (sY Z)) (gI h 69 (40 * r + k)))) = true := by
      rw [alN_t]
      exact fun i hi => pB_y (hok i hi)
    rw [this]
    show (if bz true = 0 then _ else _) = _
    rw [i_bz0, if_pos rfl]
    refine fix_seq (fun k => (nI k, sA h 96 (va_cpy (gI h 69) (gI h 96) (40 * r) 0 k))) (yn (sY Z)) ?_ (fun k hk self => ?_) (fun self => ?_) (by omega)
    · rw [cpy_0, sA_same]; rfl
    · simp only
      rw [gAj_ne (by decide), mi.my.2.2.1, if_neg (nle_k (by omega) hk), rowAt_n hr (by omega), gAj_ne (by decide), Ib, st_96 (by omega), Ib, sI_sA, n_add1]
      have := cpy_s (f := gI h 69) (g := gI h 96) (sp := 40 * r) (dp := 0) (k := k)
      rw [Nat.zero_add] at this
      rw [this]
    · simp only
      rw [gAj_ne (by decide), mi.my.2.2.1, if_pos (rf_le (by omega)), a1]; rfl
  · rw [a3.1 96 i (by unfold sML; omega), gAj_eq, pk_cpy_in (by omega) (by omega), Nat.sub_zero]
theorem wanted_ev {v : Nat → Int32} {s : Nat} (mi : MY (sY Z) h) (W : YW (sY Z)) (hv : ∀ i, i < yn (sY Z) → gI h 96 i = v i) (lk : LK (sY Z) s h) (hF : 4 < F) : f_X8_isWanted F h = some (bz (lkf v (yn (sY Z)) s)) := by
  have hn := W.2.2.1
  unfold f_X8_isWanted lkf
  rw [mi.2.2.1]
  refine (flag_loop (c := fun i => decide (v i = -9) || decide (v i = nI (dg s i))) (fun x => ckZ x) _ (fun s2 => ((ldI h 96 s2).bind fun v6 => (if v6 = (-9 : Int32) then some (1 : Int32) else ((ldI h 96 s2).bind fun v7 => (ldI h 82 s2).bind fun v8 => (if v7 = v8 then some (1 : Int32) else some (0 : Int32)))))) rfl (by omega) (fun k hk _ => ?_) (by omega)).trans (ck_bz _)
  rw [ld_96 (by omega), hv k hk, Ib, Ib, ld_82 (by omega), lk k hk, Ib]
  by_cases q1 : v k = -9
  · rw [if_pos q1, decide_eq_true q1]; rfl
  · rw [if_neg q1, decide_eq_false q1, Bool.false_or]
    by_cases q2 : v k = nI (dg s k)
    · rw [if_pos q2, decide_eq_true q2]; rfl
    · rw [if_neg q2, decide_eq_false q2]; rfl
end NEED
section NEAR
variable {B F : Nat} {h : Hp}
theorem lkf_congr {v v' : Nat → Int32} {n s : Nat} (e : ∀ i, i < n → v i = v' i) : lkf v n s = lkf v' n s := by
  unfold lkf
  have : ∀ m, m ≤ n → alN m (fun i => decide (v i = -9) || decide (v i = nI (dg s i))) = alN m (fun i => decide (v' i = -9) || decide (v' i = nI (dg s i))) := by
    intro m
    induction m with
    | zero => intro _; rfl
    | succ m ih =>
      intro hm
      rw [alN_s, alN_s, ih (by omega), e m (by omega)]
  exact this n (Nat.le_refl _)
/-- the class's search for the first stand like a row -/
theorem firstC {y r : Nat} {Z : SS} (ci : CI y Z h) (w : SWf Z) (si : SIZ Z B h) (hr : r < 6) (i2 : gI h 9 r = nI (yn (sY Z))) (hB : B < 2000000000) (hF : 20736 < F) : ∃ g, SG (sY Z) (ct (sC Z)) (co (sC Z)) (cs (sC Z)) (B + 1) g ∧ Eo sSe h g ∧ ((∃ (p : Nat) (e : Ent), (bfin (sY Z) (ct (sC Z)) (co (sC Z)) (cs (sC Z)))[p]? = some e ∧ lkf (gI h (3 + r)) (yn (sY Z)) e.1 = true ∧ (∀ (j : Nat) (e' : Ent), j < p → (bfin (sY Z) (ct (sC Z)) (co (sC Z)) (cs (sC Z)))[j]? = some e' → lkf (gI h (3 + r)) (yn (sY Z)) e'.1 = false) ∧ LD p g ∧ f_X7_firstLike F (nI r) h = some (nI p, g)) ∨ ((∀ (j : Nat) (e' : Ent), (bfin (sY Z) (ct (sC Z)) (co (sC Z)) (cs (sC Z)))[j]? = some e' → lkf (gI h (3 + r)) (yn (sY Z)) e'.1 = false) ∧ f_X7_firstLike F (nI r) h = some (-9, g))) := by
  have W := w.1
  have o16 := op16 W w.2.1.2.2.1
  obtain ⟨h1, b1, G1, eo1⟩ := begin_ev si W w.2.1.1 hB hF
  obtain ⟨bk, -, hlen⟩ := bfin_ok (t := ct (sC Z)) (op := co (sC Z)) W w.2.1.1
  have cb : ∀ (p : Nat) (e : Ent) (g : Hp) (self : Int32 × Hp → Option (Int32 × Hp)), SG (sY Z) (ct (sC Z)) (co (sC Z)) (cs (sC Z)) (B + 1) g → Eo sSe h1 g → LD p g → (bfin (sY Z) (ct (sC Z)) (co (sC Z)) (cs (sC Z)))[p]? = some e → (fun (p : Int32) (g : Hp) (self : Int32 × Hp → Option (Int32 × Hp)) => (f_X3_stand p g).bind fun v6 => (f_X7_isLike F v6 (nI r) g).bind fun v7 => if v7 = 0 then self (p + 1, g) else some (p, g)) (nI p) g self = if (fun s => lkf (gI h (3 + r)) (yn (sY Z)) s) e.1 = true then (fun p g => some (nI p, g)) p g else self (nI p + 1, g) := by
    intro p e g self Gg eo hld he
    have se := (bk.1 e (List.mem_of_getElem? he)).1
    have cig := (ci.ofSe eo1).ofSe eo
    have eg := eo1.trans eo
    have e3 : gI g (3 + r) = gI h (3 + r) := eg.row fun k => by unfold sSe; omega
    simp only
    rw [stand_ev Gg W hld he, Ib, like_ev cig W hr (by rw [eg.1 9 r (by unfold sSe; omega)]; exact i2) se.1 (by omega), Ib, i_bz0, e3]
  rcases first_or (fun s => lkf (gI h (3 + r)) (yn (sY Z)) s) (bfin (sY Z) (ct (sC Z)) (co (sC Z)) (cs (sC Z))) with ⟨p, e, he, hp, hno⟩ | hno
  · obtain ⟨g, Gg, eog, hld, hfix⟩ := cscan_y (N := -9) (BODY := (fun (p : Int32) (g : Hp) (self : Int32 × Hp → Option (Int32 × Hp)) => (f_X3_stand p g).bind fun v6 => (f_X7_isLike F v6 (nI r) g).bind fun v7 => if v7 = 0 then self (p + 1, g) else some (p, g))) (RES := (fun p g => some (nI p, g))) (P := fun s => lkf (gI h (3 + r)) (yn (sY Z)) s) (ci.ofSe eo1).cx W o16 G1 cb he hp hno (F := F) (by omega)
    refine ⟨g, Gg, eo1.trans eog, Or.inl ⟨p, e, he, hp, hno, hld, ?_⟩⟩
    unfold f_X7_firstLike
    rw [ci.now.1, b1, Ib]
    exact hfix
  · obtain ⟨g, Gg, eog, hfix⟩ := cscan_n (N := -9) (BODY := (fun (p : Int32) (g : Hp) (self : Int32 × Hp → Option (Int32 × Hp)) => (f_X3_stand p g).bind fun v6 => (f_X7_isLike F v6 (nI r) g).bind fun v7 => if v7 = 0 then self (p + 1, g) else some (p, g))) (RES := (fun p g => some (nI p, g))) (P := fun s => lkf (gI h (3 + r)) (yn (sY Z)) s) (ci.ofSe eo1).cx W o16 G1 cb hno (F := F) (by omega)
    refine ⟨g, Gg, eo1.trans eog, Or.inr ⟨hno, ?_⟩⟩
    unfold f_X7_firstLike
    rw [ci.now.1, b1, Ib]
    exact hfix
theorem firstM_y {Z : SS} {v : Nat → Int32} {p : Nat} {e : Ent} (mi : MI Z h) (w : SWf Z) (me : ME (sY Z) (bfin (sY Z) (ct (sC Z)) (co (sC Z)) (cs (sC Z))) h) (hv : ∀ i, i < yn (sY Z) → gI h 96 i = v i) (he : (bfin (sY Z) (ct (sC Z)) (co (sC Z)) (cs (sC Z)))[p]? = some e) (hp : lkf v (yn (sY Z)) e.1 = true) (hno : ∀ (j : Nat) (e' : Ent), j < p → (bfin (sY Z) (ct (sC Z)) (co (sC Z)) (cs (sC Z)))[j]? = some e' → lkf v (yn (sY Z)) e'.1 = false) (hF : 20736 < F) : ∃ g, f_X8_firstWanted F h = some (nI (cod (yn (sY Z)) e.1), g) ∧ Eo s82 h g := by
  have W := w.1
  obtain ⟨bk, -, hlen⟩ := bfin_ok (t := ct (sC Z)) (op := co (sC Z)) W w.2.1.1
  have hpl := get_lt he
  obtain ⟨g2, eo2, hfix2⟩ := mscan_y (N := -9) (P := fun s => lkf v (yn (sY Z)) s) (BODY := fun p g self => (f_X8_isWanted F g).bind fun v6 => if v6 = 0 then self (p + 1, g) else ((ldI g 92 p).bind fun v7 => some (v7, g))) (RES := fun p g => (ldI g 92 (nI p)).bind fun v7 => some (v7, g)) mi.my W me (fun e he => (bk.1 e he).1) hlen (fun p e g self me eo lk he => by
    rw [wanted_ev (Z := Z) (v := v) (mi.of82 eo).my W (fun i hi => by rw [eo.1 96 i (by unfold s82; omega)]; exact hv i hi) lk (by omega), Ib, i_bz0]) he hp hno (F := F) (by omega)
  refine ⟨g2, ?_, eo2⟩
  unfold f_X8_firstWanted
  refine hfix2.trans ?_
  rw [ld_92 (by omega), ((me.of82 eo2).2.1 p e he).1]; rfl
theorem firstM_n {Z : SS} {v : Nat → Int32} (mi : MI Z h) (w : SWf Z) (me : ME (sY Z) (bfin (sY Z) (ct (sC Z)) (co (sC Z)) (cs (sC Z))) h) (hv : ∀ i, i < yn (sY Z) → gI h 96 i = v i) (hno : ∀ (j : Nat) (e' : Ent), (bfin (sY Z) (ct (sC Z)) (co (sC Z)) (cs (sC Z)))[j]? = some e' → lkf v (yn (sY Z)) e'.1 = false) (hF : 20736 < F) : ∃ g, f_X8_firstWanted F h = some (-9, g) ∧ Eo s82 h g := by
  have W := w.1
  obtain ⟨bk, -, hlen⟩ := bfin_ok (t := ct (sC Z)) (op := co (sC Z)) W w.2.1.1
  obtain ⟨g2, eo2, hfix2⟩ := mscan_n (N := -9) (P := fun s => lkf v (yn (sY Z)) s) (BODY := fun p g self => (f_X8_isWanted F g).bind fun v6 => if v6 = 0 then self (p + 1, g) else ((ldI g 92 p).bind fun v7 => some (v7, g))) (RES := fun p g => (ldI g 92 (nI p)).bind fun v7 => some (v7, g)) mi.my W me (fun e he => (bk.1 e he).1) hlen (fun p e g self me eo lk he => by
    rw [wanted_ev (Z := Z) (v := v) (mi.of82 eo).my W (fun i hi => by rw [eo.1 96 i (by unfold s82; omega)]; exact hv i hi) lk (by omega), Ib, i_bz0]) hno (F := F) (by omega)
  refine ⟨g2, ?_, eo2⟩
  unfold f_X8_firstWanted
  exact hfix2
theorem MI.ofMW {Z : SS} {h h' : Hp} (M : MI Z h) (e : Eo sMW h h') : MI Z h' := M.keep fun a k q => e.1 a k (fun z => by unfold cM at q; unfold sMW sML at z; omega)
theorem Sm2.ofMW {h h' : Hp} (e : Eo sMW h h') : Sm2 h h' := ⟨fun a k q => e.1 a k (fun z => by unfold sMW sML at z; rw [irr_iff] at q; omega), by show h'.2.1 = h.2.1; rw [e.2]⟩
theorem alk_near {x : Int32} (I : Inv0 (PB B) h) (hB : B < 2000000000) (hF : 20736 < F) : Alk2 (PB B) (PB (B + 1)) (f_X7_near F x) (f_X8_near F x) h := by
  obtain ⟨y, Z, w, ci, mi, si⟩ := PB_oth.mp I.2.2.2
  have W := w.1
  have hn := W.2.2.1
  have hmono : ∀ h, PB B h → PB (B + 1) h := fun _ q => q.mono (by omega)
  by_cases hx : inR x 6
  · obtain ⟨r, hr, rfl⟩ := hx
    by_cases q0 : yn (sY Z) = 0
    · refine alk_two hmono I (v := -4) ?_ ?_
      · unfold f_X7_near f_X7_refusedAim
        rw [rwm_st ci hr hr q0, Ib, if_neg nz4, Ib, if_neg nz4]
      · unfold f_X8_near f_X8_needWanted
        rw [i10, isRow_yes hr, Ib, i10, mi.my.2.2.1, q0, if_pos (by decide), Ib, if_neg n4_le]
    · obtain ⟨i1, i2, i3⟩ := I.1 r hr
      rcases i2 with i2 | ⟨m, hm, i2⟩
      · refine (alk_as I (f := 1) (by decide) ?_ (fun h' hh => ?_)).to hmono
        · unfold f_X7_near f_X7_refusedAim
          rw [rwm_no ci W hr hr q0 i2, found_n (by decide), Ib, if_neg nz3, Ib, if_neg nz3]
        · unfold f_X8_near f_X8_needWanted
          rw [i10, isRow_yes hr, Ib, i10, hh 66 (by decide), mi.my.2.2.1, if_neg (n_nz (by omega) (by omega)), ld_68 hr, Ib, hh 68 (by decide), ← i1, i2, if_neg m1_neg, bindself, lit_1, meets_n (by decide), Ib, if_neg n3_le]
      · by_cases hs : m = yn (sY Z)
        · subst hs
          by_cases hok : ∀ i, i < yn (sY Z) → okA (ycl (sY Z)) (gI h (3 + r) i)
          · obtain ⟨g, Gg, eog, hcase⟩ := firstC ci w si hr i2 hB hF
            have rows : ∀ h', (∀ a k, 66 ≤ a → gI h' a k = gI h a k) → gI h' 68 r = nI (yn (sY Z)) ∧ ∀ i, i < yn (sY Z) → gI h' 69 (40 * r + i) = gI h (3 + r) i := fun h' hh => ⟨by rw [hh 68 r (by decide), ← i1]; exact i2, fun i hi => by rw [hh 69 _ (by decide)]; exact (i3 i (by omega)).symm⟩
            rcases hcase with ⟨p, e, he, hp, hno, hld, hfl⟩ | ⟨hno, hfl⟩
            · obtain ⟨bk, -, hlen⟩ := bfin_ok (t := ct (sC Z)) (op := co (sC Z)) W w.2.1.1
              have se := (bk.1 e (List.mem_of_getElem? he)).1
              have c1 : cod (yn (sY Z)) e.1 < 20736 := Nat.lt_of_le_of_lt cod_le se.1
              have hpl := get_lt he
              refine alk_toldR I mi ⟨nI e.2.1, fsp (bfin (sY Z) (ct (sC Z)) (co (sC Z)) (cs (sC Z))) p e.2.1, g, ?_, Sm1.ofSe eog, y, Z, w, ci.ofSe eog, Gg.si W, fun h' mi' hh => ?_⟩
              · unfold f_X7_near
                rw [aim_ok ci W hr hr q0 i2 hok (by omega), Ib, if_pos rfl, hfl, Ib, i_m9 (by omega), trace_no Gg W hld he (by omega), Ib]
                simp only [nm]
                rw [depth_ev (Gg.keep fun a k q => gI_ne (by omega)) W (hld.keep (gI_ne (by decide))) he]; rfl
              · obtain ⟨r1, r2⟩ := rows h' hh
                obtain ⟨h2, a1, a2, a3, a4⟩ := needW_ok mi' w hr q0 r1 (fun i hi => by rw [r2 i hi]; exact hok i hi) hF
                obtain ⟨g2, f1, f2⟩ := firstM_y (v := gI h (3 + r)) (mi'.ofMW a3) w a2 (fun i hi => (a4 i hi).trans (r2 i hi)) he hp hno hF
                have me2 := a2.of82 f2
                have eo3 : Eo sMW h' g2 := a3.trans (f2.mono fun a k q => Or.inl (Or.inl q))
                refine ⟨g2, ?_, Sm2.ofMW eo3, mi'.ofMW eo3⟩
                unfold f_X8_near f_X8_tells
                rw [a1, Ib, if_pos (show (0 : Int32) ≤ 0 by decide), f1, Ib, i_m9 (by omega), mfirst_ev me2 bk W he (by omega), Ib, ld_93 c1, (me2.2.1 p e he).2.1]; rfl
            · refine alk_coreR I mi ⟨-9, g, ?_, Sm1.ofSe eog, y, Z, w, ci.ofSe eog, Gg.si W, fun h' mi' hh => ?_⟩
              · unfold f_X7_near
                rw [aim_ok ci W hr hr q0 i2 hok (by omega), Ib, if_pos rfl, hfl, Ib, if_pos rfl]
              · obtain ⟨r1, r2⟩ := rows h' hh
                obtain ⟨h2, a1, a2, a3, a4⟩ := needW_ok mi' w hr q0 r1 (fun i hi => by rw [r2 i hi]; exact hok i hi) hF
                obtain ⟨g2, f1, f2⟩ := firstM_n (v := gI h (3 + r)) (mi'.ofMW a3) w a2 (fun i hi => (a4 i hi).trans (r2 i hi)) hno hF
                have eo3 : Eo sMW h' g2 := a3.trans (f2.mono fun a k q => Or.inl (Or.inl q))
                refine ⟨g2, ?_, Sm2.ofMW eo3, mi'.ofMW eo3⟩
                unfold f_X8_near
                rw [a1, Ib, if_pos (show (0 : Int32) ≤ 0 by decide), f1, Ib, if_pos rfl]; rfl
          · refine (alk_as I (f := 3) (by decide) ?_ (fun h' hh => ?_)).to hmono
            · unfold f_X7_near
              rw [aim_no ci W hr hr q0 i2 hok (by omega), found_n (by decide), Ib, if_neg nz3]
            · have mi' : MI Z h' := mi.keep fun a k q => by rw [hh a (by unfold cM at q; omega)]
              unfold f_X8_near
              rw [needW_no mi' W hr q0 (by rw [hh 68 (by decide), ← i1]; exact i2) (fun z => hok fun i hi => by have := z i hi; rw [hh 69 (by decide), ← i3 i (by omega)] at this; exact this) (by omega), meets_n (by decide), Ib, if_neg n3_le]
        · refine (alk_as I (f := 5) (by decide) ?_ (fun h' hh => ?_)).to hmono
          · unfold f_X7_near
            rw [aim_sz ci W hr hr q0 hm i2 hs, found_n (by decide), Ib, if_neg nz3]
          · have mi' : MI Z h' := mi.keep fun a k q => by rw [hh a (by unfold cM at q; omega)]
            unfold f_X8_near
            rw [needW_sz mi' W hr q0 hm (by rw [hh 68 (by decide), ← i1]; exact i2) hs, meets_n (by decide), Ib, if_neg n3_le]
  · refine alk_two hmono I (v := -1) ?_ ?_
    · unfold f_X7_near f_X7_refusedAim
      rw [rwm_bad (Or.inl hx), Ib, if_neg nz1, Ib, if_neg nz1]
    · unfold f_X8_near f_X8_needWanted
      rw [i10, isRow_no hx, Ib, i00, Ib, if_neg m1_neg]
end NEAR
