/-! the course changes: tide, open, step, undo, keep, on -/
def setC (Z : SS) (C : CS) : SS := (sY Z, C, sF Z, sK Z, sq Z, sa Z, sb Z)
def chR (h : Hp) (y o w : Nat) : Hp := sI (sI (sI (sI (sR h 22 0 (some y)) 22 2 (nI o)) 22 1 (nI w)) 23 11 0) 23 6 0
theorem chR_g {h : Hp} {y o w a k : Nat} (q : ¬ (a = 22 ∨ a = 23 ∧ (k = 11 ∨ k = 6))) : gI (chR h y o w) a k = gI h a k := by
  unfold chR
  rw [gI_sI, if_neg (by omega), gI_sI, if_neg (by omega), gI_sI, if_neg (by omega), gI_sI, if_neg (by omega), gI_sR]
theorem line_ev {y : Nat} {Y : YS} {h : Hp} {c : Nat} (H : gI h y 0 = nI (yw Y)) (hw : 0 < yw Y) (hw4 : yw Y ≤ 4) (hc : c < 2147483648) : f_X6_lineOf y (nI c) h = some (nI (c / yw Y)) := by
  unfold f_X6_lineOf
  rw [H, lit_0, i_le (by omega) (by decide), if_neg (by omega), dv_n hc hw (by omega)]
  rfl
theorem wet_lt {Y : YS} {t c : Nat} (W : YW Y) (ht : t ≤ 3) (hc : c < 12) : (nI (c / yw Y) < nI (yl Y) - nI t) = (wet Y t c = false) := by
  have hl := W.2.1
  have := Nat.div_le_self c (yw Y)
  unfold wet
  generalize c / yw Y = d at *
  rw [zn, zn, zn, z_sub, z_lt (by omega) (by omega) (by omega) (by omega)]
  rw [decide_eq_false_iff_not]
  apply propext
  omega
theorem change_ev {y : Nat} {Y : YS} {h : Hp} {F t op : Nat} (H : YC y Y h) (W : YW Y) (hy : IsY y) (hr : gR h 0 11 = some y) (h2 : gI h 18 2 = nI t) (h3 : gI h 18 3 = nI op) (ht : t ≤ 3) (hF : 12 < F) : f_X7_changeRules F h = some (chR h y op (wtr Y t)) := by
  have hcl := ycl_le W
  have y22 : y ≠ 22 := by rcases hy with rfl | rfl <;> decide
  unfold f_X7_changeRules
  rw [gO_y hy hr, Ib, h2, h3]
  have e : f_X2_follow F y (nI t) (nI op) h = some (sI (sI (sR h 22 0 (some y)) 22 2 (nI op)) 22 1 (nI (wtr Y t))) := by
    unfold f_X2_follow
    simp only [nm]
    refine fix_seq (fun k => (nI k, sI (sI (sR h 22 0 (some y)) 22 2 (nI op)) 22 1 (nI (bts (wet Y t) k)))) (ycl Y) rfl (fun k hk self => ?_) (fun self => ?_) (by omega)
    · have hw : 0 < yw Y := by
        rcases Nat.eq_zero_or_pos (yw Y) with q | q
        · unfold ycl at hk; rw [q, Nat.zero_mul] at hk; omega
        · exact q
      have b12 : bts (wet Y t) k < 4096 := Nat.lt_of_lt_of_le (bts_lt _ _) (Nat.pow_le_pow_right (n := 2) (by decide) (show k ≤ 12 by omega))
      have p12 : 2 ^ k < 4096 := pow_lt (n := 12) (by omega)
      have g : ∀ v j, gI (sI (sI (sR h 22 0 (some y)) 22 2 (nI op)) 22 1 v) y j = gI h y j := fun v j => by rw [gI_ne y22, gI_ne y22, gI_sR]
      simp only [g, H.2.2.1]
      rw [if_neg (nle_k (by omega) hk), line_ev (by rw [g]; exact H.1) hw W.1 (by omega), Ib, H.2.1, n_add1]
      simp only [wet_lt W ht (show k < 12 by omega), gI_eq, sI_sI]
      by_cases q : wet Y t k = false
      · rw [if_pos q, Ib, bts_s0 q]
      · rw [if_neg q, Ib, n_shl (by omega), n_or (by omega) (by omega), bts_s1 (by simpa using q)]
    · have g : ∀ v j, gI (sI (sI (sR h 22 0 (some y)) 22 2 (nI op)) 22 1 v) y j = gI h y j := fun v j => by rw [gI_ne y22, gI_ne y22, gI_sR]
      simp only [g, H.2.2.1]
      rw [if_pos (rf_le (by omega))]
      rfl
  rw [e, Ib]
  rfl
theorem CI.setC {y : Nat} {Z : SS} {h h' : Hp} {C : CS} (I : CI y Z h) (e : ∀ a k, cCy y a k → ¬ (18 ≤ a ∧ a ≤ 20 ∨ a = 22) → gI h' a k = gI h a k) (r1 : gR h' 0 11 = gR h 0 11) (r2 : gR h' 0 12 = gR h 0 12) (R : RC y (sY Z) (ct C) (co C) h') (N : CCr 18 C h') : CI y (setC Z C) h' := by
  obtain ⟨i1, i2, i3, -, i7, i8, i9, i10, i11⟩ := I
  have hy : y = 41 ∨ y = 49 := i1
  refine ⟨i1, r1.trans i2, r2.trans i3, R, i7.keep fun b k hb => e b k ?_ ?_, N, fun k hk => ⟨?_, fun hf => ((i9 k hk).2 hf).keep fun b j hb => e b j ?_ ?_⟩, ?_, fun j hj => ⟨?_, ?_⟩⟩
  · unfold cCy; omega
  · omega
  · rw [e _ 0 (by unfold cCy; omega) (by omega)]; exact (i9 k hk).1
  · unfold cCy; omega
  · omega
  · rw [e 0 13 (by unfold cCy; omega) (by omega)]; exact i10
  · rw [e 38 j (by unfold cCy; omega) (by omega)]; exact (i11 j hj).1
  · rw [e 39 j (by unfold cCy; omega) (by omega)]; exact (i11 j hj).2
theorem MI.setC {Z : SS} {h h' : Hp} {C : CS} (I : MI Z h) (e : ∀ a k, cM a k → ¬ (a = 66 ∧ (k = 13 ∨ k = 32) ∨ a = 75 ∨ a = 77 ∨ a = 83 ∨ a = 84) → gI h' a k = gI h a k) (N : MCr (sY Z) C 66 13 66 32 75 0 77 0 83 0 84 0 h') : MI (setC Z C) h' := by
  obtain ⟨⟨m1, m2, m3, m4, m5, m6, m7⟩, -, i3, i4, i5⟩ := I
  refine ⟨⟨?_, ?_, ?_, ?_, fun a ha => ?_, fun a ha => ?_, fun a ha => ?_⟩, N, fun k hk => ⟨?_, fun hf => ((i3 k hk).2 hf).keep ?_ ?_ (fun k => ?_) (fun k => ?_) (fun k => ?_) (fun k => ?_)⟩, ?_, fun j hj => ⟨?_, ?_⟩⟩
  · rw [e 66 8 (by unfold cM; omega) (by omega)]; exact m1
  · rw [e 66 9 (by unfold cM; omega) (by omega)]; exact m2
  · rw [e 66 10 (by unfold cM; omega) (by omega)]; exact m3
  · rw [e 66 11 (by unfold cM; omega) (by omega)]; exact m4
  · rw [e 73 a (by unfold cM; omega) (by omega)]; exact m5 a ha
  · rw [e 74 a (by unfold cM; omega) (by omega)]; exact m6 a ha
  · rw [e 76 a (by unfold cM; omega) (by omega)]; exact m7 a ha
  case refine_8 => rw [e 85 k (by unfold cM; omega) (by omega)]; exact (i3 k hk).1
  case refine_15 => rw [e 66 56 (by unfold cM; omega) (by omega)]; exact i4
  case refine_16 => rw [e 102 j (by unfold cM; omega) (by omega)]; exact (i5 j hj).1
  case refine_17 => rw [e 103 j (by unfold cM; omega) (by omega)]; exact (i5 j hj).2
  all_goals exact e _ _ (by unfold cM; omega) (by omega)
section COURSE
variable {B F : Nat} {h : Hp}
theorem alk_tide {x : Int32} (I : Inv0 (PB B) h) (hF : 60 < F) : Alk2 (PB B) (PB B) (f_X7_tide F x) (f_X8_tide x) h := by
  obtain ⟨y, Z, w, ci, mi, si⟩ := PB_oth.mp I.2.2.2
  have W := w.1
  have hy : y = 41 ∨ y = 49 := ci.1
  have hcl := ycl_le W
  by_cases hx : inR x 4
  · obtain ⟨v, hv, rfl⟩ := hx
    by_cases q0 : ycl (sY Z) = 0
    · refine alk_two (fun _ q => q) I (v := -4) ?_ ?_
      · unfold f_X7_tide
        rw [le3_y hv, ci.o, Ib, ci.cl, q0, if_pos (by decide)]
      · unfold f_X8_tide
        rw [in3_y ⟨v, hv, rfl⟩, Ib, i10, mcells mi.my, Ib, q0, if_pos (by decide)]
    · have ev : f_X7_changeRules F (sI h 18 2 (nI v)) = some (chR (sI h 18 2 (nI v)) y (co (sC Z)) (wtr (sY Z) v)) := change_ev (ci.yc.keep fun b k hb => gI_ne (by omega)) W ci.1 ci.2.1 gI_eq (by rw [gI_nk (by decide)]; exact ci.now.2.2.1) (by omega) (by omega)
      refine alk_coreZ I mi ⟨nI (ct (sC Z)), chR (sI h 18 2 (nI v)) y (co (sC Z)) (wtr (sY Z) v), ?_, fun a k q => ?_, y, setC Z (cs (sC Z), v, co (sC Z), cm (sC Z), cc (sC Z), cb (sC Z)), ⟨W, ⟨w.2.1.1, by show v ≤ 3; omega, w.2.1.2.2⟩, w.2.2⟩, ci.setC (fun a k hc hn => ?_) rfl rfl ⟨rfl, ?_, ?_⟩ ⟨?_, ?_, ?_, ?_, fun j hj => ?_, fun j hj => ?_⟩, SI.forget si ?_ ?_ ?_ ?_, fun h' mi' => ⟨sI h' 66 13 (nI v), ?_, Sm2.refl.sI (ir_no (by omega) (by omega)), mi'.setC (fun a k hc hn => ?_) ⟨gI_eq, ?_, fun i hi => ?_, fun k hk => ?_, fun j hj => ?_, fun j hj i hi => ?_⟩⟩⟩
      · unfold f_X7_tide
        simp only [nm]
        rw [le3_y hv, ci.o, Ib, ci.cl, if_neg (n_nz (by omega) (by omega)), ev, Ib, ci.now.2.1]
      · rw [irr_iff] at q
        rw [chR_g (by omega), gI_sI, if_neg (by omega)]
      · unfold cCy at hc
        rw [chR_g (by omega), gI_sI, if_neg (by omega)]
      · unfold chR
        simp (disch := decide) only [gI_ne, gI_nk, gI_eq]; rfl
      · unfold chR
        simp (disch := decide) only [gI_ne, gI_nk, gI_eq]; rfl
      · rw [chR_g (by omega), gI_nk (by decide)]; exact ci.now.1
      · rw [chR_g (by omega), gI_eq]; rfl
      · rw [chR_g (by omega), gI_nk (by decide)]; exact ci.now.2.2.1
      · rw [chR_g (by omega), gI_nk (by decide)]; exact ci.now.2.2.2.1
      · rw [chR_g (by omega), gI_ne (by decide)]; exact ci.now.2.2.2.2.1 j hj
      · rw [chR_g (by omega), gI_ne (by decide)]; exact ci.now.2.2.2.2.2 j hj
      · funext k; rw [chR_g (by omega), gI_ne (by decide)]
      · rw [chR_g (by omega), gI_ne (by decide)]
      · unfold chR; rw [gI_nk (by decide), gI_eq]
      · unfold chR; rw [gI_eq]
      · unfold f_X8_tide
        simp only [nm]
        rw [in3_y ⟨v, hv, rfl⟩, Ib, i10, mcells mi'.my, Ib, if_neg (n_nz (by omega) (by omega)), mi'.now.1]
      · unfold cM at hc
        rw [gI_sI, if_neg (by omega)]
      · rw [gI_nk (by decide)]; exact mi'.now.2.1
      · rw [gI_ne (by decide)]; exact mi'.now.2.2.1 i hi
      · rw [gI_ne (by decide)]; exact mi'.now.2.2.2.1 k hk
      · rw [gI_ne (by decide)]; exact mi'.now.2.2.2.2.1 j hj
      · rw [gI_ne (by decide)]; exact mi'.now.2.2.2.2.2 j hj i hi
  · refine alk_two (fun _ q => q) I (v := -1) ?_ ?_
    · unfold f_X7_tide
      rw [le3_n hx]
    · unfold f_X8_tide
      rw [in3_n hx, Ib, i00]
theorem alk_who {x : Int32} (I : Inv0 (PB B) h) (hF : 60 < F) : Alk2 (PB B) (PB B) (wr (f_X7_who F x)) (f_X8_who F x) h := by
  obtain ⟨y, Z, w, ci, mi, si⟩ := PB_oth.mp I.2.2.2
  have W := w.1
  have hn := W.2.2.1
  have hcl := ycl_le W
  have s0 := w.2.1.1
  by_cases hx : inR x (ycl (sY Z))
  · obtain ⟨c, hc, rfl⟩ := hx
    let o : Option Nat := if ocb (cs (sC Z)) c (yn (sY Z)) = true then (List.range 4).find? (fun i => decide (i < yn (sY Z)) && decide (dg (cs (sC Z)) i = c)) else none
    have key : ∃ o : Option Nat, (∀ i, o = some i → i < yn (sY Z) ∧ dg (cs (sC Z)) i = c) ∧ (o = none ↔ ocb (cs (sC Z)) c (yn (sY Z)) = false) := by
      by_cases q : ocb (cs (sC Z)) c (yn (sY Z)) = true
      · obtain ⟨i, h1, h2⟩ := ocb_iff.mp q
        exact ⟨some i, fun j hj => by cases hj; exact ⟨h1, h2⟩, by simp [q]⟩
      · exact ⟨none, fun j hj => (by cases hj), by simp [q]⟩
    clear o
    obtain ⟨o, ho1, ho2⟩ := key
    refine alk_coreZ I mi ⟨oI o, h, ?_, Sm1.refl, y, Z, w, ci, si, fun h' mi' => ?_⟩
    · unfold wr f_X7_who
      rw [ccell_y ci W ⟨c, hc, rfl⟩, Ib, i10]
      have e : ∀ x : Option Int32, x = some (oI o) → (x.bind fun v => some (v, h)) = some (oI o, h) := fun x hx => by rw [hx]; rfl
      apply e
      refine fix_inv (fun k z => z = nI k ∧ ∀ j, j < k → dg (cs (sC Z)) j ≠ c) (yn (sY Z)) ⟨rfl, fun j hj => absurd hj (Nat.not_lt_zero j)⟩ (by omega) ?_ ?_
      · rintro k z hk ⟨rfl, hz⟩ self hself
        have d := dg_lt (cs (sC Z)) k
        simp only [ci.o, Ib, ci.n]
        rw [if_neg (nle_k (by omega) hk), ci.now.1, cell_ev (by have := s0.1; omega) (by omega), Ib, i_eq (by omega) (by omega), n_add1]
        by_cases q : dg (cs (sC Z)) k = c
        · rw [if_pos q]
          cases ho : o with
          | none =>
            have := ho2.mp ho
            have t : ocb (cs (sC Z)) c (yn (sY Z)) = true := ocb_iff.mpr ⟨k, hk, q⟩
            rw [this] at t
            cases t
          | some j =>
            obtain ⟨g1, g2⟩ := ho1 j ho
            by_cases e : k = j
            · rw [e]; rfl
            · exact absurd (q.trans g2.symm) (s0.2.2.2 k hk j g1 e)
        · rw [if_neg q]
          exact hself _ ⟨rfl, fun j hj => by
            by_cases e : j = k
            · rw [e]; exact q
            · exact hz j (by omega)⟩
      · rintro z ⟨rfl, hz⟩ self
        simp only [ci.o, Ib, ci.n]
        rw [if_pos (rf_le (by omega))]
        cases ho : o with
        | none => rfl
        | some j =>
          obtain ⟨g1, g2⟩ := ho1 j ho
          exact absurd g2 (hz j g1)
    · obtain ⟨h1, e1, l1, eo⟩ := look_ev mi' W (F := F) (by omega)
      have M1 := mi'.of82 eo
      obtain ⟨o', e2, p1, p2⟩ := who_ev M1.my W l1 (show c < 12 by omega) (F := F) (by omega)
      have oo : o' = o := by
        cases ho : o with
        | none => exact p2.mpr (ho2.mp ho)
        | some j =>
          cases ho' : o' with
          | none =>
            have := ho2.mpr (p2.mp ho')
            rw [ho] at this
            cases this
          | some i =>
            obtain ⟨g1, g2⟩ := ho1 j ho
            obtain ⟨g3, g4⟩ := p1 i ho'
            by_cases e : i = j
            · rw [e]
            · exact absurd (g4.trans g2.symm) (s0.2.2.2 i g3 j g1 e)
      refine ⟨h1, ?_, Sm2.of82 eo, M1⟩
      unfold f_X8_who
      rw [mcell_y mi'.my W ⟨c, hc, rfl⟩, Ib, i10, e1, Ib, e2, oo]; rfl
  · refine alk_two (fun _ q => q) I (v := -1) ?_ ?_
    · unfold wr f_X7_who
      rw [ccell_n ci W hx, Ib, i00]; rfl
    · unfold f_X8_who
      rw [mcell_n mi.my W hx, Ib, i00]
end COURSE
