/-! step, undo -/
def stC (C : CS) (code s' : Nat) : CS := (s', ct C, co C, cm C + 1, fun j => if j = cm C then code else cc C j, fun j => if j = cm C then cs C else cb C j)
theorem rf_18b : rf 18 6 = 20 := rfl
section STEPOP
variable {B F : Nat} {h : Hp} {y : Nat} {Z : SS}
theorem stC_W {code s' : Nat} (w : CW (sY Z) (sC Z)) (hm : cm (sC Z) < 60) (hc : code < 40) (hs : SW (sY Z) s') : CW (sY Z) (stC (sC Z) code s') := by
  obtain ⟨w1, w2, w3, w4, w5, w6⟩ := w
  refine ⟨hs, w2, w3, hm, fun j hj => ?_, fun j hj => ?_⟩
  · show (if j = cm (sC Z) then code else cc (sC Z) j) < 40
    split
    · exact hc
    · exact w5 j (by have : j < cm (sC Z) + 1 := hj; omega)
  · show SW (sY Z) (if j = cm (sC Z) then cs (sC Z) else cb (sC Z) j)
    split
    · exact w1
    · exact w6 j (by have : j < cm (sC Z) + 1 := hj; omega)
theorem go_ev {code s' : Nat} (ci : CI y Z h) (si : SIZ Z B h) (hm : cm (sC Z) < 60) : ∃ h1, f_X0_go 18 (nI code) (nI s') h = some h1 ∧ CI y (setC Z (stC (sC Z) code s')) h1 ∧ SIZ (setC Z (stC (sC Z) code s')) B h1 ∧ Sm1 h h1 := by
  have hy : y = 41 ∨ y = 49 := ci.1
  obtain ⟨n1, n2, n3, n4, n5, n6⟩ := ci.now
  refine ⟨sI (sI (sI (sI h 19 (cm (sC Z)) (nI code)) 20 (cm (sC Z)) (nI (cs (sC Z)))) 18 4 (nI (cm (sC Z) + 1))) 18 1 (nI s'), ?_, ci.setC (fun a k hc hn => ?_) rfl rfl ⟨ci.rc.1, ?_, ?_⟩ ⟨gI_eq, ?_, ?_, ?_, fun j hj => ?_, fun j hj => ?_⟩, SI.keep si (fun a h1 h2 => ?_), ?_⟩
  · unfold f_X0_go
    simp only [nm]
    rw [n4, lit_60, if_neg (nle_k (by decide) hm), rf_18, st_19 hm, Ib, gI_ne (by decide), n4, rf_18b, st_20 hm, Ib, Ib]
    simp (disch := decide) only [gI_ne, gI_eq, n1, n4, n_add1]
  · rw [gI_ne (by omega), gI_ne (by omega), gI_ne (by omega), gI_ne (by omega)]
  · rw [gI_ne (by decide), gI_ne (by decide), gI_ne (by decide), gI_ne (by decide)]; exact ci.rc.2.1
  · rw [gI_ne (by decide), gI_ne (by decide), gI_ne (by decide), gI_ne (by decide)]; exact ci.rc.2.2
  · rw [gI_nk (by decide), gI_nk (by decide), gI_ne (by decide), gI_ne (by decide)]; exact n2
  · rw [gI_nk (by decide), gI_nk (by decide), gI_ne (by decide), gI_ne (by decide)]; exact n3
  · rw [gI_nk (by decide), gI_eq]; rfl
  · show gI _ 19 j = nI (if j = cm (sC Z) then code else cc (sC Z) j)
    rw [gI_ne (by decide), gI_ne (by decide), gI_ne (by decide), gI_at]
    by_cases e : j = cm (sC Z)
    · rw [if_pos e, if_pos e]
    · rw [if_neg e, if_neg e]; exact n5 j (by have : j < cm (sC Z) + 1 := hj; omega)
  · show gI _ 20 j = nI (if j = cm (sC Z) then cs (sC Z) else cb (sC Z) j)
    rw [gI_ne (by decide), gI_ne (by decide), gI_at]
    by_cases e : j = cm (sC Z)
    · rw [if_pos e, if_pos e]
    · rw [if_neg e, if_neg e, gI_ne (by decide)]; exact n6 j (by have : j < cm (sC Z) + 1 := hj; omega)
  · rw [gf_ne (by omega), gf_ne (by omega), gf_ne (by omega), gf_ne (by omega)]
  · exact (((Sm1.refl.sI (ir_no (by omega) (by omega))).sI (ir_no (by omega) (by omega))).sI (ir_no (by omega) (by omega))).sI (ir_no (by omega) (by omega))
theorem take_ev {code s' : Nat} (M : MI Z h) (W : YW (sY Z)) (L : LK (sY Z) s' h) (hm : cm (sC Z) < 60) (hF : 60 < F) : ∃ h1, f_X8_takeLook F (nI code) h = some h1 ∧ MI (setC Z (stC (sC Z) code s')) h1 ∧ Sm2 h h1 ∧ ∀ i, i < yn (sY Z) → gI h1 75 i = nI (dg s' i) := by
  have hn := W.2.2.1
  obtain ⟨n1, n2, n3, n4, n5, n6⟩ := M.now
  have now' : ∀ i, i < yn (sY Z) → gI (sA (sI (sI (sA h 84 (va_cpy (gI h 75) (gI h 84) 0 (4 * cm (sC Z)) 4)) 83 (cm (sC Z)) (nI code)) 66 32 (nI (cm (sC Z) + 1))) 75 (va_cpy (gI h 82) (gI h 75) 0 0 (yn (sY Z)))) 75 i = nI (dg s' i) := by
    intro i hi
    rw [gAj_eq, pk_cpy_in (by omega) (by omega), Nat.sub_zero, Nat.zero_add]
    exact L i hi
  refine ⟨sA (sI (sI (sA h 84 (va_cpy (gI h 75) (gI h 84) 0 (4 * cm (sC Z)) 4)) 83 (cm (sC Z)) (nI code)) 66 32 (nI (cm (sC Z) + 1))) 75 (va_cpy (gI h 82) (gI h 75) 0 0 (yn (sY Z))), ?_, M.setC (fun a k hc hn => ?_) ⟨?_, ?_, fun i hi => ?_, fun k hk => ?_, fun j hj => ?_, fun j hj i hi => ?_⟩, ?_, now'⟩
  · unfold f_X8_takeLook
    simp only [nm]
    refine (cpy_loop (a := 75) (b := 84) (na := 4) (nb := 240) (sp := 0) (dp := 4 * cm (sC Z)) (n := 4) (h := h) (fun h0 => (stI h0 83 (gI h0 66 32) (nI code)).bind fun h4 => fix (σ := Int32 × Hp) (ρ := Hp) (fun self7 s6 => (if (gI s6.2 66 10) ≤ s6.1 then (some s6.2) else ((ldI s6.2 82 s6.1).bind fun v9 => (stI s6.2 75 s6.1 v9).bind fun h10 => self7 ((s6.1 + 1), h10)))) F ((0 : Int32), sI h4 66 32 (gI h4 66 32 + 1))) (fun _ => 4) (fun _ x => x) (fun h0 x => (4 : Int32) * gI h0 66 32 + x) (by decide) rfl rfl (by omega) (by omega) (by decide) (by decide) (fun f => rfl) (fun f k hk => by rw [Nat.zero_add]) (fun f k hk => ?_) (by omega)).trans ?_
    · rw [gAj_ne (by decide), n2, lit_4, pk_mul, nI_add]
    · rw [gAj_ne (by decide), n2, st_83 hm, Ib, gI_ne (by decide), gAj_ne (by decide), n2, n_add1]
      have k82 : gI (sI (sI (sA h 84 (va_cpy (gI h 75) (gI h 84) 0 (4 * cm (sC Z)) 4)) 83 (cm (sC Z)) (nI code)) 66 32 (nI (cm (sC Z) + 1))) 82 = gI h 82 := by simp (disch := decide) only [gf_ne, gA_ne]
      have k75 : gI (sI (sI (sA h 84 (va_cpy (gI h 75) (gI h 84) 0 (4 * cm (sC Z)) 4)) 83 (cm (sC Z)) (nI code)) 66 32 (nI (cm (sC Z) + 1))) 75 = gI h 75 := by simp (disch := decide) only [gf_ne, gA_ne]
      refine (cpy_loop (a := 82) (b := 75) (na := 4) (nb := 4) (sp := 0) (dp := 0) (n := yn (sY Z)) (fun h0 => some h0) (fun h0 => gI h0 66 10) (fun _ x => x) (fun _ x => x) (by decide) rfl rfl (by omega) (by omega) (by decide) (by decide) (fun f => ?_) (fun f k hk => by rw [Nat.zero_add]) (fun f k hk => by rw [Nat.zero_add]) (by omega)).trans ?_
      · rw [gAj_ne (by decide), gI_nk (by decide), gI_ne (by decide), gAj_ne (by decide)]
        exact M.my.2.2.1
      · rw [k82, k75]
  · unfold cM at hc
    rw [gI_sA, if_neg (by omega), gI_sI, if_neg (by omega), gI_sI, if_neg (by omega), gI_sA, if_neg (by omega)]
  · rw [gAj_ne (by decide), gI_nk (by decide), gI_ne (by decide), gAj_ne (by decide)]; exact n1
  · rw [gAj_ne (by decide), gI_eq]; rfl
  · rw [Nat.zero_add]; exact now' i hi
  · rw [gAj_ne (by decide), gI_ne (by decide), gI_ne (by decide), gAj_ne (by decide)]; exact n4 k hk
  · show gI _ 83 (0 + j) = nI (if j = cm (sC Z) then code else cc (sC Z) j)
    rw [Nat.zero_add, gAj_ne (by decide), gI_ne (by decide), gI_at]
    by_cases e : j = cm (sC Z)
    · rw [if_pos e, if_pos e]
    · rw [if_neg e, if_neg e, gAj_ne (by decide)]
      have := n5 j (by have : j < cm (sC Z) + 1 := hj; omega)
      rw [Nat.zero_add] at this
      exact this
  · show gI _ 84 (0 + 4 * j + i) = nI (dg (if j = cm (sC Z) then cs (sC Z) else cb (sC Z) j) i)
    rw [Nat.zero_add, gAj_ne (by decide), gI_ne (by decide), gI_ne (by decide), gAj_eq]
    have hi4 : i < 4 := by have : i < yn (sY Z) := hi; omega
    by_cases e : j = cm (sC Z)
    · rw [if_pos e, pk_cpy_in (by omega) (by omega), e, show 0 + (4 * cm (sC Z) + i - 4 * cm (sC Z)) = i by omega]
      exact M.p hi
    · have hj' : j < cm (sC Z) := by have : j < cm (sC Z) + 1 := hj; omega
      rw [if_neg e, pk_cpy_out (by omega)]
      have := n6 j hj' i hi
      rw [Nat.zero_add] at this
      exact this
  · exact (((Sm2.refl.sA (fun k => ir_no (by omega) (by omega))).sI (ir_no (by omega) (by omega))).sI (ir_no (by omega) (by omega))).sA (fun k => ir_no (by omega) (by omega))
theorem alk_step {i d : Int32} (I : Inv0 (PB B) h) (hF : 60 < F) : Alk2 (PB B) (PB B) (f_X7_step F i d) (f_X8_step F i d) h := by
  obtain ⟨y, Z, w, ci, mi, si⟩ := PB_oth.mp I.2.2.2
  have W := w.1
  have cw := w.2.1
  have hn := W.2.2.1
  have o16 := op16 W cw.2.2.1
  by_cases hi : inR i (yn (sY Z))
  · obtain ⟨i, hi, rfl⟩ := hi
    by_cases hd : inR d 4
    · obtain ⟨d, hd, rfl⟩ := hd
      have pre : ∀ (a b : Option (Int32 × Hp)), (if nI d < 0 then a else if nI d < 4 then b else a) = b := fun a b => by rw [i_neg (by omega), lit_4, i_lt (by omega) (by decide), if_pos hd]
      have af := after_ev (F := F) ci.yc W ci.1 ci.rc cw.1.1 hi hd o16 cw.1.2.2.1 (by omega)
      have m60 := cw.2.2.2.1
      have mod : ∀ h', MI Z h' → ∃ h3 h4, f_X8_lookAtNow F h' = some h3 ∧ f_X8_steps F (nI i) (nI d) h3 = some (bz (aft (sY Z) (ct (sC Z)) (co (sC Z)) (cs (sC Z)) i d).isSome, h4) ∧ LK (sY Z) ((aft (sY Z) (ct (sC Z)) (co (sC Z)) (cs (sC Z)) i d).getD (cs (sC Z))) h4 ∧ Eo sSt h' h4 := by
        intro h' mi'
        obtain ⟨h1, e1, l1, eo⟩ := look_ev mi' W (F := F) (by omega)
        have M1 := mi'.of82 eo
        obtain ⟨h2, e2, l2, eo2⟩ := steps_ev M1.my M1.mt W l1 cw.1.1 hi hd cw.2.1 cw.1.2.2.1 (F := F) (by omega)
        exact ⟨h1, h2, e1, e2, l2, eo.to.trans eo2⟩
      cases ha : aft (sY Z) (ct (sC Z)) (co (sC Z)) (cs (sC Z)) i d with
      | none =>
        refine alk_coreZ I mi (rs (v := -4) w ci si ?_ (fun h' mi' => ?_))
        · unfold f_X7_step
          rw [cman_y ci W ⟨i, hi, rfl⟩, Ib, i10, pre, ci.now.1, af, Ib, ha]; rfl
        · obtain ⟨h3, h4, e1, e2, l, eo⟩ := mod h' mi'
          refine ⟨h4, ?_, Sm2.ofS eo, mi'.ofS eo⟩
          unfold f_X8_step
          rw [mman_y mi' W ⟨i, hi, rfl⟩, Ib, i10, in3_y ⟨d, hd, rfl⟩, Ib, i10, e1, Ib, e2, Ib, ha]; rfl
      | some s' =>
        have ss := aft_SW W cw.1 hi hd ha
        have s20 := ss.1
        by_cases hm : cm (sC Z) = 60
        · refine alk_coreZ I mi (rs (v := -2) w ci si ?_ (fun h' mi' => ?_))
          · unfold f_X7_step
            rw [cman_y ci W ⟨i, hi, rfl⟩, Ib, i10, pre, ci.now.1, af, Ib, ha]
            show (if nI s' = -9 then _ else _) = _
            rw [i_m9 (by omega), ci.now.2.2.2.1, hm]; rfl
          · obtain ⟨h3, h4, e1, e2, l, eo⟩ := mod h' mi'
            refine ⟨h4, ?_, Sm2.ofS eo, mi'.ofS eo⟩
            unfold f_X8_step
            rw [mman_y mi' W ⟨i, hi, rfl⟩, Ib, i10, in3_y ⟨d, hd, rfl⟩, Ib, i10, e1, Ib, e2, Ib, ha]
            show (if gI h4 66 32 = 60 then _ else _) = _
            rw [(mi'.ofS eo).now.2.1, hm]; rfl
        · have hm2 : cm (sC Z) < 60 := by omega
          obtain ⟨h1, g1, g2, g3, g4⟩ := go_ev (code := 10 * i + d) (s' := s') ci si hm2
          refine alk_coreZ I mi ⟨nI (dg s' i), h1, ?_, g4, y, setC Z (stC (sC Z) (10 * i + d) s'), ⟨W, stC_W cw hm2 (by omega) ss, w.2.2⟩, g2, g3, fun h' mi' => ?_⟩
          · unfold f_X7_step
            rw [cman_y ci W ⟨i, hi, rfl⟩, Ib, i10, pre, ci.now.1, af, Ib, ha]
            show (if nI s' = -9 then _ else _) = _
            rw [i_m9 (by omega), ci.now.2.2.2.1, lit_60, i_lt (by omega) (by decide), if_pos hm2]
            unfold f_X7_stepOf
            rw [Ib, lit_10, pk_mul, nI_add]
            show ((f_X0_go 18 (nI (10 * i + d)) (nI s') h).bind _) = _
            rw [g1, Ib, g2.now.1]
            show ((f_X7_cellOf (nI s') (nI i) h1).bind _) = _
            rw [cell_ev (by omega) (by omega)]; rfl
          · obtain ⟨h3, h4, e1, e2, l, eo⟩ := mod h' mi'
            have M4 := mi'.ofS eo
            rw [ha] at l
            obtain ⟨h5, t1, t2, t3, t4⟩ := take_ev (code := 10 * i + d) (s' := s') M4 W l hm2 hF
            refine ⟨h5, ?_, ⟨fun a k q => (t3.1 a k q).trans ((Sm2.ofS eo).1 a k q), t3.2.trans (Sm2.ofS eo).2⟩, t2⟩
            unfold f_X8_step
            rw [mman_y mi' W ⟨i, hi, rfl⟩, Ib, i10, in3_y ⟨d, hd, rfl⟩, Ib, i10, e1, Ib, e2, Ib, ha]
            show (if gI h4 66 32 = 60 then _ else _) = _
            rw [M4.now.2.1, lit_60, i_eq (by omega) (by decide), if_neg hm, lit_10, pk_mul, nI_add, t1, Ib, ld_75 (by omega), t4 i hi]; rfl
    · refine alk_two (fun _ q => q) I (v := -1) ?_ ?_
      · unfold f_X7_step
        rw [cman_y ci W ⟨i, hi, rfl⟩, Ib, i10]
        by_cases q : d < 0
        · rw [if_pos q]
        · obtain ⟨j, hj, rfl⟩ := nI_of q
          rw [if_neg q, lit_4, i_lt hj (by decide), if_neg (fun z => hd ⟨j, by omega, rfl⟩)]
      · unfold f_X8_step
        rw [mman_y mi W ⟨i, hi, rfl⟩, Ib, i10, in3_n hd, Ib, i00]
  · refine alk_two (fun _ q => q) I (v := -1) ?_ ?_
    · unfold f_X7_step
      rw [cman_n ci W hi, Ib, i00]
    · unfold f_X8_step
      rw [mman_n mi W hi, Ib, i00]
end STEPOP
