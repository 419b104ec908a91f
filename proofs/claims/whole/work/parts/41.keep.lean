section KEEP2
variable {B F : Nat} {h : Hp}
theorem alk_keep {x : Int32} (I : Inv0 (PB B) h) (hF : 240 < F) : Alk2 (PB B) (PB B) (f_X7_keep x) (f_X8_keep F x) h := by
  obtain ⟨y, Z, w, ci, mi, si⟩ := PB_oth.mp I.2.2.2
  have W := w.1
  have hy : y = 41 ∨ y = 49 := ci.1
  have hn := W.2.2.1
  have m60 := w.2.1.2.2.2.1
  by_cases hx : inR x 3
  · obtain ⟨k, hk, rfl⟩ := hx
    by_cases q0 : yn (sY Z) = 0
    · refine alk_two (fun _ q => q) I (v := -4) ?_ ?_
      · unfold f_X7_keep
        rw [lt3_y hk, ci.o, Ib, ci.n, q0, if_pos (by decide)]
      · unfold f_X8_keep
        rw [in2_y hk, Ib, i10, mi.my.2.2.1, q0, if_pos (by decide)]
    · have g0 : ∀ a j, ¬ (57 + 3 * k ≤ a ∧ a ≤ 57 + 3 * k + 2) → gI (sI (becH (57 + 3 * k) 18 h) (57 + 3 * k) 0 1) a j = gI h a j := fun a j q => by rw [gI_ne (by omega), bec_g q]
      refine alk_coreZ I mi ⟨nI (cm (sC Z)), sI (becH (57 + 3 * k) 18 h) (57 + 3 * k) 0 1, ?_, fun a j q => ?_, y, setK Z k (sC Z), ⟨W, w.2.1, fun j hj hf => ?_, w.2.2.2⟩, ⟨ci.1, ci.2.1, ci.2.2.1, ⟨ci.rc.1, ?_, ?_⟩, ci.yc.keep fun b j hb => ?_, ci.now.keep fun b j hb => ?_, fun j hj => ?_, ?_, fun j hj => ⟨?_, ?_⟩⟩, SI.keep si (fun a h1 h2 => funext fun j => g0 a j (by omega)), fun h' mi' => ?_⟩
      · unfold f_X7_keep
        simp only [nm]
        rw [lt3_y hk, ci.o, Ib, ci.n, if_neg (n_nz (by omega) (by omega)), ldR_kept hk, Ib, bec_ev (isC_k hk) (Or.inl rfl) (by omega), Ib, Ib, ck1, Ib, g0 18 4 (by omega), ci.now.2.2.2.1]
      · rw [irr_iff] at q
        exact g0 a j (by omega)
      · show CW (sY Z) (if j = k then sC Z else sK Z j)
        by_cases e : j = k
        · rw [if_pos e]; exact w.2.1
        · rw [if_neg e]
          have hf' : (if j = k then true else sF Z j) = true := hf
          rw [if_neg e] at hf'
          exact w.2.2.1 j hj hf'
      · rw [g0 22 1 (by omega)]; exact ci.rc.2.1
      · rw [g0 22 2 (by omega)]; exact ci.rc.2.2
      · exact g0 b j (by omega)
      · exact g0 b j (by omega)
      · show gI (sI (becH (57 + 3 * k) 18 h) (57 + 3 * k) 0 1) (57 + 3 * j) 0 = bz (if j = k then true else sF Z j) ∧ ((if j = k then true else sF Z j) = true → CCr (57 + 3 * j) (if j = k then sC Z else sK Z j) _)
        by_cases e : j = k
        · subst e
          simp only [if_true]
          refine ⟨gI_eq, fun _ => ?_⟩
          have b1 := bec_C (a := 57 + 3 * j) m60 ci.now
          obtain ⟨c1, c2, c3, c4, c5, c6⟩ := b1
          refine ⟨?_, ?_, ?_, ?_, fun i hi => ?_, fun i hi => ?_⟩
          · rw [gI_nk (by decide)]; exact c1
          · rw [gI_nk (by decide)]; exact c2
          · rw [gI_nk (by decide)]; exact c3
          · rw [gI_nk (by decide)]; exact c4
          · rw [gI_ne (by omega)]; exact c5 i hi
          · rw [gI_ne (by omega)]; exact c6 i hi
        · simp only [if_neg e]
          refine ⟨?_, fun hf => ((ci.kp j hj).2 hf).keep fun b i hb => g0 b i (by omega)⟩
          rw [g0 _ 0 (by omega)]
          exact (ci.kp j hj).1
      · rw [g0 0 13 (by omega)]; exact ci.q
      · rw [g0 38 j (by omega)]; exact (ci.qq j hj).1
      · rw [g0 39 j (by omega)]; exact (ci.qq j hj).2
      · obtain ⟨n1, n2, n3, n4, n5, n6⟩ := mi'.now
        have hh4 : ∀ a j, ¬ (85 ≤ a ∧ a ≤ 87) → gI (sI (sI (sI h' 85 k 1) 86 k (nI (cm (sC Z)))) 87 k (nI (ct (sC Z)))) a j = gI h' a j := fun a j q => by rw [gI_ne (by omega), gI_ne (by omega), gI_ne (by omega)]
        have hf4 : ∀ a, ¬ (85 ≤ a ∧ a ≤ 87) → gI (sI (sI (sI h' 85 k 1) 86 k (nI (cm (sC Z)))) 87 k (nI (ct (sC Z)))) a = gI h' a := fun a q => funext fun j => hh4 a j q
        have hfin : ∀ a j, ¬ (85 ≤ a ∧ a ≤ 91) → gI (sA (sA (sA (sA (sI (sI (sI h' 85 k 1) 86 k (nI (cm (sC Z)))) 87 k (nI (ct (sC Z)))) 88 (va_cpy (gI h' 75) (gI h' 88) 0 (4 * k) 4)) 89 (va_cpy (gI h' 77) (gI h' 89) 0 (4 * k) 4)) 90 (va_cpy (gI h' 83) (gI h' 90) 0 (60 * k) (cm (sC Z)))) 91 (va_cpy (gI h' 84) (gI h' 91) 0 (240 * k) (4 * cm (sC Z)))) a j = gI h' a j := fun a j q => by rw [gAj_ne (by omega), gAj_ne (by omega), gAj_ne (by omega), gAj_ne (by omega), hh4 a j (by omega)]
        refine ⟨sA (sA (sA (sA (sI (sI (sI h' 85 k 1) 86 k (nI (cm (sC Z)))) 87 k (nI (ct (sC Z)))) 88 (va_cpy (gI h' 75) (gI h' 88) 0 (4 * k) 4)) 89 (va_cpy (gI h' 77) (gI h' 89) 0 (4 * k) 4)) 90 (va_cpy (gI h' 83) (gI h' 90) 0 (60 * k) (cm (sC Z)))) 91 (va_cpy (gI h' 84) (gI h' 91) 0 (240 * k) (4 * cm (sC Z))), ?_, ⟨fun a j q => ?_, rfl⟩, ?_, mi'.now.keep ?_ ?_ (fun j => ?_) (fun j => ?_) (fun j => ?_) (fun j => ?_), fun j hj => ?_, ?_, fun j hj => ⟨?_, ?_⟩⟩
        · unfold f_X8_keep
          rw [in2_y hk, Ib, i10, mi'.my.2.2.1, if_neg (n_nz (by omega) (by omega)), st_85 hk, Ib, gI_ne (by decide), n2, st_86 hk, Ib, gI_ne (by decide), gI_ne (by decide), n1, st_87 hk, Ib]
          have v1 : vp_nar .boolean (1 : Int32) = 1 := rfl
          rw [v1]
          refine (cpy2_loop (a := 75) (b := 88) (a2 := 77) (b2 := 89) (na := 4) (nb := 12) (na2 := 4) (nb2 := 12) (sp := 0) (dp := 4 * k) (sp2 := 0) (dp2 := 4 * k) (n := 4) (fun h5 => fix (σ := Int32 × Hp) (ρ := (Int32 × Hp)) (fun self9 s8 => (if (gI s8.2 66 32) ≤ s8.1 then (fix (σ := Int32 × Hp) (ρ := (Int32 × Hp)) (fun self12 s11 => (if ((4 : Int32) * (gI s11.2 66 32)) ≤ s11.1 then (some ((gI s11.2 66 32), s11.2)) else ((ldI s11.2 84 s11.1).bind fun v14 => (stI s11.2 91 (((240 : Int32) * nI k) + s11.1) v14).bind fun h15 => self12 ((s11.1 + 1), h15)))) F ((0 : Int32), s8.2)) else ((ldI s8.2 83 s8.1).bind fun v17 => (stI s8.2 90 (((60 : Int32) * nI k) + s8.1) v17).bind fun h18 => self9 ((s8.1 + 1), h18)))) F ((0 : Int32), h5)) 4 (fun x => x) (fun x => (4 : Int32) * nI k + x) (fun x => x) (fun x => (4 : Int32) * nI k + x) (by decide) (by decide) (by decide) (by decide) (by decide) rfl rfl rfl rfl (by omega) (by omega) (by decide) (by decide) (by omega) (by omega) (by decide) (by decide) rfl (fun j hj => by rw [Nat.zero_add]) (fun j hj => by rw [lit_4, pk_mul, nI_add]) (fun j hj => by rw [Nat.zero_add]) (fun j hj => by rw [lit_4, pk_mul, nI_add]) (by omega)).trans ?_
          rw [hf4 75 (by omega), hf4 88 (by omega), hf4 77 (by omega), hf4 89 (by omega)]
          refine (cpy_loop (a := 83) (b := 90) (na := 60) (nb := 180) (sp := 0) (dp := 60 * k) (n := cm (sC Z)) (fun h8 => fix (σ := Int32 × Hp) (ρ := (Int32 × Hp)) (fun self12 s11 => (if ((4 : Int32) * (gI s11.2 66 32)) ≤ s11.1 then (some ((gI s11.2 66 32), s11.2)) else ((ldI s11.2 84 s11.1).bind fun v14 => (stI s11.2 91 (((240 : Int32) * nI k) + s11.1) v14).bind fun h15 => self12 ((s11.1 + 1), h15)))) F ((0 : Int32), h8)) (fun h0 => gI h0 66 32) (fun _ x => x) (fun _ x => (60 : Int32) * nI k + x) (by decide) rfl rfl (by omega) (by omega) (by decide) (by decide) (fun f => ?_) (fun f j hj => by rw [Nat.zero_add]) (fun f j hj => by rw [lit_60, pk_mul, nI_add]) (by omega)).trans ?_
          · rw [gAj_ne (by decide), gAj_ne (by decide), gAj_ne (by decide), hh4 66 32 (by omega)]; exact n2
          · rw [gA_ne (by decide), gA_ne (by decide), hf4 83 (by omega), gA_ne (by decide), gA_ne (by decide), hf4 90 (by omega)]
            refine (cpy_loop (a := 84) (b := 91) (na := 240) (nb := 720) (sp := 0) (dp := 240 * k) (n := 4 * cm (sC Z)) (fun h8 => some (gI h8 66 32, h8)) (fun h0 => (4 : Int32) * gI h0 66 32) (fun _ x => x) (fun _ x => (240 : Int32) * nI k + x) (by decide) rfl rfl (by omega) (by omega) (by decide) (by decide) (fun f => ?_) (fun f j hj => by rw [Nat.zero_add]) (fun f j hj => by rw [lit_240, pk_mul, nI_add]) (by omega)).trans ?_
            · rw [gAj_ne (by decide), gAj_ne (by decide), gAj_ne (by decide), gAj_ne (by decide), hh4 66 32 (by omega), n2, lit_4, pk_mul]
            · simp (disch := decide) only [gA_ne, gAj_ne]
              rw [hf4 84 (by omega), hf4 91 (by omega), hh4 66 32 (by omega), n2]
        · rw [irr_iff] at q
          exact hfin a j (by omega)
        · obtain ⟨m1, m2, m3, m4, m5, m6, m7⟩ := mi'.my
          refine ⟨?_, ?_, ?_, ?_, fun a ha => ?_, fun a ha => ?_, fun a ha => ?_⟩
          · rw [hfin _ _ (by omega)]; exact m1
          · rw [hfin _ _ (by omega)]; exact m2
          · rw [hfin _ _ (by omega)]; exact m3
          · rw [hfin _ _ (by omega)]; exact m4
          · rw [hfin _ _ (by omega)]; exact m5 a ha
          · rw [hfin _ _ (by omega)]; exact m6 a ha
          · rw [hfin _ _ (by omega)]; exact m7 a ha
        case refine_10 =>
          show gI _ 85 j = bz (if j = k then true else sF Z j) ∧ ((if j = k then true else sF Z j) = true → MCr (sY Z) (if j = k then sC Z else sK Z j) 87 j 86 j 88 (4 * j) 89 (4 * j) 90 (60 * j) 91 (240 * j) _)
          have k85 : gI (sA (sA (sA (sA (sI (sI (sI h' 85 k 1) 86 k (nI (cm (sC Z)))) 87 k (nI (ct (sC Z)))) 88 (va_cpy (gI h' 75) (gI h' 88) 0 (4 * k) 4)) 89 (va_cpy (gI h' 77) (gI h' 89) 0 (4 * k) 4)) 90 (va_cpy (gI h' 83) (gI h' 90) 0 (60 * k) (cm (sC Z)))) 91 (va_cpy (gI h' 84) (gI h' 91) 0 (240 * k) (4 * cm (sC Z)))) 85 j = if j = k then 1 else gI h' 85 j := by
            simp (disch := decide) only [gAj_ne, gI_ne, gI_at]
          have k86 : gI (sA (sA (sA (sA (sI (sI (sI h' 85 k 1) 86 k (nI (cm (sC Z)))) 87 k (nI (ct (sC Z)))) 88 (va_cpy (gI h' 75) (gI h' 88) 0 (4 * k) 4)) 89 (va_cpy (gI h' 77) (gI h' 89) 0 (4 * k) 4)) 90 (va_cpy (gI h' 83) (gI h' 90) 0 (60 * k) (cm (sC Z)))) 91 (va_cpy (gI h' 84) (gI h' 91) 0 (240 * k) (4 * cm (sC Z)))) 86 j = if j = k then nI (cm (sC Z)) else gI h' 86 j := by
            simp (disch := decide) only [gAj_ne, gI_ne, gI_at]
          have k87 : gI (sA (sA (sA (sA (sI (sI (sI h' 85 k 1) 86 k (nI (cm (sC Z)))) 87 k (nI (ct (sC Z)))) 88 (va_cpy (gI h' 75) (gI h' 88) 0 (4 * k) 4)) 89 (va_cpy (gI h' 77) (gI h' 89) 0 (4 * k) 4)) 90 (va_cpy (gI h' 83) (gI h' 90) 0 (60 * k) (cm (sC Z)))) 91 (va_cpy (gI h' 84) (gI h' 91) 0 (240 * k) (4 * cm (sC Z)))) 87 j = if j = k then nI (ct (sC Z)) else gI h' 87 j := by
            simp (disch := decide) only [gAj_ne, gI_ne, gI_at]
          rw [k85]
          by_cases e : j = k
          · subst e
            simp only [if_true] at k86 k87 ⊢
            refine ⟨rfl, fun _ => ⟨k87, k86, fun i hi => ?_, fun i hi => ?_, fun i hi => ?_, fun i hi l hl => ?_⟩⟩
            · simp (disch := decide) only [gAj_ne, gAj_eq]
              rw [pk_cpy_in (by omega) (by omega), show 0 + (4 * j + i - 4 * j) = 0 + i by omega]
              exact n3 i hi
            · have hc := yc_le W
              simp (disch := decide) only [gAj_ne, gAj_eq]
              rw [pk_cpy_in (by omega) (by omega), show 0 + (4 * j + i - 4 * j) = 0 + i by omega]
              exact n4 i hi
            · simp (disch := decide) only [gAj_ne, gAj_eq]
              rw [pk_cpy_in (by omega) (by omega), show 0 + (60 * j + i - 60 * j) = 0 + i by omega]
              exact n5 i hi
            · simp (disch := decide) only [gAj_ne, gAj_eq]
              rw [pk_cpy_in (by omega) (by omega), show 0 + (240 * j + 4 * i + l - 240 * j) = 0 + 4 * i + l by omega]
              exact n6 i hi l hl
          · simp only [if_neg e] at k86 k87 ⊢
            refine ⟨(mi'.kp j hj).1, fun hf => ?_⟩
            have m60' := (w.2.2.1 j hj hf).2.2.2.1
            obtain ⟨o1, o2, o3, o4, o5, o6⟩ := (mi'.kp j hj).2 hf
            have hne : j < k ∨ k < j := by omega
            refine ⟨k87.trans o1, k86.trans o2, fun i hi => ?_, fun i hi => ?_, fun i hi => ?_, fun i hi l hl => ?_⟩
            · simp (disch := decide) only [gAj_ne, gAj_eq]
              rw [pk_cpy_out (by omega)]
              exact o3 i hi
            · have hc := yc_le W
              simp (disch := decide) only [gAj_ne, gAj_eq]
              rw [pk_cpy_out (by omega)]
              exact o4 i hi
            · simp (disch := decide) only [gAj_ne, gAj_eq]
              rw [pk_cpy_out (by omega)]
              exact o5 i hi
            · simp (disch := decide) only [gAj_ne, gAj_eq]
              rw [pk_cpy_out (by omega)]
              exact o6 i hi l hl
        case refine_11 => rw [hfin _ _ (by omega)]; exact mi'.q
        case refine_12 => rw [hfin _ _ (by omega)]; exact (mi'.qq j hj).1
        case refine_13 => rw [hfin _ _ (by omega)]; exact (mi'.qq j hj).2
        all_goals exact hfin _ _ (by omega)
  · refine alk_two (fun _ q => q) I (v := -1) ?_ ?_
    · unfold f_X7_keep
      rw [lt3_n hx]
    · unfold f_X8_keep
      rw [in2_n hx, Ib, i00]
end KEEP2
