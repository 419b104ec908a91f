section ON
variable {B F : Nat} {h : Hp}
theorem alk_on {x : Int32} (I : Inv0 (PB B) h) (hF : 240 < F) : Alk2 (PB B) (PB B) (f_X7_on F x) (f_X8_on F x) h := by
  obtain ⟨y, Z, w, ci, mi, si⟩ := PB_oth.mp I.2.2.2
  have W := w.1
  have hy : y = 41 ∨ y = 49 := ci.1
  have hn := W.2.2.1
  have hc4 := yc_le W
  by_cases hx : inR x 3
  · obtain ⟨k, hk, rfl⟩ := hx
    by_cases q0 : sF Z k = true
    · have kw := w.2.2.1 k hk q0
      have m60 := kw.2.2.2.1
      have kc := (ci.kp k hk).2 q0
      have N1 : CCr 18 (sK Z k) (becH 18 (57 + 3 * k) h) := bec_C m60 kc
      obtain ⟨c1, c2, c3⟩ := ci_chRs ci (h1 := becH 18 (57 + 3 * k) h) si (fun a j hn => bec_g (by omega)) rfl N1
      refine alk_coreZ I mi ⟨nI (cm (sK Z k)), _, ?_, c3, y, setC Z (sK Z k), ⟨W, kw, w.2.2⟩, c1, c2, fun h' mi' => ?_⟩
      · have ev : f_X7_changeRules F (becH 18 (57 + 3 * k) h) = some (chR (becH 18 (57 + 3 * k) h) y (co (sK Z k)) (wtr (sY Z) (ct (sK Z k)))) := change_ev (ci.yc.keep fun b j hb => bec_g (by omega)) W ci.1 ci.2.1 N1.2.1 N1.2.2.1 kw.2.1 (by omega)
        unfold f_X7_on
        rw [lt3_y hk, ldR_kept hk, Ib, (ci.kp k hk).1, q0, if_neg (by decide), Ib, bec_ev (Or.inl rfl) (isC_k hk) (by omega), Ib, ev, Ib, chR_g (by omega), N1.2.2.2.1]
      · obtain ⟨n1, n2, n3, n4, n5, n6⟩ := (mi'.kp k hk).2 q0
        have hf4 : ∀ a, a ≠ 66 → gI (sI (sI h' 66 32 (nI (cm (sK Z k)))) 66 13 (nI (ct (sK Z k)))) a = gI h' a := fun a q => by rw [gf_ne q, gf_ne q]
        have h32 : gI (sI (sI h' 66 32 (nI (cm (sK Z k)))) 66 13 (nI (ct (sK Z k)))) 66 32 = nI (cm (sK Z k)) := by rw [gI_nk (by decide), gI_eq]
        refine ⟨sA (sA (sA (sA (sI (sI h' 66 32 (nI (cm (sK Z k)))) 66 13 (nI (ct (sK Z k)))) 75 (va_cpy (gI h' 88) (gI h' 75) (4 * k) 0 4)) 77 (va_cpy (gI h' 89) (gI h' 77) (4 * k) 0 4)) 83 (va_cpy (gI h' 90) (gI h' 83) (60 * k) 0 (cm (sK Z k)))) 84 (va_cpy (gI h' 91) (gI h' 84) (240 * k) 0 (4 * cm (sK Z k))), ?_, ?_, mi'.setC (fun a j hc hn => ?_) ⟨?_, ?_, fun i hi => ?_, fun i hi => ?_, fun i hi => ?_, fun j hj i hi => ?_⟩⟩
        · unfold f_X8_on
          simp only [nm]
          rw [in2_y hk, Ib, i10, ld_85 hk, (mi'.kp k hk).1, q0, Ib, if_neg (by decide), ld_86 hk, Ib, n2, ld_87 hk, Ib, gI_ne (by decide), n1]
          refine (cpy2_loop (a := 88) (b := 75) (a2 := 89) (b2 := 77) (na := 12) (nb := 4) (na2 := 12) (nb2 := 4) (sp := 4 * k) (dp := 0) (sp2 := 4 * k) (dp2 := 0) (n := 4) (fun h5 => fix (σ := Int32 × Hp) (ρ := (Int32 × Hp)) (fun self11 s10 => (if (gI s10.2 66 32) ≤ s10.1 then (fix (σ := Int32 × Hp) (ρ := (Int32 × Hp)) (fun self14 s13 => (if ((4 : Int32) * (gI s13.2 66 32)) ≤ s13.1 then (some ((gI s13.2 66 32), s13.2)) else ((ldI s13.2 91 (((240 : Int32) * nI k) + s13.1)).bind fun v16 => (stI s13.2 84 s13.1 v16).bind fun h17 => self14 ((s13.1 + 1), h17)))) F ((0 : Int32), s10.2)) else ((ldI s10.2 90 (((60 : Int32) * nI k) + s10.1)).bind fun v19 => (stI s10.2 83 s10.1 v19).bind fun h20 => self11 ((s10.1 + 1), h20)))) F ((0 : Int32), h5)) 4 (fun x => (4 : Int32) * nI k + x) (fun x => x) (fun x => (4 : Int32) * nI k + x) (fun x => x) (by decide) (by decide) (by decide) (by decide) (by decide) rfl rfl rfl rfl (by omega) (by omega) (by decide) (by decide) (by omega) (by omega) (by decide) (by decide) rfl (fun j hj => by rw [lit_4, pk_mul, nI_add]) (fun j hj => by rw [Nat.zero_add]) (fun j hj => by rw [lit_4, pk_mul, nI_add]) (fun j hj => by rw [Nat.zero_add]) (by omega)).trans ?_
          rw [hf4 75 (by decide), hf4 88 (by decide), hf4 77 (by decide), hf4 89 (by decide)]
          refine (cpy_loop (a := 90) (b := 83) (na := 180) (nb := 60) (sp := 60 * k) (dp := 0) (n := cm (sK Z k)) (fun h8 => fix (σ := Int32 × Hp) (ρ := (Int32 × Hp)) (fun self14 s13 => (if ((4 : Int32) * (gI s13.2 66 32)) ≤ s13.1 then (some ((gI s13.2 66 32), s13.2)) else ((ldI s13.2 91 (((240 : Int32) * nI k) + s13.1)).bind fun v16 => (stI s13.2 84 s13.1 v16).bind fun h17 => self14 ((s13.1 + 1), h17)))) F ((0 : Int32), h8)) (fun h0 => gI h0 66 32) (fun _ x => (60 : Int32) * nI k + x) (fun _ x => x) (by decide) rfl rfl (by omega) (by omega) (by decide) (by decide) (fun f => ?_) (fun f j hj => by rw [lit_60, pk_mul, nI_add]) (fun f j hj => by rw [Nat.zero_add]) (by omega)).trans ?_
          · rw [gAj_ne (by decide), gAj_ne (by decide), gAj_ne (by decide)]; exact h32
          · rw [gA_ne (by decide), gA_ne (by decide), hf4 90 (by decide), gA_ne (by decide), gA_ne (by decide), hf4 83 (by decide)]
            refine (cpy_loop (a := 91) (b := 84) (na := 720) (nb := 240) (sp := 240 * k) (dp := 0) (n := 4 * cm (sK Z k)) (fun h8 => some (gI h8 66 32, h8)) (fun h0 => (4 : Int32) * gI h0 66 32) (fun _ x => (240 : Int32) * nI k + x) (fun _ x => x) (by decide) rfl rfl (by omega) (by omega) (by decide) (by decide) (fun f => ?_) (fun f j hj => by rw [lit_240, pk_mul, nI_add]) (fun f j hj => by rw [Nat.zero_add]) (by omega)).trans ?_
            · rw [gAj_ne (by decide), gAj_ne (by decide), gAj_ne (by decide), gAj_ne (by decide), h32, lit_4, pk_mul]
            · simp (disch := decide) only [gA_ne, gAj_ne]
              rw [hf4 84 (by decide), hf4 91 (by decide), h32]
        · exact (((((Sm2.refl.sI (ir_no (by omega) (by omega))).sI (ir_no (by omega) (by omega))).sA (fun k => ir_no (by omega) (by omega))).sA (fun k => ir_no (by omega) (by omega))).sA (fun k => ir_no (by omega) (by omega))).sA (fun k => ir_no (by omega) (by omega))
        · unfold cM at hc
          rw [gI_sA, if_neg (by omega), gI_sA, if_neg (by omega), gI_sA, if_neg (by omega), gI_sA, if_neg (by omega), gI_sI, if_neg (by omega), gI_sI, if_neg (by omega)]
        · simp (disch := decide) only [gAj_ne, gI_eq]
        · simp (disch := decide) only [gAj_ne, gI_nk, gI_eq]
        · have hi' : i < yn (sY Z) := hi
          simp (disch := decide) only [gAj_ne, gAj_eq]
          rw [pk_cpy_in (by omega) (by omega), show 4 * k + (0 + i - 0) = 4 * k + i by omega]
          exact n3 i hi
        · have hi' : i < yc (sY Z) := hi
          simp (disch := decide) only [gAj_ne, gAj_eq]
          rw [pk_cpy_in (by omega) (by omega), show 4 * k + (0 + i - 0) = 4 * k + i by omega]
          exact n4 i hi
        · simp (disch := decide) only [gAj_ne, gAj_eq]
          rw [pk_cpy_in (by omega) (by omega), show 60 * k + (0 + i - 0) = 60 * k + i by omega]
          exact n5 i hi
        · have hi' : i < yn (sY Z) := hi
          rw [gAj_eq, pk_cpy_in (by omega) (by omega), show 240 * k + (0 + 4 * j + i - 0) = 240 * k + 4 * j + i by omega]
          exact n6 j hj i hi
    · have qf : sF Z k = false := by simpa using q0
      refine (alk_as I (f := 1) (by decide) ?_ (fun h' hh => ?_)).two
      · unfold f_X7_on
        rw [lt3_y hk, ldR_kept hk, Ib, (ci.kp k hk).1, qf, if_pos (show bz false = 0 from rfl), bindself]; rfl
      · unfold f_X8_on
        rw [in2_y hk, Ib, i10, ld_85 hk, hh 85 (by decide), (mi.kp k hk).1, qf, Ib, if_pos (show bz false = 0 from rfl), bindself]; rfl
  · refine alk_two (fun _ q => q) I (v := -1) ?_ ?_
    · unfold f_X7_on
      rw [lt3_n hx]
    · unfold f_X8_on
      rw [in2_n hx, Ib, i00]
end ON
