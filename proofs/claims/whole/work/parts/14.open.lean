theorem nest1_in : ∀ w ∈ nestL, w ∈ lw_tbl := by
  intro w hw
  rw [show nestL = [711, 718, 906, 697, 631, 915, 713].filterMap (fun i => lw_tbl[i]?) by decide +kernel] at hw
  obtain ⟨i, -, hi⟩ := List.mem_filterMap.mp hw
  exact List.mem_of_getElem? hi
theorem nest2_in : ∀ w ∈ nest2, w ∈ lw_tbl := by
  intro w hw
  rw [show nest2 = [154, 176, 210, 312].filterMap (fun i => lw_tbl[i]?) by decide +kernel] at hw
  obtain ⟨i, -, hi⟩ := List.mem_filterMap.mp hw
  exact List.mem_of_getElem? hi
set_option maxRecDepth 100000 in
set_option maxHeartbeats 40000000 in
theorem whole_open {p : Program} {e : Env} {s : State} {m : MethodId} {below : List Frame} {meth : Method} {c : Code} (l : Launch) {b L : Nat} {xs : Nat → Int32} (hL : L ≤ 384) (C0 : lw_At p s m meth c b L xs) (F : Nat) (hf : f_law F xs L h00 = some ()) : W p l e room_1 s m #[Value.ref b] below meth c s.heap [] 0 0 (lw_Z below #[Value.ref b] s) (entryFrame m ([Value.ref b] : List Value).toArray 4) := by
  obtain ⟨hx, hb, hr, hml, hown, hts, hX, hbl, hlocks, hgv⟩ := id C0
  have hgt : ∀ w ∈ gt, w.before #[Value.ref b] s = true := fun w hw => hts w (List.mem_filter.mp hw).1
  have hAb : ∀ a : Nat, a < s.heap.size → ¬ (fun q : Nat => s.heap.size ≤ q) a := fun a h => Nat.not_le.mpr h
  obtain ⟨c0, i0, k0⟩ := u_known (C := RX0) (T := TX0) (N := 7) (n := 7) hgt uw_X0 (hgt _ in_X0)
  obtain ⟨c1, i1, k1⟩ := u_known (C := RX1) (T := TX1) (N := 5) (n := 5) hgt uw_X1 (hgt _ in_X1)
  obtain ⟨c2, i2, k2⟩ := u_known (C := RX2) (T := TX2) (N := 3) (n := 3) hgt uw_X2 (hgt _ in_X2)
  obtain ⟨c3, i3, k3⟩ := u_known (C := RX3) (T := TX3) (N := 12) (n := 12) hgt uw_X3 (hgt _ in_X3)
  obtain ⟨c4, i4, k4⟩ := u_known (C := RX4) (T := TX4) (N := 2) (n := 2) hgt uw_X4 (hgt _ in_X4)
  obtain ⟨c5, i5, k5⟩ := u_known (C := RX5) (T := TX5) (N := 10) (n := 10) hgt uw_X5 (hgt _ in_X5)
  obtain ⟨c6, i6, k6⟩ := u_known (C := RX6) (T := TX6) (N := 14) (n := 14) hgt uw_X6 (hgt _ in_X6)
  obtain ⟨c7, i7, k7⟩ := u_known (C := RX7) (T := TX7) (N := 16) (n := 16) hgt uw_X7 (hgt _ in_X7)
  obtain ⟨c8, i8, k8⟩ := u_known (C := RX8) (T := TX8) (N := 63) (n := 63) hgt uw_X8 (hgt _ in_X8)
  obtain ⟨D, hKc⟩ : ∃ D : va_G, ∀ (k : Nat) (q : vw_C), vwCl[k]? = some q → u_Kn s q.1 q.2.1 q.2.2 (D.1 k) (D.2 k) := by
    refine ⟨(fun k => ([c0, c1, c2, c3, c4, c5, c6, c7, c8] : List ClassId).getD k c0, fun k => ([i0, i1, i2, i3, i4, i5, i6, i7, i8] : List (Nat → Nat)).getD k i0), ?_⟩
    intro k q hq
    match k, hq with
    | 0, hq => cases hq; exact k0
    | 1, hq => cases hq; exact k1
    | 2, hq => cases hq; exact k2
    | 3, hq => cases hq; exact k3
    | 4, hq => cases hq; exact k4
    | 5, hq => cases hq; exact k5
    | 6, hq => cases hq; exact k6
    | 7, hq => cases hq; exact k7
    | 8, hq => cases hq; exact k8
    | k + 9, hq => simp [vwCl] at hq
  obtain ⟨a0, ka0, co0, f0, g0, j0⟩ := Cond.arrayClass_spec (hgt _ wa_0)
  obtain ⟨a1, ka1, co1, f1, g1, j1⟩ := Cond.arrayClass_spec (hgt _ wa_1)
  obtain ⟨a2, ka2, co2, f2, g2, j2⟩ := Cond.arrayClass_spec (hgt _ wa_2)
  have hmA : mAS s := mA_spec (hts (Cond.arrayOver (.array .int)) (List.mem_of_getElem? (i := 140) (by decide +kernel)))
  have hAO : va_AO "ChainedMen$Course" s := va_AO.of (hts (Cond.arrayOver (.object "ChainedMen$Course")) (List.mem_of_getElem? (i := 207) (by decide +kernel)))
  obtain ⟨co3, a3, ka3, m1, m2, m3, m4⟩ := id hmA
  obtain ⟨co4, a4, ka4, n1, n2, n3, n4, n5⟩ := Cond.arrayOver_spec hAO
  obtain ⟨cT, e0, e1, e2, e3, e4⟩ : ∃ cT : Nat → ClassId, cT 0 = a0 ∧ cT 1 = a1 ∧ cT 2 = a2 ∧ cT 3 = a3 ∧ cT 4 = a4 := ⟨fun t => ([a0, a1, a2, a3, a4] : List ClassId).getD t a0, rfl, rfl, rfl, rfl, rfl⟩
  subst e0; subst e1; subst e2; subst e3; subst e4
  have hK : va_K D vwCl (tysC cT) s := by
    refine ⟨hKc, fun k q hq => ?_⟩
    match k, hq with
    | 0, hq => cases hq; exact ⟨fun n z => ⟨(fun k h => by cases h), ka0, g0, co0, j0⟩, f0⟩
    | 1, hq => cases hq; exact ⟨fun n z => ⟨(fun k h => by cases h), ka1, g1, co1, j1⟩, f1⟩
    | 2, hq => cases hq; exact ⟨fun n z => ⟨(fun k h => by cases h), ka2, g2, co2, j2⟩, f2⟩
    | 3, hq => cases hq; exact ⟨fun n z => ⟨(fun k h => by cases h), ka3, m2, co3, m3⟩, m4⟩
    | 4, hq => cases hq; exact ⟨fun n z => ⟨(fun k h => by cases h), ka4, n3, co4, n4⟩, ka4, co4, n3, n4, n1, n5⟩
    | k + 5, hq => simp [tysC] at hq
  have hN2 : ∀ w ∈ nest2, va_Nw w s := by
    intro w hw
    have h1 := hts w (nest2_in w hw)
    simp only [nest2, List.mem_cons, List.not_mem_nil, or_false] at hw
    rcases hw with rfl | rfl | rfl | rfl <;> exact va_Nw.of rfl h1
  have hN1 : Nst s := by
    intro w hw
    have h1 := hts w (nest1_in w hw)
    simp only [nestL, List.mem_cons, List.not_mem_nil, or_false] at hw
    rcases hw with rfl | rfl | rfl | rfl | rfl | rfl | rfl <;> exact va_Nw.of rfl h1
  have hs := flat_of_before _ hgv
  obtain ⟨t0, v0, T0⟩ := va_Tof (A := fun q : Nat => s.heap.size ≤ q) (N := stn 0) (f := fun i => .int (stv 0 i)) (by decide) (hs (Cond.arrayOf (Term.static "ChainedMen" "WEIGHT" "[I") .int) (by decide +kernel)) (va_eqt (hs (Cond.eq (.length (Term.static "ChainedMen" "WEIGHT" "[I")) (.int 4)) (by decide +kernel))) (fun j hj => by
    match j, hj with
    | 0, _ => exact va_eqt (hs (Cond.eq (.elem (Term.static "ChainedMen" "WEIGHT" "[I") (.int 0)) (.int 1728)) (by decide +kernel))
    | 1, _ => exact va_eqt (hs (Cond.eq (.elem (Term.static "ChainedMen" "WEIGHT" "[I") (.int 1)) (.int 144)) (by decide +kernel))
    | 2, _ => exact va_eqt (hs (Cond.eq (.elem (Term.static "ChainedMen" "WEIGHT" "[I") (.int 2)) (.int 12)) (by decide +kernel))
    | 3, _ => exact va_eqt (hs (Cond.eq (.elem (Term.static "ChainedMen" "WEIGHT" "[I") (.int 3)) (.int 1)) (by decide +kernel))
    | j + 4, hj => exact absurd hj (by show ¬ j + 4 < 4; omega)) hAb
  have Z0 := va_Zref (hts (Cond.laysStatic "ChainedMen" "WEIGHT" "[I") (List.mem_of_getElem? (i := 632) (by decide +kernel))) (hgt _ it_X7) v0 hAb
  obtain ⟨t1, v1, T1⟩ := va_Tof (A := fun q : Nat => s.heap.size ≤ q) (N := stn 1) (f := fun i => .int (stv 1 i)) (by decide) (hs (Cond.arrayOf (Term.static "ChainedMen" "PARENT" "[I") .int) (by decide +kernel)) (va_eqt (hs (Cond.eq (.length (Term.static "ChainedMen" "PARENT" "[I")) (.int 6)) (by decide +kernel))) (fun j hj => by
    match j, hj with
    | 0, _ => exact va_eqt (hs (Cond.eq (.elem (Term.static "ChainedMen" "PARENT" "[I") (.int 0)) (.int 0)) (by decide +kernel))
    | 1, _ => exact va_eqt (hs (Cond.eq (.elem (Term.static "ChainedMen" "PARENT" "[I") (.int 1)) (.int 0)) (by decide +kernel))
    | 2, _ => exact va_eqt (hs (Cond.eq (.elem (Term.static "ChainedMen" "PARENT" "[I") (.int 2)) (.int 0)) (by decide +kernel))
    | 3, _ => exact va_eqt (hs (Cond.eq (.elem (Term.static "ChainedMen" "PARENT" "[I") (.int 3)) (.int 0)) (by decide +kernel))
    | 4, _ => exact va_eqt (hs (Cond.eq (.elem (Term.static "ChainedMen" "PARENT" "[I") (.int 4)) (.int 2)) (by decide +kernel))
    | 5, _ => exact va_eqt (hs (Cond.eq (.elem (Term.static "ChainedMen" "PARENT" "[I") (.int 5)) (.int 3)) (by decide +kernel))
    | j + 6, hj => exact absurd hj (by show ¬ j + 6 < 6; omega)) hAb
  have Z1 := va_Zref (hts (Cond.laysStatic "ChainedMen" "PARENT" "[I") (List.mem_of_getElem? (i := 698) (by decide +kernel))) (hgt _ it_X7) v1 hAb
  obtain ⟨t2, v2, T2⟩ := va_Tof (A := fun q : Nat => s.heap.size ≤ q) (N := stn 2) (f := fun i => .int (stv 2 i)) (by decide) (hs (Cond.arrayOf (Term.static "ChainedMen" "WAYS_OF" "[I") .int) (by decide +kernel)) (va_eqt (hs (Cond.eq (.length (Term.static "ChainedMen" "WAYS_OF" "[I")) (.int 6)) (by decide +kernel))) (fun j hj => by
    match j, hj with
    | 0, _ => exact va_eqt (hs (Cond.eq (.elem (Term.static "ChainedMen" "WAYS_OF" "[I") (.int 0)) (.int 15)) (by decide +kernel))
    | 1, _ => exact va_eqt (hs (Cond.eq (.elem (Term.static "ChainedMen" "WAYS_OF" "[I") (.int 1)) (.int 15)) (by decide +kernel))
    | 2, _ => exact va_eqt (hs (Cond.eq (.elem (Term.static "ChainedMen" "WAYS_OF" "[I") (.int 2)) (.int 0)) (by decide +kernel))
    | 3, _ => exact va_eqt (hs (Cond.eq (.elem (Term.static "ChainedMen" "WAYS_OF" "[I") (.int 3)) (.int 10)) (by decide +kernel))
    | 4, _ => exact va_eqt (hs (Cond.eq (.elem (Term.static "ChainedMen" "WAYS_OF" "[I") (.int 4)) (.int 0)) (by decide +kernel))
    | 5, _ => exact va_eqt (hs (Cond.eq (.elem (Term.static "ChainedMen" "WAYS_OF" "[I") (.int 5)) (.int 10)) (by decide +kernel))
    | j + 6, hj => exact absurd hj (by show ¬ j + 6 < 6; omega)) hAb
  have Z2 := va_Zref (hts (Cond.laysStatic "ChainedMen" "WAYS_OF" "[I") (List.mem_of_getElem? (i := 712) (by decide +kernel))) (hgt _ it_X7) v2 hAb
  rw [lg_entry_eq]
  have hl := lv_entry ([.ref b]) (n := 4) (Nat.le_of_ble_eq_true rfl)
  refine start_run D cT b (fun q1 q2 q3 q4 q5 q6 q7 q8 q9 q10 q11 q12 q13 q14 q15 q16 q17 q18 q19 q20 q21 q22 q23 q24 q25 q26 q27 q28 q29 q30 q31 q32 q33 q34 q35 q36 q37 q38 q39 q40 q41 q42 q43 q44 q45 q46 q47 q48 q49 q50 q51 q52 q53 q54 q55 q56 q57 q58 q59 q60 q61 q62 q63 q64 q65 q66 q67 q68 q69 q70 q71 q72 q73 q74 q75 q76 q77 q78 q79 q80 q81 q82 q83 q84 q85 q86 q87 q88 q89 q90 q91 q92 q93 q94 q95 q96 => ?_) l p e room_1 s m #[Value.ref b] below meth c _ ⟨rfl, rfl, rfl, rfl, rfl, rfl, rfl, rfl, rfl, rfl, rfl⟩ ⟨hx, hb, hr, hlocks, hml, hown, hgt, ⟨hK, hN2, hmA, hAO⟩, fun h => absurd h (by decide +kernel)⟩ s.heap [] _ (fun k q h => by simp at h) ⟨fun i j p q h => by simp at h, fun k q h => by simp at h⟩ va_S.rf hl
  intro l' p' e' R' s' m' args' below' meth' c' Q' hV C H locs ls hP hD hS hl
  obtain ⟨rfl, rfl, rfl, rfl, rfl, rfl, rfl, rfl, rfl, rfl, rfl⟩ := hV
  have hP2 : va_P D vwCl (wl (D, cT, (Aq q1 q2 q3 q4 q5 q6 q7 q8 q9 q10 q11 q12 q13 q14 q15 q16 q17 q18 q19 q20 q21 q22 q23 q24 q25 q26 q27 q28 q29 q30 q31 q32 q33 q34 q35 q36 q37 q38 q39 q40 q41 q42 q43 q44 q45 q46 q47 q48 q49 q50 q51 q52 q53 q54 q55 q56 q57 q58 q59 q60 q61 q62 q63 q64 q65 q66 q67 q68 q69 q70 q71 q72 q73 q74 q75 q76 q77 q78 q79 q80 q81 q82 q83 q84 q85 q86 q87 q88 q89 q90 q91 q92 q93 q94 q95 q96 t0 t1 t2 b)) h00) H := by
    rw [wl_00]
    exact (va_refs (k := 21) (f2 := fun j => some ((Aq q1 q2 q3 q4 q5 q6 q7 q8 q9 q10 q11 q12 q13 q14 q15 q16 q17 q18 q19 q20 q21 q22 q23 q24 q25 q26 q27 q28 q29 q30 q31 q32 q33 q34 q35 q36 q37 q38 q39 q40 q41 q42 q43 q44 q45 q46 q47 q48 q49 q50 q51 q52 q53 q54 q55 q56 q57 q58 q59 q60 q61 q62 q63 q64 q65 q66 q67 q68 q69 q70 q71 q72 q73 q74 q75 q76 q77 q78 q79 q80 q81 q82 q83 q84 q85 q86 q87 q88 q89 q90 q91 q92 q93 q94 q95 q96 t0 t1 t2 b) (rf 21 j))) (va_refs (k := 11) (f2 := fun j => some ((Aq q1 q2 q3 q4 q5 q6 q7 q8 q9 q10 q11 q12 q13 q14 q15 q16 q17 q18 q19 q20 q21 q22 q23 q24 q25 q26 q27 q28 q29 q30 q31 q32 q33 q34 q35 q36 q37 q38 q39 q40 q41 q42 q43 q44 q45 q46 q47 q48 q49 q50 q51 q52 q53 q54 q55 q56 q57 q58 q59 q60 q61 q62 q63 q64 q65 q66 q67 q68 q69 q70 q71 q72 q73 q74 q75 q76 q77 q78 q79 q80 q81 q82 q83 q84 q85 q86 q87 q88 q89 q90 q91 q92 q93 q94 q95 q96 t0 t1 t2 b) (rf 11 j))) (va_refs (k := 2) (f2 := fun j => some ((Aq q1 q2 q3 q4 q5 q6 q7 q8 q9 q10 q11 q12 q13 q14 q15 q16 q17 q18 q19 q20 q21 q22 q23 q24 q25 q26 q27 q28 q29 q30 q31 q32 q33 q34 q35 q36 q37 q38 q39 q40 q41 q42 q43 q44 q45 q46 q47 q48 q49 q50 q51 q52 q53 q54 q55 q56 q57 q58 q59 q60 q61 q62 q63 q64 q65 q66 q67 q68 q69 q70 q71 q72 q73 q74 q75 q76 q77 q78 q79 q80 q81 q82 q83 q84 q85 q86 q87 q88 q89 q90 q91 q92 q93 q94 q95 q96 t0 t1 t2 b) (rf 2 j))) hP rfl (fun j hj => by
      match j, hj with
      | 0, _ => rfl
      | 1, _ => rfl
      | 2, _ => rfl
      | 3, _ => rfl
      | 4, _ => rfl
      | 5, _ => rfl
      | j + 6, hj => exact absurd hj (by omega))) rfl (fun j hj => by
      match j, hj with
      | 0, _ => rfl
      | 1, _ => rfl
      | 2, _ => rfl
      | 3, _ => rfl
      | j + 4, hj => exact absurd hj (by omega))) rfl (fun j hj => by
      match j, hj with
      | 0, _ => rfl
      | 1, _ => rfl
      | 2, _ => rfl
      | j + 3, hj => exact absurd hj (by omega)))
  have hD1 : va_D (fun q : Nat => s'.heap.size ≤ q) (wl (D, cT, (Aq q1 q2 q3 q4 q5 q6 q7 q8 q9 q10 q11 q12 q13 q14 q15 q16 q17 q18 q19 q20 q21 q22 q23 q24 q25 q26 q27 q28 q29 q30 q31 q32 q33 q34 q35 q36 q37 q38 q39 q40 q41 q42 q43 q44 q45 q46 q47 q48 q49 q50 q51 q52 q53 q54 q55 q56 q57 q58 q59 q60 q61 q62 q63 q64 q65 q66 q67 q68 q69 q70 q71 q72 q73 q74 q75 q76 q77 q78 q79 q80 q81 q82 q83 q84 q85 q86 q87 q88 q89 q90 q91 q92 q93 q94 q95 q96 t0 t1 t2 b)) h00) := by
    rw [wl_00]
    exact (va_refsD (k := 21) (e2 := .inl (cT 4, 3, .inr (.inr (.inr (.inr (fun j => some ((Aq q1 q2 q3 q4 q5 q6 q7 q8 q9 q10 q11 q12 q13 q14 q15 q16 q17 q18 q19 q20 q21 q22 q23 q24 q25 q26 q27 q28 q29 q30 q31 q32 q33 q34 q35 q36 q37 q38 q39 q40 q41 q42 q43 q44 q45 q46 q47 q48 q49 q50 q51 q52 q53 q54 q55 q56 q57 q58 q59 q60 q61 q62 q63 q64 q65 q66 q67 q68 q69 q70 q71 q72 q73 q74 q75 q76 q77 q78 q79 q80 q81 q82 q83 q84 q85 q86 q87 q88 q89 q90 q91 q92 q93 q94 q95 q96 t0 t1 t2 b) (rf 21 j)))))))) (va_refsD (k := 11) (e2 := .inl (cT 3, 4, .inr (.inr (.inr (.inr (fun j => some ((Aq q1 q2 q3 q4 q5 q6 q7 q8 q9 q10 q11 q12 q13 q14 q15 q16 q17 q18 q19 q20 q21 q22 q23 q24 q25 q26 q27 q28 q29 q30 q31 q32 q33 q34 q35 q36 q37 q38 q39 q40 q41 q42 q43 q44 q45 q46 q47 q48 q49 q50 q51 q52 q53 q54 q55 q56 q57 q58 q59 q60 q61 q62 q63 q64 q65 q66 q67 q68 q69 q70 q71 q72 q73 q74 q75 q76 q77 q78 q79 q80 q81 q82 q83 q84 q85 q86 q87 q88 q89 q90 q91 q92 q93 q94 q95 q96 t0 t1 t2 b) (rf 11 j)))))))) (va_refsD (k := 2) (e2 := .inl (cT 3, 6, .inr (.inr (.inr (.inr (fun j => some ((Aq q1 q2 q3 q4 q5 q6 q7 q8 q9 q10 q11 q12 q13 q14 q15 q16 q17 q18 q19 q20 q21 q22 q23 q24 q25 q26 q27 q28 q29 q30 q31 q32 q33 q34 q35 q36 q37 q38 q39 q40 q41 q42 q43 q44 q45 q46 q47 q48 q49 q50 q51 q52 q53 q54 q55 q56 q57 q58 q59 q60 q61 q62 q63 q64 q65 q66 q67 q68 q69 q70 q71 q72 q73 q74 q75 q76 q77 q78 q79 q80 q81 q82 q83 q84 q85 q86 q87 q88 q89 q90 q91 q92 q93 q94 q95 q96 t0 t1 t2 b) (rf 2 j)))))))) hD rfl) rfl) rfl)
  have hA : ∀ q, AS (D, cT, (Aq q1 q2 q3 q4 q5 q6 q7 q8 q9 q10 q11 q12 q13 q14 q15 q16 q17 q18 q19 q20 q21 q22 q23 q24 q25 q26 q27 q28 q29 q30 q31 q32 q33 q34 q35 q36 q37 q38 q39 q40 q41 q42 q43 q44 q45 q46 q47 q48 q49 q50 q51 q52 q53 q54 q55 q56 q57 q58 q59 q60 q61 q62 q63 q64 q65 q66 q67 q68 q69 q70 q71 q72 q73 q74 q75 q76 q77 q78 q79 q80 q81 q82 q83 q84 q85 q86 q87 q88 q89 q90 q91 q92 q93 q94 q95 q96 t0 t1 t2 b)) q → s'.heap.size ≤ q := by
    intro q hq
    obtain ⟨k, hk, rfl⟩ := hq
    exact hD1.2 k _ (wl_at (D, cT, (Aq q1 q2 q3 q4 q5 q6 q7 q8 q9 q10 q11 q12 q13 q14 q15 q16 q17 q18 q19 q20 q21 q22 q23 q24 q25 q26 q27 q28 q29 q30 q31 q32 q33 q34 q35 q36 q37 q38 q39 q40 q41 q42 q43 q44 q45 q46 q47 q48 q49 q50 q51 q52 q53 q54 q55 q56 q57 q58 q59 q60 q61 q62 q63 q64 q65 q66 q67 q68 q69 q70 q71 q72 q73 q74 q75 q76 q77 q78 q79 q80 q81 q82 q83 q84 q85 q86 q87 q88 q89 q90 q91 q92 q93 q94 q95 q96 t0 t1 t2 b)) h00 hk)
  have hD2 : va_D (AS (D, cT, (Aq q1 q2 q3 q4 q5 q6 q7 q8 q9 q10 q11 q12 q13 q14 q15 q16 q17 q18 q19 q20 q21 q22 q23 q24 q25 q26 q27 q28 q29 q30 q31 q32 q33 q34 q35 q36 q37 q38 q39 q40 q41 q42 q43 q44 q45 q46 q47 q48 q49 q50 q51 q52 q53 q54 q55 q56 q57 q58 q59 q60 q61 q62 q63 q64 q65 q66 q67 q68 q69 q70 q71 q72 q73 q74 q75 q76 q77 q78 q79 q80 q81 q82 q83 q84 q85 q86 q87 q88 q89 q90 q91 q92 q93 q94 q95 q96 t0 t1 t2 b))) (wl (D, cT, (Aq q1 q2 q3 q4 q5 q6 q7 q8 q9 q10 q11 q12 q13 q14 q15 q16 q17 q18 q19 q20 q21 q22 q23 q24 q25 q26 q27 q28 q29 q30 q31 q32 q33 q34 q35 q36 q37 q38 q39 q40 q41 q42 q43 q44 q45 q46 q47 q48 q49 q50 q51 q52 q53 q54 q55 q56 q57 q58 q59 q60 q61 q62 q63 q64 q65 q66 q67 q68 q69 q70 q71 q72 q73 q74 q75 q76 q77 q78 q79 q80 q81 q82 q83 q84 q85 q86 q87 q88 q89 q90 q91 q92 q93 q94 q95 q96 t0 t1 t2 b)) h00) := by
    refine ⟨hD1.1, fun k q hq => ?_⟩
    have hk : k < NN := by rw [← wl_len (D, cT, (Aq q1 q2 q3 q4 q5 q6 q7 q8 q9 q10 q11 q12 q13 q14 q15 q16 q17 q18 q19 q20 q21 q22 q23 q24 q25 q26 q27 q28 q29 q30 q31 q32 q33 q34 q35 q36 q37 q38 q39 q40 q41 q42 q43 q44 q45 q46 q47 q48 q49 q50 q51 q52 q53 q54 q55 q56 q57 q58 q59 q60 q61 q62 q63 q64 q65 q66 q67 q68 q69 q70 q71 q72 q73 q74 q75 q76 q77 q78 q79 q80 q81 q82 q83 q84 q85 q86 q87 q88 q89 q90 q91 q92 q93 q94 q95 q96 t0 t1 t2 b)) h00]; exact (List.getElem?_eq_some_iff.mp hq).1
    rw [wl_at (D, cT, (Aq q1 q2 q3 q4 q5 q6 q7 q8 q9 q10 q11 q12 q13 q14 q15 q16 q17 q18 q19 q20 q21 q22 q23 q24 q25 q26 q27 q28 q29 q30 q31 q32 q33 q34 q35 q36 q37 q38 q39 q40 q41 q42 q43 q44 q45 q46 q47 q48 q49 q50 q51 q52 q53 q54 q55 q56 q57 q58 q59 q60 q61 q62 q63 q64 q65 q66 q67 q68 q69 q70 q71 q72 q73 q74 q75 q76 q77 q78 q79 q80 q81 q82 q83 q84 q85 q86 q87 q88 q89 q90 q91 q92 q93 q94 q95 q96 t0 t1 t2 b)) h00 hk] at hq
    cases hq
    exact ⟨k, hk, rfl⟩
  have hSt : Stat (D, cT, (Aq q1 q2 q3 q4 q5 q6 q7 q8 q9 q10 q11 q12 q13 q14 q15 q16 q17 q18 q19 q20 q21 q22 q23 q24 q25 q26 q27 q28 q29 q30 q31 q32 q33 q34 q35 q36 q37 q38 q39 q40 q41 q42 q43 q44 q45 q46 q47 q48 q49 q50 q51 q52 q53 q54 q55 q56 q57 q58 q59 q60 q61 q62 q63 q64 q65 q66 q67 q68 q69 q70 q71 q72 q73 q74 q75 q76 q77 q78 q79 q80 q81 q82 q83 q84 q85 q86 q87 q88 q89 q90 q91 q92 q93 q94 q95 q96 t0 t1 t2 b)) s' s'.heap := by
    intro j hj
    match j, hj with
    | 0, _ => exact ⟨Z0.narrow hA, T0.narrow hA⟩
    | 1, _ => exact ⟨Z1.narrow hA, T1.narrow hA⟩
    | 2, _ => exact ⟨Z2.narrow hA, T2.narrow hA⟩
  refine va_forget (fun q hq => hS.2.2 q hq) ?_
  exact S_law F b L xs h00 hf (D, cT, (Aq q1 q2 q3 q4 q5 q6 q7 q8 q9 q10 q11 q12 q13 q14 q15 q16 q17 q18 q19 q20 q21 q22 q23 q24 q25 q26 q27 q28 q29 q30 q31 q32 q33 q34 q35 q36 q37 q38 q39 q40 q41 q42 q43 q44 q45 q46 q47 q48 q49 q50 q51 q52 q53 q54 q55 q56 q57 q58 q59 q60 q61 q62 q63 q64 q65 q66 q67 q68 q69 q70 q71 q72 q73 q74 q75 q76 q77 q78 q79 q80 q81 q82 q83 q84 q85 q86 q87 q88 q89 q90 q91 q92 q93 q94 q95 q96 t0 t1 t2 b)) l' p' e' room_1 s' m' #[Value.ref b] below' meth' c' 106 273269 _ ⟨rfl, by decide, by decide, rfl, rfl, hX, hbl, hA, rfl⟩ ⟨hx, hb, hr, hlocks, hml, hown, hgt, hK, hSt, hN1⟩ H [] ls hP2 hD2 ⟨hS.1, fun q h1 _ => hS.2.1 q h1 (Nat.not_le.mpr h1), fun q hq => absurd hq List.not_mem_nil⟩ hl
