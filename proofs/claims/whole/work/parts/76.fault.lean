/-! fault -/
section FAULT
variable {B F : Nat} {h : Hp}
theorem CI.draft {y : Nat} {Z : SS} {h1 : Hp} (ci : CI y Z h) (e1 : ∀ a k, ¬ (a = 17 ∨ 90 - y ≤ a ∧ a ≤ 90 - y + 7) → gI h1 a k = gI h a k) (e2 : ∀ a k, a ≠ 17 → gR h1 a k = gR h a k) : CI y Z h1 := by
  have hy : y = 41 ∨ y = 49 := ci.1
  exact ci.keep (fun a k q => e1 a k (by unfold cCy at q; omega)) (e2 _ _ (by decide)) (e2 _ _ (by decide)) (e2 _ _ (by decide))
theorem Sm1.draft {y : Nat} {h1 : Hp} (hy : IsY y) (e1 : ∀ a k, ¬ (a = 17 ∨ 90 - y ≤ a ∧ a ≤ 90 - y + 7) → gI h1 a k = gI h a k) : Sm1 h h1 := fun a k q => e1 a k (by
  have hy : y = 41 ∨ y = 49 := hy
  rw [irr_iff] at q
  omega)
theorem Sm2.ofMd {h h' : Hp} (e : Eo sMd h h') : Sm2 h h' := ⟨fun a k q => e.1 a k (fun z => by unfold sMd at z; rw [irr_iff] at q; omega), by show h'.2.1 = h.2.1; rw [e.2]⟩
theorem MI.ofMd {Z : SS} {h h' : Hp} (I : MI Z h) (e : Eo sMd h h') : MI Z h' := I.keep fun a k q => e.1 a k (fun z => by unfold sMd at z; unfold cM at q; omega)
theorem isY_d {y : Nat} (hy : IsY y) : IsY (90 - y) := by
  rcases hy with rfl | rfl
  · exact Or.inr rfl
  · exact Or.inl rfl
theorem mx_of {P : Hp → Prop} {r m : Nat} {h' : Hp} (I : Inv0 P h) (hr : r < 4) (hm : m ≤ 40) (i2 : gI h 16 r = nI m) (hh : ∀ a k, 66 ≤ a → gI h' a k = gI h a k) : MX r m (gI h (12 + r)) h' := by
  obtain ⟨i1, -, i3⟩ := I.2.1 r hr
  refine ⟨hr, hm, ?_, fun j hj => ?_⟩
  · rw [hh _ _ (by decide), ← i1, i2]
  · rw [hh _ _ (by decide), i3 j hj]
theorem alk_fault {x : Int32} (I : Inv0 (PB B) h) (hF : 40 < F) : Alk2 (PB B) (PB B) (f_X7_fault F x) (f_X8_fault F x) h := by
  by_cases hx : inR x 4
  · obtain ⟨r, hr, rfl⟩ := hx
    obtain ⟨i1, i2, i3⟩ := I.2.1 r hr
    rcases i2 with i2 | ⟨m, hm, i2⟩
    · refine (alk_as I (f := 1) (by decide) ?_ (fun h' hh => ?_)).two
      · simp only [f_X7_fault]
        rw [rm_neg shf_txts hr i2, found_n (by decide), Ib, if_neg nz3]; rfl
      · simp only [f_X8_fault]
        rw [isText_yes hr, Ib, if_neg (by decide), ld_71 hr, Ib, hh 71 (by decide), ← i1, i2, if_neg m1_neg, bindself, bindself]; rfl
    · obtain ⟨y, Z, w, ci, mi, si⟩ := PB_oth.mp I.2.2.2
      have hy : y = 41 ∨ y = 49 := ci.1
      obtain ⟨h1, e1, g1, r1, -⟩ := read_ev (F := F) (h := h) (tx := gI h (12 + r)) (isY_d ci.1) hr i2 hm rfl hF
      refine alk_coreR I mi ⟨oI (zfault (gI h (12 + r)) m), h1, ?_, Sm1.draft ci.1 g1, y, Z, w, ci.draft g1 r1, SI.keep si (fun a a1 a2 => funext fun k => g1 a k (by omega)), fun h' mi' hh => ?_⟩
      · unfold f_X7_fault
        rw [rm_ok shf_txts hr i2 hm, Ib, if_pos rfl, gO_y (isY_d ci.1) ci.2.2.1, Ib, e1]
        rfl
      · have X := mx_of I hr hm i2 hh
        obtain ⟨h2, e2, o2, -⟩ := mfault_ev (F := F) X hF
        refine ⟨h2, ?_, Sm2.ofMd o2, mi'.ofMd o2⟩
        unfold f_X8_fault
        rw [isText_yes hr, Ib, if_neg (by decide), ld_71 hr, Ib, X.2.2.1, if_pos (n_ge (by omega)), e2]
        rfl
  · refine alk_two (fun _ q => q) I (v := -1) ?_ ?_
    · simp only [f_X7_fault]
      rw [rm_no shf_txts hx, Ib, if_neg nz1]; rfl
    · simp only [f_X8_fault]
      rw [isText_no hx, Ib, i00]
end FAULT
/-! yard -/
section YARD
variable {B F : Nat} {h : Hp}
theorem first_ev {d : Nat} {Y : YS} {q : Nat → Nat} (hd : IsY d) (H4 : gI h d 4 = nI (yn Y)) (hn : yn Y ≤ 4) (H : ∀ i, i < yn Y → gI h (d + 2) i = nI (q i)) (hF : 40 < F) : f_X6_firstStand F d h = some (nI (stdn q (yn Y))) := by
  unfold f_X6_firstStand
  refine fix_seq (fun k => (nI (stdn q k), nI k)) (yn Y) rfl (fun k hk self => ?_) (fun self => ?_) (by omega)
  · rw [H4, if_neg (nle_k (by omega) hk), y_rf8 hd, y_ld2 hd (by omega), Ib, H k hk, wg_t (by omega), Ib, n_add1, pk_mul, nI_add]
    rfl
  · rw [H4, if_pos (rf_le (by omega))]
def zZ (Y : YS) (s : Nat) : SS := (Y, (s, 0, 0, 0, fun _ => 0, fun _ => 0), fun _ => false, fun _ => (0, 0, 0, 0, fun _ => 0, fun _ => 0), 0, fun _ => 0, fun _ => 0)
theorem zZ_W {Y : YS} {s : Nat} (W : YW Y) (S : SW Y s) : SWf (zZ Y s) := ⟨W, ⟨S, Nat.zero_le _, Nat.pow_pos (by decide), Nat.zero_le _, fun j hj => absurd hj (Nat.not_lt_zero j), fun j hj => absurd hj (Nat.not_lt_zero j)⟩, fun k _ q => (by cases q), Nat.zero_le _, fun j hj => absurd hj (Nat.not_lt_zero j)⟩
/-- the class's half behind a good reading -/
theorem cyard_ev {y : Nat} {Z : SS} {Y : YS} {q : Nat → Nat} (hy0 : IsY y) (r11 : gR h 0 11 = some y) (r12 : gR h 0 12 = some (90 - y)) (W : YW Y) (C : YC (90 - y) Y h) (H : ∀ i, i < yn Y → gI h (90 - y + 2) i = nI (q i)) (si : SIZ Z B h) (hF : 40 < F) : ∃ h', ((gO h 0 11 (0, 6, 14)).bind fun y4 =>
      (gO h 0 12 (0, 6, 14)).bind fun y5 =>
      (gO (sR (sR h 0 11 (some y5)) 0 12 (some y4)) 0 11 (0, 6, 14)).bind fun y8 =>
      (f_X6_firstStand F y8 (sR (sR h 0 11 (some y5)) 0 12 (some y4))).bind fun v9 =>
      (f_X0_restart 18 v9 (sR (sR h 0 11 (some y5)) 0 12 (some y4))).bind fun h10 =>
      fix (σ := Int32 × Hp) (ρ := (Int32 × Hp)) (fun self12 s11 =>
        (if (3 : Int32) ≤ s11.1 then (
          (f_X7_changeRules F (sI s11.2 0 13 (0 : Int32))).bind fun h15 =>
          (gO h15 0 11 (0, 6, 14)).bind fun y16 =>
          some ((gI h15 y16 4), h15))
        else (
          (ldR 21 s11.1).bind fun b17 =>
          (ckZ (0 : Int32)).bind fun z19 =>
          self12 ((s11.1 + 1), sI s11.2 b17 0 z19)))) F ((0 : Int32), h10)) = some (nI (yn Y), h') ∧ Sm1 h h' ∧ CI (90 - y) (zZ Y (stdn q (yn Y))) h' ∧ SIZ (zZ Y (stdn q (yn Y))) B h' := by
  have hy : y = 41 ∨ y = 49 := hy0
  have hd := isY_d hy0
  have hn := W.2.2.1
  generalize hdd : 90 - y = d at *
  have hd' : d = 41 ∨ d = 49 := hd
  rw [gO_y hy0 r11, Ib, gO_y hd r12, Ib]
  generalize hh7 : sR (sR h 0 11 (some d)) 0 12 (some y) = h7
  have g7 : ∀ a k, gI h7 a k = gI h a k := fun a k => by rw [← hh7]; rfl
  have q11 : gR h7 0 11 = some d := by
    rw [← hh7, gR_sR, if_neg (by decide), gR_sR, if_pos ⟨rfl, rfl⟩]
  have q12 : gR h7 0 12 = some y := by
    rw [← hh7, gR_sR, if_pos ⟨rfl, rfl⟩]
  rw [gO_y hd q11, Ib, first_ev (Y := Y) (q := q) hd (by rw [g7]; exact C.2.2.2.2.1) hn (fun i hi => by rw [g7]; exact H i hi) hF, Ib]
  generalize hst : stdn q (yn Y) = st
  have er : f_X0_restart 18 (nI st) h7 = some (sI (sI (sI (sI h7 18 1 (nI st)) 18 2 0) 18 3 0) 18 4 0) := rfl
  rw [er, Ib]
  generalize hh10 : sI (sI (sI (sI h7 18 1 (nI st)) 18 2 0) 18 3 0) 18 4 0 = h10
  have o10 : Eo (fun a _k => a = 18) h7 h10 := by
    have e0 : Eo (fun a _k => a = 18) h7 h7 := Eo.refl
    rw [← hh10]
    exact (((e0.sI rfl).sI rfl).sI rfl).sI rfl
  generalize hh14 : sI (sI (sI (sI h10 57 0 0) 60 0 0) 63 0 0) 0 13 0 = h14
  have o14 : Eo (fun a k => a = 0 ∧ k = 13 ∨ k = 0 ∧ (a = 57 ∨ a = 60 ∨ a = 63)) h10 h14 := by
    have e0 : Eo (fun a k => a = 0 ∧ k = 13 ∨ k = 0 ∧ (a = 57 ∨ a = 60 ∨ a = 63)) h10 h10 := Eo.refl
    rw [← hh14]
    exact (((e0.sI (by omega)).sI (by omega)).sI (by omega)).sI (by omega)
  have gR14 : gR h14 = gR h7 := by unfold gR; rw [o14.2, o10.2]
  have g14 : ∀ a k, ¬ (a = 18 ∨ a = 0 ∧ k = 13 ∨ k = 0 ∧ (a = 57 ∨ a = 60 ∨ a = 63)) → gI h14 a k = gI h a k := fun a k n => by rw [o14.1 a k (by omega), o10.1 a k (by omega), g7]
  have g18 : ∀ k, gI h14 18 k = gI h10 18 k := fun k => o14.1 18 k (by omega)
  have k1 : gI h14 18 1 = nI st := by rw [g18, ← hh10, gI_nk (by decide), gI_nk (by decide), gI_nk (by decide), gI_eq]
  have k2 : gI h14 18 2 = nI 0 := by rw [g18, ← hh10, gI_nk (by decide), gI_nk (by decide), gI_eq]; rfl
  have k3 : gI h14 18 3 = nI 0 := by rw [g18, ← hh10, gI_nk (by decide), gI_eq]; rfl
  have k4 : gI h14 18 4 = nI 0 := by rw [g18, ← hh10, gI_eq]; rfl
  have C14 : YC d Y h14 := C.keep fun b k hb => g14 b k (by omega)
  have r14 : gR h14 0 11 = some d := by rw [gR14]; exact q11
  have ev := change_ev (F := F) (t := 0) (op := 0) C14 W hd r14 k2 k3 (by decide) (by omega)
  have key : ∀ {self : Int32 × Hp → Option (Int32 × Hp)}, True := fun {_} => trivial
  refine ⟨chR h14 d 0 (wtr Y 0), ?_, fun a k qq => ?_, ⟨hd, ?_, ?_, ⟨?_, ?_, ?_⟩, C14.keep fun b k hb => chR_g (by omega), ⟨?_, ?_, ?_, ?_, fun j hj => absurd hj (Nat.not_lt_zero j), fun j hj => absurd hj (Nat.not_lt_zero j)⟩, fun k hk => ⟨?_, fun f => by cases f⟩, ?_, fun j hj => absurd hj (Nat.not_lt_zero j)⟩, SI.forget si ?_ ?_ ?_ ?_⟩
  · refine fix_seq (fun k => (nI k, if k = 0 then h10 else if k = 1 then sI h10 57 0 0 else if k = 2 then sI (sI h10 57 0 0) 60 0 0 else sI (sI (sI h10 57 0 0) 60 0 0) 63 0 0)) 3 rfl (fun k hk self => ?_) (fun self => ?_) (by omega)
    · rcases (show k = 0 ∨ k = 1 ∨ k = 2 by omega) with rfl | rfl | rfl
      · show (if (3 : Int32) ≤ nI 0 then _ else _) = _
        rw [if_neg (by decide)]
        show ((ldR 21 (nI 0)).bind _) = _
        rw [ldR_kept (by decide)]; rfl
      · show (if (3 : Int32) ≤ nI 1 then _ else _) = _
        rw [if_neg (by decide)]
        show ((ldR 21 (nI 1)).bind _) = _
        rw [ldR_kept (by decide)]; rfl
      · show (if (3 : Int32) ≤ nI 2 then _ else _) = _
        rw [if_neg (by decide)]
        show ((ldR 21 (nI 2)).bind _) = _
        rw [ldR_kept (by decide)]; rfl
    · show (if (3 : Int32) ≤ nI 3 then _ else _) = _
      rw [if_pos (by decide)]
      show ((f_X7_changeRules F (sI (sI (sI (sI h10 57 0 0) 60 0 0) 63 0 0) 0 13 0)).bind _) = _
      rw [hh14, ev, Ib, gO_y hd (show gR (chR h14 d 0 (wtr Y 0)) 0 11 = some d from r14), Ib, chR_g (by omega), C14.2.2.2.2.1]
  · rw [irr_iff] at qq
    rw [chR_g (by omega), g14 a k (by omega)]
  · exact r14
  · show gR h14 0 12 = some (90 - d)
    rw [gR14, q12, show 90 - d = y by omega]
  · rfl
  · unfold chR
    simp (disch := decide) only [gI_ne, gI_nk, gI_eq]; rfl
  · unfold chR
    simp (disch := decide) only [gI_ne, gI_nk, gI_eq]; rfl
  · rw [chR_g (by omega)]; exact k1
  · rw [chR_g (by omega)]; exact k2
  · rw [chR_g (by omega)]; exact k3
  · rw [chR_g (by omega)]; exact k4
  · rw [chR_g (by omega), ← hh14]
    rcases (show k = 0 ∨ k = 1 ∨ k = 2 by omega) with rfl | rfl | rfl
    · rw [gI_ne (by decide), gI_ne (by decide), gI_ne (by decide), gI_eq]; rfl
    · rw [gI_ne (by decide), gI_ne (by decide), gI_eq]; rfl
    · rw [gI_ne (by decide), gI_eq]; rfl
  · rw [chR_g (by omega), ← hh14, gI_eq]; rfl
  · funext k
    rw [chR_g (by omega), g14 _ _ (by omega)]
  · rw [chR_g (by omega), g14 _ _ (by omega)]
  · unfold chR; rw [gI_nk (by decide), gI_eq]
  · unfold chR; rw [gI_eq]
end YARD
