/-! the model takes the yard -/
section MYARD
variable {B F r m : Nat} {tx : Nat → Int32} {h : Hp}
def sMy (a k : Nat) : Prop := a = 66 ∧ (8 ≤ k ∧ k ≤ 13 ∨ k = 32 ∨ k = 56) ∨ 73 ≤ a ∧ a ≤ 77 ∨ a = 85
theorem i32_div {a d : Nat} (ha : a < 2147483648) (h0 : 0 < d) (hd : d < 2147483648) : nI a / nI d = nI (a / d) := by
  have e := dv_n ha h0 hd
  unfold dvI at e
  rw [if_neg (n_nz hd h0)] at e
  exact Option.some.inj e
theorem mtake_ev {Y : YS} {q : Nat → Nat} (W : YW Y) (hw : 0 < yw Y) (hq : ∀ i, i < yn Y → q i < ycl Y) (H20 : gI h 66 20 = nI (yl Y)) (H22 : gI h 66 22 = nI (yw Y)) (H23 : gI h 66 23 = nI (yn Y)) (H24 : gI h 66 24 = nI (yc Y)) (H25 : gI h 66 25 = bz (yr Y)) (H78 : ∀ i j, i < yl Y → j < yw Y → gI h 78 (4 * i + j) = bz ((yb Y).testBit (yw Y * i + j))) (H79 : ∀ i, i < yn Y → gI h 79 i = nI (yk Y i)) (H80 : ∀ i, i < yn Y → gI h 80 i = nI (4 * (q i / yw Y) + q i % yw Y)) (H81 : ∀ k, k < yc Y → gI h 81 k = nI (yg Y k)) (S : SW Y (stdn q (yn Y))) (Sq : ∀ i, i < yn Y → dg (stdn q (yn Y)) i = q i) (hF : 40 < F) : ∃ h', ((ckZ (gI (sI (sI (sI h 66 8 (gI h 66 20)) 66 9 (gI (sI h 66 8 (gI h 66 20)) 66 22)) 66 10 (gI (sI (sI h 66 8 (gI h 66 20)) 66 9 (gI (sI h 66 8 (gI h 66 20)) 66 22)) 66 23)) 66 25)).bind fun z8 =>
        fix (σ := Int32 × Hp) (ρ := (Int32 × Hp)) (fun self11 s10 =>
          (if (gI s10.2 66 8) ≤ s10.1 then (
            fix (σ := Int32 × Hp) (ρ := (Int32 × Hp)) (fun self14 s13 =>
              (if (gI s13.2 66 10) ≤ s13.1 then (
                fix (σ := Int32 × Hp) (ρ := (Int32 × Hp)) (fun self17 s16 =>
                  (if (gI s16.2 66 11) ≤ s16.1 then (
                    fix (σ := Int32 × Hp) (ρ := (Int32 × Hp)) (fun self23 s22 =>
                      (if (3 : Int32) ≤ s22.1 then (
                        some ((gI s22.2 66 10), s22.2))
                      else (
                        (stI s22.2 85 s22.1 (vp_nar .boolean (0 : Int32))).bind fun h25 =>
                        self23 ((s22.1 + 1), h25)))) F ((0 : Int32), sI (sI (sI s16.2 66 13 (0 : Int32)) 66 32 (0 : Int32)) 66 56 (0 : Int32)))
                  else (
                    (ldI s16.2 81 s16.1).bind fun v27 =>
                    (stI s16.2 76 s16.1 v27).bind fun h28 =>
                    (stI h28 77 s16.1 (0 : Int32)).bind fun h29 =>
                    self17 ((s16.1 + 1), h29)))) F ((0 : Int32), s13.2))
              else (
                (ldI s13.2 79 s13.1).bind fun v31 =>
                (stI s13.2 74 s13.1 v31).bind fun h32 =>
                (ldI h32 80 s13.1).bind fun v33 =>
                (ldI h32 80 s13.1).bind fun v34 =>
                (stI h32 75 s13.1 (((gI h32 66 9) * (v33 / (4 : Int32))) + (rem32 v34 (4 : Int32)))).bind fun h35 =>
                self14 ((s13.1 + 1), h35)))) F ((0 : Int32), s10.2))
          else (
            fix (σ := Int32 × Hp) (ρ := (Int32 × Hp)) (fun self38 s37 =>
              (if (gI s37.2 66 9) ≤ s37.1 then (
                self11 ((s10.1 + 1), s37.2))
              else (
                (ldI s37.2 78 (((4 : Int32) * s10.1) + s37.1)).bind fun v40 =>
                (stI s37.2 73 (((gI s37.2 66 9) * s10.1) + s37.1) v40).bind fun h41 =>
                self38 ((s37.1 + 1), h41)))) F ((0 : Int32), s10.2)))) F ((0 : Int32), sI (sI (sI (sI (sI h 66 8 (gI h 66 20)) 66 9 (gI (sI h 66 8 (gI h 66 20)) 66 22)) 66 10 (gI (sI (sI h 66 8 (gI h 66 20)) 66 9 (gI (sI h 66 8 (gI h 66 20)) 66 22)) 66 23)) 66 12 z8) 66 11 (gI (sI (sI (sI (sI h 66 8 (gI h 66 20)) 66 9 (gI (sI h 66 8 (gI h 66 20)) 66 22)) 66 10 (gI (sI (sI h 66 8 (gI h 66 20)) 66 9 (gI (sI h 66 8 (gI h 66 20)) 66 22)) 66 23)) 66 12 z8) 66 24))) = some (nI (yn Y), h') ∧ Eo sMy h h' ∧ MI (zZ Y (stdn q (yn Y))) h' := by
  have hw4 := W.1
  have hl := W.2.1
  have hn := W.2.2.1
  have c12 := ycl_le W
  have c4 := yc_le W
  have e22 : gI (sI h 66 8 (gI h 66 20)) 66 22 = nI (yw Y) := by rw [gI_nk (by decide)]; exact H22
  rw [e22, H20]
  have e23 : gI (sI (sI h 66 8 (nI (yl Y))) 66 9 (nI (yw Y))) 66 23 = nI (yn Y) := by rw [gI_nk (by decide), gI_nk (by decide)]; exact H23
  rw [e23]
  have e25 : gI (sI (sI (sI h 66 8 (nI (yl Y))) 66 9 (nI (yw Y))) 66 10 (nI (yn Y))) 66 25 = bz (yr Y) := by rw [gI_nk (by decide), gI_nk (by decide), gI_nk (by decide)]; exact H25
  rw [e25, ck_bz, Ib]
  have e24 : gI (sI (sI (sI (sI h 66 8 (nI (yl Y))) 66 9 (nI (yw Y))) 66 10 (nI (yn Y))) 66 12 (bz (yr Y))) 66 24 = nI (yc Y) := by rw [gI_nk (by decide), gI_nk (by decide), gI_nk (by decide), gI_nk (by decide)]; exact H24
  rw [e24]
  generalize hh9 : sI (sI (sI (sI (sI h 66 8 (nI (yl Y))) 66 9 (nI (yw Y))) 66 10 (nI (yn Y))) 66 12 (bz (yr Y))) 66 11 (nI (yc Y)) = h9
  have o9 : Eo sMy h h9 := by
    have e0 : Eo sMy h h := Eo.refl
    rw [← hh9]
    exact ((((e0.sI (Or.inl (by omega))).sI (Or.inl (by omega))).sI (Or.inl (by omega))).sI (Or.inl (by omega))).sI (Or.inl (by omega))
  have f8 : gI h9 66 8 = nI (yl Y) := by rw [← hh9, gI_nk (by decide), gI_nk (by decide), gI_nk (by decide), gI_nk (by decide), gI_eq]
  have f9 : gI h9 66 9 = nI (yw Y) := by rw [← hh9, gI_nk (by decide), gI_nk (by decide), gI_nk (by decide), gI_eq]
  have f10 : gI h9 66 10 = nI (yn Y) := by rw [← hh9, gI_nk (by decide), gI_nk (by decide), gI_eq]
  have f11 : gI h9 66 11 = nI (yc Y) := by rw [← hh9, gI_eq]
  clear hh9
  -- the flags
  have L4 : ∀ z : Hp, Eo (fun a _k => 73 ≤ a ∧ a ≤ 77) h9 z → (∀ a, a < ycl Y → gI z 73 a = bz ((yb Y).testBit a)) → (∀ i, i < yn Y → gI z 74 i = nI (yk Y i)) → (∀ i, i < yn Y → gI z 75 i = nI (q i)) → (∀ k, k < yc Y → gI z 76 k = nI (yg Y k) ∧ gI z 77 k = 0) → ∃ h', fix (σ := Int32 × Hp) (ρ := (Int32 × Hp)) (fun self23 s22 =>
                      (if (3 : Int32) ≤ s22.1 then (
                        some ((gI s22.2 66 10), s22.2))
                      else (
                        (stI s22.2 85 s22.1 (vp_nar .boolean (0 : Int32))).bind fun h25 =>
                        self23 ((s22.1 + 1), h25)))) F ((0 : Int32), sI (sI (sI z 66 13 (0 : Int32)) 66 32 (0 : Int32)) 66 56 (0 : Int32)) = some (nI (yn Y), h') ∧ Eo sMy h h' ∧ MI (zZ Y (stdn q (yn Y))) h' := by
    intro z oz z73 z74 z75 z76
    generalize hu : sI (sI (sI z 66 13 (0 : Int32)) 66 32 (0 : Int32)) 66 56 (0 : Int32) = u
    have ou : Eo (fun a k => a = 66 ∧ (k = 13 ∨ k = 32 ∨ k = 56)) z u := by
      have e0 : Eo (fun a k => a = 66 ∧ (k = 13 ∨ k = 32 ∨ k = 56)) z z := Eo.refl
      rw [← hu]
      exact ((e0.sI (by omega)).sI (by omega)).sI (by omega)
    have u13 : gI u 66 13 = 0 := by rw [← hu, gI_nk (by decide), gI_nk (by decide), gI_eq]
    have u32 : gI u 66 32 = 0 := by rw [← hu, gI_nk (by decide), gI_eq]
    have u56 : gI u 66 56 = 0 := by rw [← hu, gI_eq]
    clear hu
    refine fix_post (fun o => ∃ h', o = some (nI (yn Y), h') ∧ Eo sMy h h' ∧ MI (zZ Y (stdn q (yn Y))) h') (fun (k : Nat) (v : Int32 × Hp) => v.1 = nI k ∧ Eo (fun a _k => a = 85) u v.2 ∧ ∀ j, j < k → gI v.2 85 j = 0) 3 ?_ (by omega) ?_ ?_
    · exact ⟨rfl, Eo.refl, fun j hj => absurd hj (Nat.not_lt_zero j)⟩
    · rintro k ⟨x, v⟩ hk ⟨e1, ev, p1⟩ self hself
      have e1' : x = nI k := e1
      subst e1'
      have ev : Eo (fun a _k => a = 85) u v := ev
      have p1 : ∀ j, j < k → gI v 85 j = 0 := p1
      show ∃ h', (if (3 : Int32) ≤ nI k then _ else _) = _ ∧ _
      rw [if_neg (by rw [lit_3, n_le (by omega) (by omega)]; omega)]
      show ∃ h', ((stI v 85 (nI k) (vp_nar .boolean (0 : Int32))).bind _) = _ ∧ _
      rw [st_85 (by omega), Ib]
      show ∃ h', self (nI k + 1, _) = _ ∧ _
      rw [n_add1]
      refine hself _ ⟨rfl, ev.sI rfl, fun j hj => ?_⟩
      show gI (sI v 85 k _) 85 j = 0
      rw [gI_at]
      by_cases w : j = k
      · rw [if_pos w]; rfl
      · rw [if_neg w]; exact p1 j (by omega)
    · rintro ⟨x, v⟩ ⟨e1, ev, p1⟩ self
      have e1' : x = nI 3 := e1
      subst e1'
      have ev : Eo (fun a _k => a = 85) u v := ev
      have p1 : ∀ j, j < 3 → gI v 85 j = 0 := p1
      have g : ∀ a k, a ≠ 85 → gI v a k = gI u a k := fun a k n => ev.1 a k n
      have gz : ∀ a k, a ≠ 85 → ¬ (a = 66 ∧ (k = 13 ∨ k = 32 ∨ k = 56)) → gI v a k = gI z a k := fun a k n n2 => by rw [g a k n]; exact ou.1 a k n2
      have g9 : ∀ k, ¬ (k = 13 ∨ k = 32 ∨ k = 56) → gI v 66 k = gI h9 66 k := fun k n => by rw [gz 66 k (by decide) (by omega)]; exact oz.1 _ _ (by omega)
      show ∃ h', (if (3 : Int32) ≤ nI 3 then _ else _) = _ ∧ _
      rw [if_pos (by decide)]
      refine ⟨v, ?_, ?_, ⟨?_, ?_, ?_, ?_, fun a ha => ?_, fun i hi => ?_, fun k hk => ?_⟩, ⟨?_, ?_, fun i hi => ?_, fun k hk => ?_, fun j hj => absurd hj (Nat.not_lt_zero j), fun j hj => absurd hj (Nat.not_lt_zero j)⟩, fun k hk => ⟨p1 k hk, fun f => by cases f⟩, ?_, fun j hj => absurd hj (Nat.not_lt_zero j)⟩
      · show some (gI v 66 10, v) = _
        rw [g9 10 (by decide), f10]
      · exact o9.trans ((oz.mono fun a k q => Or.inr (Or.inl q)).trans ((ou.mono fun a k q => Or.inl (by omega)).trans (ev.mono fun a k q => Or.inr (Or.inr q))))
      · rw [g9 8 (by decide)]; exact f8
      · rw [g9 9 (by decide)]; exact f9
      · rw [g9 10 (by decide)]; exact f10
      · rw [g9 11 (by decide)]; exact f11
      · rw [gz _ _ (by decide) (by omega)]; exact z73 a ha
      · rw [gz _ _ (by decide) (by omega)]; exact z74 i hi
      · rw [gz _ _ (by decide) (by omega)]; exact (z76 k hk).1
      · rw [g _ _ (by decide)]; exact u13
      · rw [g _ _ (by decide)]; exact u32
      · rw [gz _ _ (by decide) (by omega), Nat.zero_add, z75 i hi]
        exact congrArg nI (Sq i hi).symm
      · rw [gz _ _ (by decide) (by omega), Nat.zero_add, (z76 k hk).2]
        show 0 = bz (Nat.testBit 0 k)
        rw [Nat.zero_testBit]; rfl
      · rw [g _ _ (by decide)]; exact u56
  -- the chains
  have L3 : ∀ z : Hp, Eo (fun a _k => 73 ≤ a ∧ a ≤ 77) h9 z → (∀ a, a < ycl Y → gI z 73 a = bz ((yb Y).testBit a)) → (∀ i, i < yn Y → gI z 74 i = nI (yk Y i)) → (∀ i, i < yn Y → gI z 75 i = nI (q i)) → ∃ h', fix (σ := Int32 × Hp) (ρ := (Int32 × Hp)) (fun self17 s16 =>
                  (if (gI s16.2 66 11) ≤ s16.1 then (
                    fix (σ := Int32 × Hp) (ρ := (Int32 × Hp)) (fun self23 s22 =>
                      (if (3 : Int32) ≤ s22.1 then (
                        some ((gI s22.2 66 10), s22.2))
                      else (
                        (stI s22.2 85 s22.1 (vp_nar .boolean (0 : Int32))).bind fun h25 =>
                        self23 ((s22.1 + 1), h25)))) F ((0 : Int32), sI (sI (sI s16.2 66 13 (0 : Int32)) 66 32 (0 : Int32)) 66 56 (0 : Int32)))
                  else (
                    (ldI s16.2 81 s16.1).bind fun v27 =>
                    (stI s16.2 76 s16.1 v27).bind fun h28 =>
                    (stI h28 77 s16.1 (0 : Int32)).bind fun h29 =>
                    self17 ((s16.1 + 1), h29)))) F ((0 : Int32), z) = some (nI (yn Y), h') ∧ Eo sMy h h' ∧ MI (zZ Y (stdn q (yn Y))) h' := by
    intro z oz z73 z74 z75
    refine fix_post (fun o => ∃ h', o = some (nI (yn Y), h') ∧ Eo sMy h h' ∧ MI (zZ Y (stdn q (yn Y))) h') (fun (k : Nat) (v : Int32 × Hp) => v.1 = nI k ∧ Eo (fun a _k => a = 76 ∨ a = 77) z v.2 ∧ ∀ j, j < k → gI v.2 76 j = nI (yg Y j) ∧ gI v.2 77 j = 0) (yc Y) ?_ (by omega) ?_ ?_
    · exact ⟨rfl, Eo.refl, fun j hj => absurd hj (Nat.not_lt_zero j)⟩
    · rintro k ⟨x, v⟩ hk ⟨e1, ev, p1⟩ self hself
      have e1' : x = nI k := e1
      subst e1'
      have ev : Eo (fun a _k => a = 76 ∨ a = 77) z v := ev
      have p1 : ∀ j, j < k → gI v 76 j = nI (yg Y j) ∧ gI v 77 j = 0 := p1
      have v11 : gI v 66 11 = nI (yc Y) := by rw [ev.1 _ _ (by omega), oz.1 _ _ (by omega)]; exact f11
      have v81 : gI v 81 k = nI (yg Y k) := by rw [ev.1 _ _ (by omega), oz.1 _ _ (by omega), o9.1 _ _ (by unfold sMy; omega)]; exact H81 k hk
      simp only [v11]
      rw [if_neg (nle_k (by omega) hk), ld_81 (by omega), Ib, v81, st_76 (by omega), Ib, st_77 (by omega), Ib, n_add1]
      refine hself _ ⟨rfl, (ev.sI (Or.inl rfl)).sI (Or.inr rfl), fun j hj => ?_⟩
      show gI (sI (sI v 76 k _) 77 k 0) 76 j = _ ∧ gI (sI (sI v 76 k _) 77 k 0) 77 j = 0
      rw [gI_ne (by decide), gI_at, gI_at]
      by_cases w : j = k
      · rw [if_pos w, if_pos w, w]; exact ⟨rfl, rfl⟩
      · rw [if_neg w, if_neg w, gI_ne (by decide)]; exact p1 j (by omega)
    · rintro ⟨x, v⟩ ⟨e1, ev, p1⟩ self
      have e1' : x = nI (yc Y) := e1
      subst e1'
      have ev : Eo (fun a _k => a = 76 ∨ a = 77) z v := ev
      have p1 : ∀ j, j < yc Y → gI v 76 j = nI (yg Y j) ∧ gI v 77 j = 0 := p1
      have v11 : gI v 66 11 = nI (yc Y) := by rw [ev.1 _ _ (by omega), oz.1 _ _ (by omega)]; exact f11
      simp only [v11]
      rw [if_pos (rf_le (by omega))]
      exact L4 v (oz.trans (ev.mono fun a k q => by omega)) (fun a ha => by rw [ev.1 _ _ (by omega)]; exact z73 a ha) (fun a ha => by rw [ev.1 _ _ (by omega)]; exact z74 a ha) (fun a ha => by rw [ev.1 _ _ (by omega)]; exact z75 a ha) p1
  -- the men
  have L2 : ∀ z : Hp, Eo (fun a _k => 73 ≤ a ∧ a ≤ 77) h9 z → (∀ a, a < ycl Y → gI z 73 a = bz ((yb Y).testBit a)) → ∃ h', fix (σ := Int32 × Hp) (ρ := (Int32 × Hp)) (fun self14 s13 =>
              (if (gI s13.2 66 10) ≤ s13.1 then (
                fix (σ := Int32 × Hp) (ρ := (Int32 × Hp)) (fun self17 s16 =>
                  (if (gI s16.2 66 11) ≤ s16.1 then (
                    fix (σ := Int32 × Hp) (ρ := (Int32 × Hp)) (fun self23 s22 =>
                      (if (3 : Int32) ≤ s22.1 then (
                        some ((gI s22.2 66 10), s22.2))
                      else (
                        (stI s22.2 85 s22.1 (vp_nar .boolean (0 : Int32))).bind fun h25 =>
                        self23 ((s22.1 + 1), h25)))) F ((0 : Int32), sI (sI (sI s16.2 66 13 (0 : Int32)) 66 32 (0 : Int32)) 66 56 (0 : Int32)))
                  else (
                    (ldI s16.2 81 s16.1).bind fun v27 =>
                    (stI s16.2 76 s16.1 v27).bind fun h28 =>
                    (stI h28 77 s16.1 (0 : Int32)).bind fun h29 =>
                    self17 ((s16.1 + 1), h29)))) F ((0 : Int32), s13.2))
              else (
                (ldI s13.2 79 s13.1).bind fun v31 =>
                (stI s13.2 74 s13.1 v31).bind fun h32 =>
                (ldI h32 80 s13.1).bind fun v33 =>
                (ldI h32 80 s13.1).bind fun v34 =>
                (stI h32 75 s13.1 (((gI h32 66 9) * (v33 / (4 : Int32))) + (rem32 v34 (4 : Int32)))).bind fun h35 =>
                self14 ((s13.1 + 1), h35)))) F ((0 : Int32), z) = some (nI (yn Y), h') ∧ Eo sMy h h' ∧ MI (zZ Y (stdn q (yn Y))) h' := by
    intro z oz z73
    refine fix_post (fun o => ∃ h', o = some (nI (yn Y), h') ∧ Eo sMy h h' ∧ MI (zZ Y (stdn q (yn Y))) h') (fun (k : Nat) (v : Int32 × Hp) => v.1 = nI k ∧ Eo (fun a _k => a = 74 ∨ a = 75) z v.2 ∧ ∀ j, j < k → gI v.2 74 j = nI (yk Y j) ∧ gI v.2 75 j = nI (q j)) (yn Y) ?_ (by omega) ?_ ?_
    · exact ⟨rfl, Eo.refl, fun j hj => absurd hj (Nat.not_lt_zero j)⟩
    · rintro k ⟨x, v⟩ hk ⟨e1, ev, p1⟩ self hself
      have e1' : x = nI k := e1
      subst e1'
      have ev : Eo (fun a _k => a = 74 ∨ a = 75) z v := ev
      have p1 : ∀ j, j < k → gI v 74 j = nI (yk Y j) ∧ gI v 75 j = nI (q j) := p1
      have v10 : gI v 66 10 = nI (yn Y) := by rw [ev.1 _ _ (by omega), oz.1 _ _ (by omega)]; exact f10
      have v9 : gI v 66 9 = nI (yw Y) := by rw [ev.1 _ _ (by omega), oz.1 _ _ (by omega)]; exact f9
      have v79 : gI v 79 k = nI (yk Y k) := by rw [ev.1 _ _ (by omega), oz.1 _ _ (by omega), o9.1 _ _ (by unfold sMy; omega)]; exact H79 k hk
      have v80 : gI v 80 k = nI (4 * (q k / yw Y) + q k % yw Y) := by rw [ev.1 _ _ (by omega), oz.1 _ _ (by omega), o9.1 _ _ (by unfold sMy; omega)]; exact H80 k hk
      have lt12 := c4_lt hw hw4 hl (hq k hk)
      have mlt := Nat.mod_lt (q k) hw
      have eq : nI (yw Y) * (nI (4 * (q k / yw Y) + q k % yw Y) / (4 : Int32)) + rem32 (nI (4 * (q k / yw Y) + q k % yw Y)) (4 : Int32) = nI (q k) := by
        rw [lit_4, i32_div (by omega) (by decide) (by decide), rem_n (by omega) (by decide) (by decide), Nat.mul_add_div (by decide), Nat.mul_add_mod, Nat.div_eq_of_lt (a := q k % yw Y) (by omega), Nat.mod_eq_of_lt (a := q k % yw Y) (by omega), Nat.add_zero, pk_mul, nI_add]
        exact congrArg nI (Nat.div_add_mod (q k) (yw Y))
      simp only [v10]
      rw [if_neg (nle_k (by omega) hk), ld_79 (by omega), Ib, v79, st_74 (by omega), Ib, ld_80 (by omega), Ib, Ib, gI_ne (by decide), gI_ne (by decide), v80, v9, eq, st_75 (by omega), Ib, n_add1]
      refine hself _ ⟨rfl, (ev.sI (Or.inl rfl)).sI (Or.inr rfl), fun j hj => ?_⟩
      show gI (sI (sI v 74 k _) 75 k _) 74 j = _ ∧ gI (sI (sI v 74 k _) 75 k _) 75 j = _
      rw [gI_ne (by decide), gI_at, gI_at]
      by_cases w : j = k
      · rw [if_pos w, if_pos w, w]; exact ⟨rfl, rfl⟩
      · rw [if_neg w, if_neg w, gI_ne (by decide)]; exact p1 j (by omega)
    · rintro ⟨x, v⟩ ⟨e1, ev, p1⟩ self
      have e1' : x = nI (yn Y) := e1
      subst e1'
      have ev : Eo (fun a _k => a = 74 ∨ a = 75) z v := ev
      have p1 : ∀ j, j < yn Y → gI v 74 j = nI (yk Y j) ∧ gI v 75 j = nI (q j) := p1
      have v10 : gI v 66 10 = nI (yn Y) := by rw [ev.1 _ _ (by omega), oz.1 _ _ (by omega)]; exact f10
      simp only [v10]
      rw [if_pos (rf_le (by omega))]
      exact L3 v (oz.trans (ev.mono fun a k q => by omega)) (fun a ha => by rw [ev.1 _ _ (by omega)]; exact z73 a ha) (fun i hi => (p1 i hi).1) (fun i hi => (p1 i hi).2)
  -- the walls
  refine fix_post (fun o => ∃ h', o = some (nI (yn Y), h') ∧ Eo sMy h h' ∧ MI (zZ Y (stdn q (yn Y))) h') (fun (k : Nat) (v : Int32 × Hp) => v.1 = nI k ∧ Eo (fun a _k => a = 73) h9 v.2 ∧ ∀ a, a < yw Y * k → gI v.2 73 a = bz ((yb Y).testBit a)) (yl Y) ?_ (by omega) ?_ ?_
  · exact ⟨rfl, Eo.refl, fun a ha => absurd ha (Nat.not_lt_zero a)⟩
  · rintro k ⟨x, v⟩ hk ⟨e1, ev, p1⟩ self hself
    have e1' : x = nI k := e1
    subst e1'
    have ev : Eo (fun a _k => a = 73) h9 v := ev
    have p1 : ∀ a, a < yw Y * k → gI v 73 a = bz ((yb Y).testBit a) := p1
    have v8 : gI v 66 8 = nI (yl Y) := by rw [ev.1 _ _ (by omega)]; exact f8
    have kb : yw Y * k + yw Y ≤ 12 := by
      have := Nat.mul_le_mul hw4 (show k + 1 ≤ 3 by omega)
      rw [Nat.mul_succ] at this
      exact this
    simp only [v8]
    rw [if_neg (nle_k (by omega) hk)]
    refine fix_post (fun o => ∃ h', o = some (nI (yn Y), h') ∧ Eo sMy h h' ∧ MI (zZ Y (stdn q (yn Y))) h') (fun (j : Nat) (u : Int32 × Hp) => u.1 = nI j ∧ Eo (fun a _k => a = 73) h9 u.2 ∧ ∀ a, a < yw Y * k + j → gI u.2 73 a = bz ((yb Y).testBit a)) (yw Y) ?_ (by omega) ?_ ?_
    · exact ⟨rfl, ev, p1⟩
    · rintro j ⟨x, u⟩ hj ⟨e1, eu, p2⟩ self2 hself2
      have e1' : x = nI j := e1
      subst e1'
      have eu : Eo (fun a _k => a = 73) h9 u := eu
      have p2 : ∀ a, a < yw Y * k + j → gI u 73 a = bz ((yb Y).testBit a) := p2
      have u9 : gI u 66 9 = nI (yw Y) := by rw [eu.1 _ _ (by omega)]; exact f9
      have u78 : gI u 78 (4 * k + j) = bz ((yb Y).testBit (yw Y * k + j)) := by rw [eu.1 _ _ (by omega), o9.1 _ _ (by unfold sMy; omega)]; exact H78 k j hk hj
      simp only [u9]
      rw [if_neg (nle_k (by omega) hj), lit_4, pk_mul, nI_add, ld_78 (by omega), Ib, u78, pk_mul, nI_add, st_73 (by omega), Ib, n_add1]
      refine hself2 _ ⟨rfl, eu.sI rfl, fun a ha => ?_⟩
      show gI (sI u 73 (yw Y * k + j) _) 73 a = _
      rw [gI_at]
      by_cases w : a = yw Y * k + j
      · rw [if_pos w, w]
      · rw [if_neg w]; exact p2 a (by omega)
    · rintro ⟨x, u⟩ ⟨e1, eu, p2⟩ self2
      have e1' : x = nI (yw Y) := e1
      subst e1'
      have eu : Eo (fun a _k => a = 73) h9 u := eu
      have u9 : gI u 66 9 = nI (yw Y) := by rw [eu.1 _ _ (by omega)]; exact f9
      simp only [u9]
      rw [if_pos (rf_le (by omega)), n_add1]
      exact hself _ ⟨rfl, eu, fun a ha => p2 a (by rw [Nat.mul_succ] at ha; exact ha)⟩
  · rintro ⟨x, v⟩ ⟨e1, ev, p1⟩ self
    have e1' : x = nI (yl Y) := e1
    subst e1'
    have ev : Eo (fun a _k => a = 73) h9 v := ev
    have p1 : ∀ a, a < yw Y * yl Y → gI v 73 a = bz ((yb Y).testBit a) := p1
    have v8 : gI v 66 8 = nI (yl Y) := by rw [ev.1 _ _ (by omega)]; exact f8
    simp only [v8]
    rw [if_pos (rf_le (by omega))]
    exact L2 v (ev.mono fun a k q => by omega) p1
end MYARD
