/-! the model reads the lines -/
section ZMLN
variable {r m F : Nat} {tx : Nat → Int32} {h h' : Hp} {S : RS}
theorem ZM.at {z : Hp} {T : Nat → Nat → Prop} (M : ZM S h) (e : Eo T h z) (hT : ∀ a k, T a k → ¬ (a = 66 ∧ 20 ≤ k ∧ k ≤ 23 ∨ 78 ≤ a ∧ a ≤ 80)) : ZM S z := by
  obtain ⟨m1, m2, m3, m4, m5, m6, m7⟩ := M
  refine ⟨?_, ?_, fun q => ?_, ?_, fun i j hij => ?_, fun i hi => ?_, fun i hi => ?_⟩
  · rw [e.1 _ _ (fun q => hT _ _ q (by omega))]; exact m1
  · rw [e.1 _ _ (fun q => hT _ _ q (by omega))]; exact m2
  · rw [e.1 _ _ (fun q => hT _ _ q (by omega))]; exact m3 q
  · rw [e.1 _ _ (fun q => hT _ _ q (by omega))]; exact m4
  · rw [e.1 _ _ (fun q => hT _ _ q (by omega))]; exact m5 i j hij
  · rw [e.1 _ _ (fun q => hT _ _ q (by omega))]; exact m6 i hi
  · rw [e.1 _ _ (fun q => hT _ _ q (by omega))]; exact m7 i hi
theorem mlines_ev {p : Nat} (X : MX r m tx h) (hp : gI h 66 19 = nI p) (hm : p ≤ m) (hF : 40 < F) : ∃ h', f_X8_readsLines F (nI r) h = some (bz (zron tx (m - p) (zS0 p)).2, h') ∧ Eo sMd h h' ∧ gI h' 66 19 = nI (zrp (zron tx (m - p) (zS0 p)).1) ∧ ((zron tx (m - p) (zS0 p)).2 = true → ZG (zron tx (m - p) (zS0 p)).1 h') := by
  have m40 := X.2.1
  unfold f_X8_readsLines
  simp only [nm]
  generalize hR : zron tx (m - p) (zS0 p) = R
  generalize hh3 : sI (sI (sI h 66 20 (1 : Int32)) 66 21 (0 : Int32)) 66 23 (0 : Int32) = h3
  have o3 : Eo sMd h h3 := by
    rw [← hh3]
    exact ((Eo.refl.sI (Or.inl (by omega))).sI (Or.inl (by omega))).sI (Or.inl (by omega))
  have p3 : gI h3 66 19 = nI p := by
    rw [← hh3, gI_nk (by decide), gI_nk (by decide), gI_nk (by decide)]; exact hp
  have M3 : ZM (zS0 p) h3 := by
    rw [← hh3]
    refine ⟨?_, ?_, fun q => absurd q (Nat.lt_irrefl 0), ?_, fun i j hij => ?_, fun i hi => absurd hi (Nat.not_lt_zero i), fun i hi => absurd hi (Nat.not_lt_zero i)⟩
    · rw [gI_nk (by decide), gI_nk (by decide), gI_eq]; rfl
    · rw [gI_nk (by decide), gI_eq]; rfl
    · rw [gI_eq]; rfl
    · have hij : i < 0 ∧ j < 0 ∨ i = 0 ∧ j < 0 := hij
      omega
  refine fix_post (fun o => ∃ h', o = some (bz R.2, h') ∧ Eo sMd h h' ∧ gI h' 66 19 = nI (zrp R.1) ∧ (R.2 = true → ZG R.1 h')) (fun (k : Nat) (z : Hp) => ∃ S', ZW S' ∧ ZM S' z ∧ Eo sMd h z ∧ gI z 66 19 = nI (zrp S') ∧ zrp S' = p + k ∧ zron tx (m - zrp S') S' = R) (m - p) ?_ (by omega) ?_ ?_
  · exact ⟨zS0 p, zS0_W p, M3, o3, p3, rfl, hR⟩
  · rintro k z hk ⟨S', W', M', eo, e3, ep, er⟩ self hself
    have X' := X.keep eo
    have w4 := W'.2.2.2.1
    have l4 := zlim_4 W'
    have bad : (S', false) = R → ∀ g : Hp, Eo (fun a k => sMd a k ∧ ¬ (a = 66 ∧ k = 19)) z g → ∃ h', (some ((0 : Int32), g)) = some (bz R.2, h') ∧ Eo sMd h h' ∧ gI h' 66 19 = nI (zrp R.1) ∧ (R.2 = true → ZG R.1 h') := by
      rintro rfl g eg
      exact ⟨g, rfl, eo.trans (eg.mono fun a k q => q.1), by rw [eg.1 66 19 (fun q => q.2 ⟨rfl, rfl⟩)]; exact e3, fun q => by cases q⟩
    rw [X'.ld, Ib, e3, if_neg (nle_k (by omega) (by omega)), X'.byte (by omega), Ib, isC_ev]
    simp only [jn]
    have ed : m - zrp S' = (m - (zrp S' + 1)) + 1 := by omega
    rw [ed, zron] at er
    generalize hx : tx (zrp S') = x at er
    cases hc : isC x with
    | false =>
      obtain ⟨c1, c2, c3⟩ := isC_no hc
      simp only [show bz false = 0 from rfl, if_true]
      by_cases q : x = 47 ∨ x = 61
      · rw [if_pos q] at er
        rw [mends_ev M' W', Ib]
        by_cases q2 : zrc S' = 0 ∨ (0 < zrl S' ∧ zrc S' ≠ zrw S')
        · rw [if_pos q2] at er
          rw [decide_eq_true q2]
          simp only [show bz (!true) = 0 from rfl, if_true]
          rcases q with q | q
          · rw [q, if_pos rfl]
            exact bad er z Eo.refl
          · rw [q, if_neg (by decide), if_pos rfl]
            exact bad er z Eo.refl
        · rw [if_neg q2] at er
          rw [decide_eq_false q2]
          simp only [show bz (!false) = 1 from rfl, i10]
          have z22 : (Option.bind (α := Int32) (if gI z 66 20 = (1 : Int32) then some (gI z 66 21) else some (gI z 66 22)) fun t29 => some (sI z 66 22 t29)) = some (sI z 66 22 (nI (zrc S'))) := by
            rw [M'.1, M'.2.1]
            by_cases u : zrl S' = 0
            · rw [u, if_pos (show nI (0 + 1) = 1 from rfl)]; rfl
            · rw [if_neg (by rw [lit_1, n_eq (by omega) (by omega)]; omega), M'.2.2.1 (by omega), show zrw S' = zrc S' by omega]; rfl
          rw [z22]
          simp only [Ib]
          obtain ⟨en1, en2⟩ := M'.ended W' q2
          rcases q with q | q
          · rw [q] at er ⊢
            rw [if_neg (by decide)] at er
            rw [if_pos rfl, if_pos rfl, M'.1]
            by_cases q4 : zrl S' = 2
            · rw [if_pos q4] at er
              rw [if_pos (by rw [q4]; rfl)]
              exact bad er z Eo.refl
            · rw [if_neg q4] at er
              rw [if_neg (by rw [lit_3, n_eq (by omega) (by omega)]; omega), if_neg (by decide)]
              refine hself _ ⟨zend S', zw_next W' q2 q4, ⟨?_, ?_, fun _ => ?_, ?_, fun i j hij => ?_, fun i hi => ?_, fun i hi => ?_⟩, (((eo.sI (Or.inl (by omega))).sI (Or.inl (by omega))).sI (Or.inl (by omega))).sI (Or.inl (by omega)), ?_, by show zrp S' + 1 = _; omega, er⟩
              · rw [gI_nk (by decide), gI_eq, gI_nk (by decide), gI_nk (by decide), M'.1, n_add1]; rfl
              · rw [gI_eq]; rfl
              · rw [gI_nk (by decide), gI_nk (by decide), gI_nk (by decide), gI_eq]; rfl
              · rw [gI_nk (by decide), gI_nk (by decide), gI_nk (by decide), gI_nk (by decide)]; exact M'.2.2.2.1
              · rw [gI_ne (by decide), gI_ne (by decide), gI_ne (by decide), gI_ne (by decide)]
                have hij : i < zrl S' + 1 ∧ j < zrc S' ∨ i = zrl S' + 1 ∧ j < 0 := hij
                exact en1 i j (by omega) (by omega)
              · rw [gI_ne (by decide), gI_ne (by decide), gI_ne (by decide), gI_ne (by decide)]; exact M'.2.2.2.2.2.1 i hi
              · rw [gI_ne (by decide), gI_ne (by decide), gI_ne (by decide), gI_ne (by decide)]; exact en2 i hi
              · rw [gI_nk (by decide), gI_nk (by decide), gI_eq, gI_nk (by decide), e3, n_add1]; rfl
          · rw [q] at er ⊢
            rw [if_pos rfl] at er
            rw [if_neg (by decide), if_pos rfl, if_neg (by decide), if_pos rfl]
            subst er
            refine ⟨_, rfl, (eo.sI (Or.inl (by omega))).sI (Or.inl (by omega)), ?_, fun _ => ⟨?_, ?_, ?_, fun i j hi hj => ?_, fun i hi => ?_, fun i hi => ?_⟩⟩
            · rw [gI_eq, gI_nk (by decide), e3, n_add1]; rfl
            · rw [gI_nk (by decide), gI_nk (by decide)]; exact M'.1
            · rw [gI_nk (by decide), gI_eq]; rfl
            · rw [gI_nk (by decide), gI_nk (by decide)]; exact M'.2.2.2.1
            · rw [gI_ne (by decide), gI_ne (by decide)]; exact en1 i j hi hj
            · rw [gI_ne (by decide), gI_ne (by decide)]; exact M'.2.2.2.2.2.1 i hi
            · rw [gI_ne (by decide), gI_ne (by decide)]; exact en2 i hi
      · rw [if_neg q, c1] at er
        simp only at er
        rw [if_neg (by rintro (a | a); exact c2 a; exact c3 a)] at er
        rw [if_neg (fun a => q (Or.inl a)), if_neg (fun a => q (Or.inr a))]
        exact bad er z Eo.refl
    | true =>
      have q := isC_yes hc
      rw [if_neg q] at er
      have n47 : ¬ x = 47 := fun a => q (Or.inl a)
      have n61 : ¬ x = 61 := fun a => q (Or.inr a)
      simp only [show bz true = 1 from rfl, i10, Ib, n47, n61, if_false]
      have go : ∀ (S'' : RS) (g : Hp), zrp S'' = zrp S' + 1 → ZW S'' → ZM S'' g → Eo (fun a k => sMd a k ∧ ¬ (a = 66 ∧ k = 19)) z g → zron tx (m - zrp S'') S'' = R → ∃ h', self (sI (sI (sI g 66 19 (gI g 66 19 + 1)) 66 20 (gI (sI g 66 19 (gI g 66 19 + 1)) 66 20 + 0)) 66 21 (gI (sI (sI g 66 19 (gI g 66 19 + 1)) 66 20 (gI (sI g 66 19 (gI g 66 19 + 1)) 66 20 + 0)) 66 21)) = some (bz R.2, h') ∧ Eo sMd h h' ∧ gI h' 66 19 = nI (zrp R.1) ∧ (R.2 = true → ZG R.1 h') := by
        intro S'' g p1 p2 p3 p4 p5
        obtain ⟨m1, m2, m3, m4, m5, m6, m7⟩ := p3
        refine hself _ ⟨S'', p2, ⟨?_, ?_, fun q => ?_, ?_, fun i j hij => ?_, fun i hi => ?_, fun i hi => ?_⟩, (((eo.trans (p4.mono fun a k q => q.1)).sI (Or.inl (by omega))).sI (Or.inl (by omega))).sI (Or.inl (by omega)), ?_, by omega, p5⟩
        · rw [gI_nk (by decide), gI_eq, gI_nk (by decide), m1]
          exact Int32.add_zero _
        · rw [gI_eq, gI_nk (by decide), gI_nk (by decide), m2]
        · rw [gI_nk (by decide), gI_nk (by decide), gI_nk (by decide)]; exact m3 q
        · rw [gI_nk (by decide), gI_nk (by decide), gI_nk (by decide)]; exact m4
        · rw [gI_ne (by decide), gI_ne (by decide), gI_ne (by decide)]; exact m5 i j hij
        · rw [gI_ne (by decide), gI_ne (by decide), gI_ne (by decide)]; exact m6 i hi
        · rw [gI_ne (by decide), gI_ne (by decide), gI_ne (by decide)]; exact m7 i hi
        · rw [gI_nk (by decide), gI_nk (by decide), gI_eq, p4.1 66 19 (fun q => q.2 ⟨rfl, rfl⟩), e3, n_add1, p1]
      cases hk' : kdz x with
      | none =>
        simp only [hk'] at er
        have q2 : x = 46 ∨ x = 35 := by
          unfold isC at hc
          rw [hk'] at hc
          simpa using hc
        rw [if_pos q2] at er
        by_cases q3 : zrc S' = zlim S'
        · rw [if_pos q3] at er
          rw [mcell_full M' W' q3, Ib, i00]
          exact bad er z Eo.refl
        · rw [if_neg q3] at er
          obtain ⟨g, e5, eg, Mg⟩ := mcell_0 M' W' q3 hk' q2
          rw [e5, Ib, i10]
          exact go _ g rfl (zw_ad0 W' q3) Mg (eg.mono fun a k q => by unfold sMd; omega) er
      | some kk =>
        simp only [hk'] at er
        by_cases q3 : zrc S' = zlim S'
        · rw [if_pos q3] at er
          rw [mcell_full M' W' q3, Ib, i00]
          exact bad er z Eo.refl
        · rw [if_neg q3] at er
          by_cases q4 : zrn S' = 4
          · rw [if_pos q4] at er
            rw [mcell_4 M' W' q3 hk' q4, Ib, i00]
            exact bad er z Eo.refl
          · rw [if_neg q4] at er
            obtain ⟨g, e5, eg, Mg⟩ := mcell_1 M' W' q3 hk' q4
            rw [e5, Ib, i10]
            exact go _ g rfl (zw_ad1 W' q3 q4 (kdz_lt hk')) Mg (eg.mono fun a k q => by unfold sMd; omega) er
  · rintro z ⟨S', W', M', eo, e3, ep, er⟩ self
    have X' := X.keep eo
    rw [X'.ld, Ib, e3, if_pos (by rw [n_le (by omega) (by omega)]; omega)]
    rw [show m - zrp S' = 0 by omega] at er
    subst er
    exact ⟨z, rfl, eo, e3, fun q => by cases q⟩
end ZMLN
