/-! yard -/
theorem zfault_le {tx : Nat → Int32} {m p : Nat} (h : zfault tx m = some p) : p ≤ m := by
  obtain ⟨zp0, zp1⟩ := zR_p (tx := tx) (m := m)
  unfold zfault at h
  by_cases q1 : (zR tx m).2 = false
  · rw [if_pos q1] at h; cases h; exact zp1
  · rw [if_neg q1] at h
    by_cases q2 : m ≤ zrp (zR tx m).1 ∨ (tx (zrp (zR tx m).1) ≠ 119 ∧ tx (zrp (zR tx m).1) ≠ 114)
    · rw [if_pos q2] at h; cases h; exact zp1
    · rw [if_neg q2] at h
      have q4 : zrp (zR tx m).1 < m := by
        rcases Nat.lt_or_ge (zrp (zR tx m).1) m with a | a
        · exact a
        · exact absurd (Or.inl a) q2
      have zp2 : (zC tx m).1.1 ≤ m := zcho_p _ _ _ _ q4
      by_cases q5 : (zC tx m).2 = false
      · rw [if_pos q5] at h; cases h; exact zp2
      · rw [if_neg q5] at h
        by_cases q6 : zsk tx (m - (zC tx m).1.1) (zC tx m).1.1 < m
        · rw [if_pos q6] at h; cases h; omega
        · rw [if_neg q6] at h; cases h
section YARD2
variable {B F : Nat} {h : Hp}
theorem alk_yard {x : Int32} (I : Inv0 (PB B) h) (hF : 40 < F) : Alk2 (PB B) (PB B) (f_X7_yard F x) (f_X8_yard F x) h := by
  by_cases hx : inR x 4
  · obtain ⟨r, hr, rfl⟩ := hx
    obtain ⟨i1, i2, i3⟩ := I.2.1 r hr
    rcases i2 with i2 | ⟨m, hm, i2⟩
    · refine (alk_as I (f := 1) (by decide) ?_ (fun h' hh => ?_)).two
      · simp only [f_X7_yard]
        rw [rm_neg shf_txts hr i2, found_n (by decide), Ib, if_neg nz3]
      · simp only [f_X8_yard]
        rw [isText_yes hr, Ib, if_neg (by decide), ld_71 hr, Ib, hh 71 (by decide), ← i1, i2, if_neg m1_neg, bindself]; rfl
    · obtain ⟨y, Z, w, ci, mi, si⟩ := PB_oth.mp I.2.2.2
      have hy : y = 41 ∨ y = 49 := ci.1
      generalize htx : gI h (12 + r) = tx
      obtain ⟨h1, e1, g1, r1, k1⟩ := read_ev (F := F) (h := h) (tx := tx) (isY_d ci.1) hr i2 hm htx hF
      have s1 := Sm1.draft ci.1 g1
      have si1 : SIZ Z B h1 := SI.keep si (fun a a1 a2 => funext fun k => g1 a k (by omega))
      cases hz : zfault tx m with
      | some p =>
        have hp := zfault_le hz
        have n9 : ¬ oI (some p) = -9 := n_m9 (by omega)
        have cl : f_X7_yard F (nI r) h = some (-4, h1) := by
          simp only [f_X7_yard, nm]
          rw [rm_ok shf_txts hr i2 hm, Ib, if_pos rfl, gO_y (isY_d ci.1) ci.2.2.1, Ib, e1, Ib, hz, if_neg n9]
        refine alk_coreR I mi ⟨-4, h1, cl, s1, y, Z, w, ci.draft g1 r1, si1, fun h' mi' hh => ?_⟩
        have X := mx_of I hr hm i2 hh
        rw [htx] at X
        obtain ⟨h2, e2, o2, -⟩ := mfault_ev (F := F) X hF
        refine ⟨h2, ?_, Sm2.ofMd o2, mi'.ofMd o2⟩
        simp only [f_X8_yard, nm]
        rw [isText_yes hr, Ib, if_neg (by decide), ld_71 hr, Ib, X.2.2.1, if_pos (n_ge (by omega)), e2, Ib, hz, if_neg n9]
      | none =>
        obtain ⟨W, hw, hq, hqd⟩ := zY_W hz
        obtain ⟨C, HS⟩ := k1 hz
        obtain ⟨SWq, Sq⟩ := stdn_SW (c := zrq (zR tx m).1) W hq hqd
        obtain ⟨h3, e3, s3, c3, d3⟩ := cyard_ev (F := F) (B := B) (Z := Z) (Y := zYd tx m) (q := zrq (zR tx m).1) ci.1 (by rw [r1 _ _ (by decide)]; exact ci.2.1) (by rw [r1 _ _ (by decide)]; exact ci.2.2.1) W C HS si1 hF
        have cl : f_X7_yard F (nI r) h = some (nI (yn (zYd tx m)), h3) := by
          simp only [f_X7_yard, nm]
          rw [rm_ok shf_txts hr i2 hm, Ib, if_pos rfl, gO_y (isY_d ci.1) ci.2.2.1, Ib, e1, Ib, hz, if_pos (show oI none = -9 from rfl)]
          exact e3
        refine alk_coreR I mi ⟨nI (yn (zYd tx m)), h3, cl, fun a k q => (s3 a k q).trans (s1 a k q), 90 - y, zZ (zYd tx m) (stdn (zrq (zR tx m).1) (yn (zYd tx m))), zZ_W W SWq, c3, d3, fun h' mi' hh => ?_⟩
        have X := mx_of I hr hm i2 hh
        rw [htx] at X
        obtain ⟨h2, e2, o2, k2⟩ := mfault_ev (F := F) X hF
        obtain ⟨G, G24, G25, G81⟩ := k2 hz
        obtain ⟨h4, e4, o4, m4⟩ := mtake_ev (F := F) (h := h2) (Y := zYd tx m) (q := zrq (zR tx m).1) W hw hq G.1 G.2.1 G.2.2.1 G24 G25 G.2.2.2.1 G.2.2.2.2.1 G.2.2.2.2.2 G81 SWq Sq hF
        refine ⟨h4, ?_, ⟨fun a k q => ?_, ?_⟩, m4⟩
        · simp only [f_X8_yard, nm]
          rw [isText_yes hr, Ib, if_neg (by decide), ld_71 hr, Ib, X.2.2.1, if_pos (n_ge (by omega)), e2, Ib, hz, if_pos (show oI none = -9 from rfl)]
          exact e4
        · rw [o4.1 a k (fun z => by unfold sMy at z; rw [irr_iff] at q; omega), (Sm2.ofMd o2).1 a k q]
        · show h4.2.1 = h'.2.1
          rw [o4.2, o2.2]
  · refine alk_two (fun _ q => q) I (v := -1) ?_ ?_
    · simp only [f_X7_yard]
      rw [rm_no shf_txts hx, Ib, if_neg nz1]
    · simp only [f_X8_yard]
      rw [isText_no hx, Ib, i00]
end YARD2
