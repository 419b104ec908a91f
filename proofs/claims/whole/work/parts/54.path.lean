/-! path -/
def mrw (E : List Ent) (p d r : Nat) (f : Nat → Int32) (k : Nat) : Nat → Int32 := fun j => if 40 * r + (40 - k) ≤ j ∧ j < 40 * r + 40 then (if j - 40 * r < d then nI (stp E p (d - 1 - (j - 40 * r))) else 0) else f j
section PATH
variable {B F : Nat} {h : Hp}
theorem mpath_loop {Y : YS} {s0 p r : Nat} {E : List Ent} {e : Ent} {v : Int32} (Q : ME Y E h) (bk : Bok Y s0 E) (W : YW Y) (he : E[p]? = some e) (hr : r < 6) (hd40 : e.2.1 ≤ 40) (hF : 11880 < F) : fix (σ := Int32 × Int32 × Hp) (ρ := (Int32 × Hp)) (fun self8 s7 => (if s7.2.1 < 0 then (some (v, s7.2.2)) else ((Option.bind (α := Int32) ((if nI e.2.1 ≤ s7.2.1 then (some (0 : Int32)) else ((ldI s7.2.2 95 s7.1).bind fun v12 => some v12))) fun t10 => (stI s7.2.2 69 (((40 : Int32) * nI r) + s7.2.1) t10).bind fun h14 => (Option.bind (α := Int32) ((if nI e.2.1 ≤ s7.2.1 then (some s7.1) else ((ldI h14 94 s7.1).bind fun v17 => some v17))) fun t15 => self8 (t15, (s7.2.1 + (-1)), h14)))))) F (nI (cod (yn Y) e.1), (39 : Int32), h) = some (v, sA h 69 (mrw E p e.2.1 r (gI h 69) 40)) := by
  have hlen := bk.len W
  have hd := bk.dep p e he
  have hp := get_lt he
  refine fix_inv (fun k z => z.2.1 = zI (39 - (k : Int)) ∧ z.2.2 = sA h 69 (mrw E p e.2.1 r (gI h 69) k) ∧ ∃ ek, E[upE E p (k - (40 - e.2.1))]? = some ek ∧ z.1 = nI (cod (yn Y) ek.1)) 40 ⟨rfl, ?_, e, ?_, rfl⟩ (by omega) ?_ ?_
  · refine (sA_self fun j => ?_).symm
    unfold mrw
    rw [if_neg (by omega)]
  · rw [Nat.zero_sub]; exact he
  · rintro k ⟨z1, z2, z3⟩ hk ⟨rfl, rfl, ek, u2, rfl⟩ self hself
    have e1 : zI (39 - (k : Int)) = nI (39 - k) := by rw [zn]; congr 1; omega
    have e2 : nI (39 - k) + -1 = zI (39 - ((k + 1 : Nat) : Int)) := by
      rw [zn, z_m1, z_add]
      congr 1
      omega
    have c1 : cod (yn Y) ek.1 < 20736 := Nat.lt_of_le_of_lt cod_le (bk.1 ek (List.mem_of_getElem? u2)).1.1
    simp only
    rw [e1, i_neg (by omega), i_le (by omega) (by omega), lit_40, pk_mul, nI_add, e2]
    by_cases q : e.2.1 ≤ 39 - k
    · rw [if_pos q, Ib, st_69 (by omega), Ib, i_le (by omega) (by omega), if_pos q, Ib, sI_sA]
      refine hself _ ⟨rfl, ?_, ek, ?_, rfl⟩
      · show sA h 69 _ = sA h 69 _
        congr 1
        funext j
        unfold upd mrw
        by_cases z : j = 40 * r + (39 - k)
        · rw [if_pos z, if_pos (by omega), if_neg (by omega)]
        · rw [if_neg z]
          by_cases z2 : 40 * r + (40 - k) ≤ j ∧ j < 40 * r + 40
          · rw [if_pos z2, if_pos (show 40 * r + (40 - (k + 1)) ≤ j ∧ j < 40 * r + 40 by omega)]
          · rw [if_neg z2, if_neg (by omega)]
      · rw [show k + 1 - (40 - e.2.1) = k - (40 - e.2.1) by omega]; exact u2
    · obtain ⟨u1, ek', u2', u3, u4⟩ := up_ok bk he (k - (40 - e.2.1)) (by omega)
      rw [u2] at u2'
      cases u2'
      obtain ⟨q1, q2, q3⟩ := Q.2.1 _ ek u2
      obtain ⟨q4, o, q5, q6⟩ := q3 (u4 (by omega))
      rw [if_neg q, ld_95 c1, gAj_ne (by decide), q4, Ib, Ib, st_69 (by omega), Ib, i_le (by omega) (by omega), if_neg q, sI_sA, ld_94 c1, gAj_ne (by decide), q6, Ib, Ib]
      refine hself _ ⟨rfl, ?_, o, ?_, rfl⟩
      · show sA h 69 _ = sA h 69 _
        congr 1
        funext j
        unfold upd mrw
        by_cases z : j = 40 * r + (39 - k)
        · rw [if_pos z, if_pos (by omega), if_pos (by omega), z, show e.2.1 - 1 - (40 * r + (39 - k) - 40 * r) = k - (40 - e.2.1) by omega]
          unfold stp
          rw [ent_g u2]
        · rw [if_neg z]
          by_cases z2 : 40 * r + (40 - k) ≤ j ∧ j < 40 * r + 40
          · rw [if_pos z2, if_pos (show 40 * r + (40 - (k + 1)) ≤ j ∧ j < 40 * r + 40 by omega)]
          · rw [if_neg z2, if_neg (by omega)]
      · rw [show k + 1 - (40 - e.2.1) = (k - (40 - e.2.1)) + 1 by omega]
        show E[(ent E (upE E p (k - (40 - e.2.1)))).2.2.1]? = some o
        rw [ent_g u2]; exact q5
  · rintro ⟨z1, z2, z3⟩ ⟨rfl, rfl, ek, u2, rfl⟩ self
    simp only
    rw [if_pos (by decide)]
theorem alk_path {x z : Int32} (I : Inv0 (PB B) h) (hB : B < 2000000000) (hF : 20736 < F) : Alk2 (PB B) (PB (B + 1)) (f_X7_path F x z) (f_X8_path F x z) h := by
  obtain ⟨y, Z, w, ci, mi, si⟩ := PB_oth.mp I.2.2.2
  have W := w.1
  have hn := W.2.2.1
  have hmono : ∀ h, PB B h → PB (B + 1) h := fun _ q => q.mono (by omega)
  by_cases hz : inR z 6
  · obtain ⟨r2, hr2, rfl⟩ := hz
    by_cases hx : inR x 6
    · obtain ⟨r, hr, rfl⟩ := hx
      by_cases q0 : yn (sY Z) = 0
      · refine alk_two hmono I (v := -4) ?_ ?_
        · unfold f_X7_path f_X7_refusedAim
          rw [rwm_st ci hr hr2 q0, Ib, if_neg nz4, Ib, if_neg nz4]
        · unfold f_X8_path f_X8_needWanted
          rw [isRow_yes hr2, Ib, i10, isRow_yes hr, Ib, i10, mi.my.2.2.1, q0, if_pos (by decide), Ib, if_neg n4_le]
      · obtain ⟨i1, i2, i3⟩ := I.1 r hr
        rcases i2 with i2 | ⟨m, hm, i2⟩
        · refine (alk_as I (f := 1) (by decide) ?_ (fun h' hh => ?_)).to hmono
          · unfold f_X7_path f_X7_refusedAim
            rw [rwm_no ci W hr hr2 q0 i2, found_n (by decide), Ib, if_neg nz3, Ib, if_neg nz3]
          · unfold f_X8_path f_X8_needWanted
            rw [isRow_yes hr2, Ib, i10, isRow_yes hr, Ib, i10, hh 66 (by decide), mi.my.2.2.1, if_neg (n_nz (by omega) (by omega)), ld_68 hr, Ib, hh 68 (by decide), ← i1, i2, if_neg m1_neg, bindself, lit_1, meets_n (by decide), Ib, if_neg n3_le]
        · by_cases hs : m = yn (sY Z)
          · subst hs
            by_cases hok : ∀ i, i < yn (sY Z) → okA (ycl (sY Z)) (gI h (3 + r) i)
            · obtain ⟨g, Gg, eog, hcase⟩ := firstC ci w si hr i2 hB hF
              have rows : ∀ h', (∀ a k, 66 ≤ a → gI h' a k = gI h a k) → gI h' 68 r = nI (yn (sY Z)) ∧ ∀ i, i < yn (sY Z) → gI h' 69 (40 * r + i) = gI h (3 + r) i := fun h' hh => ⟨by rw [hh 68 r (by decide), ← i1]; exact i2, fun i hi => by rw [hh 69 _ (by decide)]; exact (i3 i (by omega)).symm⟩
              rcases hcase with ⟨p, e, he, hp, hno, hld, hfl⟩ | ⟨hno, hfl⟩
              · obtain ⟨bk, -, hlen⟩ := bfin_ok (t := ct (sC Z)) (op := co (sC Z)) W w.2.1.1
                have se := (bk.1 e (List.mem_of_getElem? he)).1
                have c1 : cod (yn (sY Z)) e.1 < 20736 := Nat.lt_of_le_of_lt cod_le se.1
                have hpl := get_lt he
                have hdp := bk.dep p e he
                by_cases h40 : e.2.1 ≤ 40
                · refine alk_rowsR I mi ⟨nI e.2.1, r2, e.2.1, g, trw (bfin (sY Z) (ct (sC Z)) (co (sC Z)) (cs (sC Z))) p e.2.1 (gI (sA (sI g 9 r2 (nI e.2.1)) (3 + r2) (fil (gI g (3 + r2)) 0 40 0)) (3 + r2)) e.2.1, hr2, h40, ?_, Sm1.ofSe eog, y, Z, w, ci.ofSe eog, Gg.si W, fun h' mi' hh => ?_⟩
                  · unfold f_X7_path
                    rw [aim_ok ci W hr hr2 q0 i2 hok (by omega), Ib, if_pos rfl, hfl, Ib, i_m9 (by omega), depth_ev Gg W hld he, Ib, lit_40, i_le (by omega) (by decide), if_pos h40, Ib, make_yes shf_rows hr2 h40 (by omega), Ib]
                    have Gk : SG (sY Z) (ct (sC Z)) (co (sC Z)) (cs (sC Z)) (B + 1) (sA (sI g 9 r2 (nI e.2.1)) (3 + r2) (fil (gI g (3 + r2)) 0 40 0)) := Gg.keep fun a k q => by rw [gAj_ne (by omega), gI_ne (by omega)]
                    have Lk : LD p (sA (sI g 9 r2 (nI e.2.1)) (3 + r2) (fil (gI g (3 + r2)) 0 40 0)) := hld.keep (by rw [gAj_ne (by omega), gI_ne (by omega)])
                    obtain ⟨v, hv⟩ := trace_to Gk W Lk he hr2 (by rw [gAj_ne (by omega), gI_eq]) h40 (F := F) (by omega)
                    rw [hv, Ib, sA_sA]
                  · obtain ⟨r1, r3⟩ := rows h' hh
                    obtain ⟨h2, a1, a2, a3, a4⟩ := needW_ok mi' w hr q0 r1 (fun i hi => by rw [r3 i hi]; exact hok i hi) hF
                    obtain ⟨g2, f1, f2⟩ := firstM_y (v := gI h (3 + r)) (mi'.ofMW a3) w a2 (fun i hi => (a4 i hi).trans (r3 i hi)) he hp hno hF
                    have me2 := a2.of82 f2
                    have eo3 : Eo sMW h' g2 := a3.trans (f2.mono fun a k q => Or.inl (Or.inl q))
                    refine ⟨g2, mrw (bfin (sY Z) (ct (sC Z)) (co (sC Z)) (cs (sC Z))) p e.2.1 r2 (gI (sI g2 68 r2 (nI e.2.1)) 69) 40, ?_, Sm2.ofMW eo3, mi'.ofMW eo3, fun i hi => ?_, fun j hj hno2 => ?_⟩
                    · unfold f_X8_path
                      rw [isRow_yes hr2, Ib, a1, Ib, if_pos (show (0 : Int32) ≤ 0 by decide), f1, Ib, i_m9 (by omega), ld_93 c1, (me2.2.1 p e he).2.1, Ib, lit_40, i_le (by omega) (by decide), if_pos h40, Ib, st_68 hr2, Ib]
                      exact mpath_loop (me2.keep fun a k q => gI_ne (by omega)) bk W he hr2 h40 (by omega)
                    · unfold mrw trw
                      rw [if_pos (by omega), show 40 * r2 + i - 40 * r2 = i by omega]
                      by_cases z : i < e.2.1
                      · rw [if_pos z, if_pos (by omega)]
                      · rw [if_neg z, if_neg (by omega), gAj_eq]
                        unfold fil
                        rw [if_pos (by omega)]
                    · unfold mrw
                      rw [if_neg (by omega), gI_ne (by decide)]
                · refine alk_coreR I mi ⟨-9, g, ?_, Sm1.ofSe eog, y, Z, w, ci.ofSe eog, Gg.si W, fun h' mi' hh => ?_⟩
                  · unfold f_X7_path
                    rw [aim_ok ci W hr hr2 q0 i2 hok (by omega), Ib, if_pos rfl, hfl, Ib, i_m9 (by omega), depth_ev Gg W hld he, Ib, lit_40, i_le (by omega) (by decide), if_neg h40]
                  · obtain ⟨r1, r3⟩ := rows h' hh
                    obtain ⟨h2, a1, a2, a3, a4⟩ := needW_ok mi' w hr q0 r1 (fun i hi => by rw [r3 i hi]; exact hok i hi) hF
                    obtain ⟨g2, f1, f2⟩ := firstM_y (v := gI h (3 + r)) (mi'.ofMW a3) w a2 (fun i hi => (a4 i hi).trans (r3 i hi)) he hp hno hF
                    have me2 := a2.of82 f2
                    have eo3 : Eo sMW h' g2 := a3.trans (f2.mono fun a k q => Or.inl (Or.inl q))
                    refine ⟨g2, ?_, Sm2.ofMW eo3, mi'.ofMW eo3⟩
                    unfold f_X8_path
                    rw [isRow_yes hr2, Ib, a1, Ib, if_pos (show (0 : Int32) ≤ 0 by decide), f1, Ib, i_m9 (by omega), ld_93 c1, (me2.2.1 p e he).2.1, Ib, lit_40, i_le (by omega) (by decide), if_neg h40]
              · refine alk_coreR I mi ⟨-9, g, ?_, Sm1.ofSe eog, y, Z, w, ci.ofSe eog, Gg.si W, fun h' mi' hh => ?_⟩
                · unfold f_X7_path
                  rw [aim_ok ci W hr hr2 q0 i2 hok (by omega), Ib, if_pos rfl, hfl, Ib, if_pos rfl]
                · obtain ⟨r1, r3⟩ := rows h' hh
                  obtain ⟨h2, a1, a2, a3, a4⟩ := needW_ok mi' w hr q0 r1 (fun i hi => by rw [r3 i hi]; exact hok i hi) hF
                  obtain ⟨g2, f1, f2⟩ := firstM_n (v := gI h (3 + r)) (mi'.ofMW a3) w a2 (fun i hi => (a4 i hi).trans (r3 i hi)) hno hF
                  have eo3 : Eo sMW h' g2 := a3.trans (f2.mono fun a k q => Or.inl (Or.inl q))
                  refine ⟨g2, ?_, Sm2.ofMW eo3, mi'.ofMW eo3⟩
                  unfold f_X8_path
                  rw [isRow_yes hr2, Ib, a1, Ib, if_pos (show (0 : Int32) ≤ 0 by decide), f1, Ib, if_pos rfl]
            · refine (alk_as I (f := 3) (by decide) ?_ (fun h' hh => ?_)).to hmono
              · unfold f_X7_path
                rw [aim_no ci W hr hr2 q0 i2 hok (by omega), found_n (by decide), Ib, if_neg nz3]
              · have mi' : MI Z h' := mi.keep fun a k q => by rw [hh a (by unfold cM at q; omega)]
                unfold f_X8_path
                rw [isRow_yes hr2, Ib, needW_no mi' W hr q0 (by rw [hh 68 (by decide), ← i1]; exact i2) (fun z => hok fun i hi => by have := z i hi; rw [hh 69 (by decide), ← i3 i (by omega)] at this; exact this) (by omega), meets_n (by decide), Ib, if_neg n3_le]
          · refine (alk_as I (f := 5) (by decide) ?_ (fun h' hh => ?_)).to hmono
            · unfold f_X7_path
              rw [aim_sz ci W hr hr2 q0 hm i2 hs, found_n (by decide), Ib, if_neg nz3]
            · have mi' : MI Z h' := mi.keep fun a k q => by rw [hh a (by unfold cM at q; omega)]
              unfold f_X8_path
              rw [isRow_yes hr2, Ib, needW_sz mi' W hr q0 hm (by rw [hh 68 (by decide), ← i1]; exact i2) hs, meets_n (by decide), Ib, if_neg n3_le]
    · refine alk_two hmono I (v := -1) ?_ ?_
      · unfold f_X7_path f_X7_refusedAim
        rw [rwm_bad (Or.inl hx), Ib, if_neg nz1, Ib, if_neg nz1]
      · unfold f_X8_path f_X8_needWanted
        rw [isRow_yes hr2, Ib, i10, isRow_no hx, Ib, i00, Ib, if_neg m1_neg]
  · refine alk_two hmono I (v := -1) ?_ ?_
    · unfold f_X7_path f_X7_refusedAim
      rw [rwm_bad (Or.inr hz), Ib, if_neg nz1, Ib, if_neg nz1]
    · unfold f_X8_path f_X8_needWanted
      rw [isRow_no hz, Ib, i00, Ib, if_neg m1_neg]
end PATH
