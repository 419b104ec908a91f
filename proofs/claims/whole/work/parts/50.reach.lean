/-! reach, where, meet, window -/
theorem and_p0 {x k : Nat} : (x &&& 2 ^ k = 0) = (x.testBit k = false) := by
  apply propext
  constructor
  · intro h
    have := congrArg (fun z => z.testBit k) h
    simp only [Nat.testBit_and, tb_pow, Nat.zero_testBit, decide_true, Bool.and_true] at this
    exact this
  · intro h
    apply Nat.eq_of_testBit_eq
    intro j
    rw [Nat.testBit_and, tb_pow, Nat.zero_testBit]
    by_cases e : k = j
    · subst e; simp [h]
    · simp [e]
theorem or_same {x k : Nat} (h : x.testBit k = true) : x ||| 2 ^ k = x := by
  apply Nat.eq_of_testBit_eq
  intro j
  rw [tb_or, tb_pow]
  by_cases e : k = j
  · subst e; simp [h]
  · simp [e]
theorem hasb_ev {x k : Nat} {h : Hp} (hx : x < 2147483648) (hk : k < 32) : f_X8_has (nI x) (nI k) h = some (bz (x.testBit k)) := by
  unfold f_X8_has
  rw [i_tb1 hx hk]
  cases x.testBit k <;> rfl
section SCANOPS
variable {B F : Nat} {h : Hp}
theorem alk_reach (I : Inv0 (PB B) h) (hB : B < 2000000000) (hF : 20736 < F) : Alk2 (PB B) (PB (B + 1)) (f_X7_reach F) (f_X8_reach F) h := by
  obtain ⟨y, Z, w, ci, mi, si⟩ := PB_oth.mp I.2.2.2
  have W := w.1
  have hn := W.2.2.1
  have o16 := op16 W w.2.1.2.2.1
  by_cases q0 : yn (sY Z) = 0
  · refine alk_two (fun _ q => q.mono (by omega)) I (v := -4) ?_ ?_
    · unfold f_X7_reach
      rw [ci.o, Ib, ci.n, q0, if_pos (by decide)]
    · unfold f_X8_reach
      rw [mi.my.2.2.1, q0, if_pos (by decide)]
  · obtain ⟨h1, b1, G1, eo1⟩ := begin_ev si W w.2.1.1 hB hF
    have ci1 := ci.ofSe eo1
    obtain ⟨bk, -, hlen⟩ := bfin_ok (t := ct (sC Z)) (op := co (sC Z)) W w.2.1.1
    have hpos := get_lt bk.2.2.1
    obtain ⟨e, he⟩ := lt_get (show (bfin (sY Z) (ct (sC Z)) (co (sC Z)) (cs (sC Z))).length - 1 < (bfin (sY Z) (ct (sC Z)) (co (sC Z)) (cs (sC Z))).length by omega)
    have key : ∃ g, f_X7_reach F h = some (nI (bfin (sY Z) (ct (sC Z)) (co (sC Z)) (cs (sC Z))).length, sI g 0 14 (nI e.2.1)) ∧ SG (sY Z) (ct (sC Z)) (co (sC Z)) (cs (sC Z)) (B + 1) g ∧ Eo sSe h g := by
      unfold f_X7_reach
      rw [ci.o, Ib, ci.n, if_neg (n_nz (by omega) (by omega)), ci.now.1, b1, Ib]
      simp only [nm, jn]
      refine fix_post (fun r => ∃ g, r = some (nI (bfin (sY Z) (ct (sC Z)) (co (sC Z)) (cs (sC Z))).length, sI g 0 14 (nI e.2.1)) ∧ SG (sY Z) (ct (sC Z)) (co (sC Z)) (cs (sC Z)) (B + 1) g ∧ Eo sSe h g) (fun (k : Nat) (z : Int32 × Int32 × Hp) => z.1 = nI k ∧ z.2.1 = nI k ∧ SG (sY Z) (ct (sC Z)) (co (sC Z)) (cs (sC Z)) (B + 1) z.2.2 ∧ Eo sSe h z.2.2 ∧ ∀ j, j < k → LD j z.2.2) (bfin (sY Z) (ct (sC Z)) (co (sC Z)) (cs (sC Z))).length ?_ (by omega) ?_ ?_
      · exact ⟨rfl, rfl, G1, eo1, fun j hj => absurd hj (Nat.not_lt_zero j)⟩
      · rintro k ⟨z1, z2, g⟩ hk ⟨rfl, rfl, Gg, eo, hl⟩ self hself
        simp only at Gg eo hl ⊢
        obtain ⟨g2, f1, f2, f3, f4⟩ := finds_ev (ci.ofSe eo).cx W o16 Gg (show k < 11880 by omega) (F := F) (by omega)
        rw [lit_11880, if_neg (nle_k (by decide) (by omega)), f1, Ib, decide_eq_true hk]
        show ∃ g, (if bz true = 0 then _ else _) = _ ∧ _
        rw [i_bz0, if_pos rfl, n_add1]
        exact hself _ ⟨rfl, rfl, f3, eo.trans f2, fun j hj => f4 j (by omega) (by omega)⟩
      · rintro ⟨z1, z2, g⟩ ⟨rfl, rfl, Gg, eo, hl⟩ self
        simp only at Gg eo hl ⊢
        rw [lit_11880, i_le (by decide) (by omega), lit_1, pk_sub hpos]
        by_cases q : 11880 ≤ (bfin (sY Z) (ct (sC Z)) (co (sC Z)) (cs (sC Z))).length
        · rw [if_pos q, depth_ev Gg W (hl _ (by omega)) he, Ib]
          exact ⟨g, rfl, Gg, eo⟩
        · obtain ⟨g2, f1, f2, f3, f4⟩ := finds_ev (ci.ofSe eo).cx W o16 Gg (show (bfin (sY Z) (ct (sC Z)) (co (sC Z)) (cs (sC Z))).length < 11880 by omega) (F := F) (by omega)
          rw [if_neg q, f1, Ib, decide_eq_false (Nat.lt_irrefl _)]
          show ∃ g, (if bz false = 0 then _ else _) = _ ∧ _
          rw [i_bz0, if_neg (by decide), depth_ev f3 W (f4 _ (by omega) (by omega)) he, Ib]
          exact ⟨g2, rfl, f3, eo.trans f2⟩
    obtain ⟨g, k1, k2, k3⟩ := key
    refine alk_toldZ I mi ⟨_, _, g, k1, Sm1.ofSe k3, y, Z, w, ci.ofSe k3, k2.si W, fun h' mi' => ?_⟩
    obtain ⟨h2, a1, a2, a3⟩ := layNow_ev mi' w hF
    refine ⟨h2, ?_, Sm2.ofML a3, mi'.ofML a3⟩
    have c1 : cod (yn (sY Z)) e.1 < 20736 := Nat.lt_of_le_of_lt cod_le (bk.1 e (List.mem_of_getElem? he)).1.1
    unfold f_X8_reach f_X8_tells
    rw [mi'.my.2.2.1, if_neg (n_nz (by omega) (by omega)), a1, Ib, a2.1, lit_1, pk_sub hpos, ld_92 (by omega), (a2.2.1 _ e he).1, Ib, ld_93 c1, (a2.2.1 _ e he).2.1]
    rfl
def wsf (i : Nat) (a : Nat × Nat) (e : Ent) : Nat × Nat := if a.1.testBit (dg e.1 i) = true then a else (a.1 ||| 2 ^ dg e.1 i, e.2.1)
theorem wsf_n {i : Nat} {a : Nat × Nat} {e : Ent} (h : a.1.testBit (dg e.1 i) = false) : wsf i a e = (a.1 ||| 2 ^ dg e.1 i, e.2.1) := by
  unfold wsf
  rw [if_neg (by rw [h]; decide)]
theorem wsf_y {i : Nat} {a : Nat × Nat} {e : Ent} (h : a.1.testBit (dg e.1 i) = true) : wsf i a e = a := by
  unfold wsf
  rw [if_pos h]
theorem wsf_lt {i : Nat} : ∀ (E : List Ent) (a : Nat × Nat), a.1 < 4096 → (E.foldl (wsf i) a).1 < 4096
  | [], a, h => h
  | e :: E, a, h => by
    rw [List.foldl_cons]
    refine wsf_lt E _ ?_
    unfold wsf
    split
    · exact h
    · exact or_lt (k := 12) h (pow_lt (dg_lt _ _))
theorem alk_where {x : Int32} (I : Inv0 (PB B) h) (hB : B < 2000000000) (hF : 20736 < F) : Alk2 (PB B) (PB (B + 1)) (f_X7_where F x) (f_X8_where F x) h := by
  obtain ⟨y, Z, w, ci, mi, si⟩ := PB_oth.mp I.2.2.2
  have W := w.1
  have hn := W.2.2.1
  have o16 := op16 W w.2.1.2.2.1
  by_cases hx : inR x (yn (sY Z))
  · have hx0 := hx
    obtain ⟨i, hi, rfl⟩ := hx
    obtain ⟨h1, b1, G1, eo1⟩ := begin_ev si W w.2.1.1 hB hF
    obtain ⟨bk, -, hlen⟩ := bfin_ok (t := ct (sC Z)) (op := co (sC Z)) W w.2.1.1
    generalize hE : bfin (sY Z) (ct (sC Z)) (co (sC Z)) (cs (sC Z)) = E at *
    have hpos := get_lt bk.2.2.1
    have key : ∃ g, f_X7_where F (nI i) h = some (nI (E.foldl (wsf i) (0, 0)).1, sI g 0 14 (nI (E.foldl (wsf i) (0, 0)).2)) ∧ SG (sY Z) (ct (sC Z)) (co (sC Z)) (cs (sC Z)) (B + 1) g ∧ Eo sSe h g := by
      have endx : ∀ g, SG (sY Z) (ct (sC Z)) (co (sC Z)) (cs (sC Z)) (B + 1) g → Eo (fun a k => sSe a k ∨ a = 0 ∧ k = 14) h g → gI g 0 14 = nI (E.foldl (wsf i) (0, 0)).2 → ∃ g', some (nI (E.foldl (wsf i) (0, 0)).1, g) = some (nI (E.foldl (wsf i) (0, 0)).1, sI g' 0 14 (nI (E.foldl (wsf i) (0, 0)).2)) ∧ SG (sY Z) (ct (sC Z)) (co (sC Z)) (cs (sC Z)) (B + 1) g' ∧ Eo sSe h g' := by
        intro g Gg eo h14
        refine ⟨sI g 0 14 (gI h 0 14), by rw [sI_sI, sI_self h14], Gg.keep fun a k q => gI_ne (by omega), ⟨fun a k q => ?_, eo.2⟩⟩
        rw [gI_sI]
        by_cases z : a = 0 ∧ k = 14
        · rw [if_pos z, z.1, z.2]
        · rw [if_neg z]; exact eo.1 a k (fun z2 => z2.elim q z)
      unfold f_X7_where
      rw [cman_y ci W hx0, Ib, i10, ci.now.1, b1, Ib]
      simp only [nm]
      refine fix_post (fun r => ∃ g, r = some (nI (E.foldl (wsf i) (0, 0)).1, sI g 0 14 (nI (E.foldl (wsf i) (0, 0)).2)) ∧ SG (sY Z) (ct (sC Z)) (co (sC Z)) (cs (sC Z)) (B + 1) g ∧ Eo sSe h g) (fun (k : Nat) (z : Int32 × Int32 × Hp) => z.1 = nI ((E.take k).foldl (wsf i) (0, 0)).1 ∧ z.2.1 = nI k ∧ SG (sY Z) (ct (sC Z)) (co (sC Z)) (cs (sC Z)) (B + 1) z.2.2 ∧ Eo (fun a k => sSe a k ∨ a = 0 ∧ k = 14) h z.2.2 ∧ (0 < k → gI z.2.2 0 14 = nI ((E.take k).foldl (wsf i) (0, 0)).2)) E.length ?_ (by omega) ?_ ?_
      · exact ⟨rfl, rfl, G1, eo1.mono (fun a k q => Or.inl q), fun z => absurd z (by decide)⟩
      · rintro k ⟨z1, z2, g⟩ hk ⟨rfl, rfl, Gg, eo, h14⟩ self hself
        simp only at Gg eo h14 ⊢
        have Cg : CX y (sY Z) (ct (sC Z)) (co (sC Z)) g := ci.cx.keep eo (fun a k q => by unfold sSe at q; omega)
        obtain ⟨g2, f1, f2, f3, f4⟩ := finds_ev Cg W o16 Gg (show k < 11880 by omega) (F := F) (by omega)
        obtain ⟨e, he⟩ := lt_get hk
        have se := (bk.1 e (List.mem_of_getElem? he)).1
        have d12 := dg_lt e.1 i
        have a12 := wsf_lt (i := i) (E.take k) (0, 0) (by decide)
        have p12 : 2 ^ dg e.1 i < 4096 := pow_lt (n := 12) d12
        have he' : (bfin (sY Z) (ct (sC Z)) (co (sC Z)) (cs (sC Z)))[k]? = some e := by rw [hE]; exact he
        have hk' : k < (bfin (sY Z) (ct (sC Z)) (co (sC Z)) (cs (sC Z))).length := by rw [hE]; exact hk
        have hld := f4 k (Nat.le_refl _) hk'
        have tk : (E.take (k + 1)).foldl (wsf i) (0, 0) = wsf i ((E.take k).foldl (wsf i) (0, 0)) e := by rw [List.take_add_one, he, List.foldl_append]; rfl
        have eo2 : Eo (fun a k => sSe a k ∨ a = 0 ∧ k = 14) h g2 := eo.trans (f2.mono fun a k q => Or.inl q)
        rw [lit_11880, if_neg (nle_k (by decide) (by omega)), f1, Ib, decide_eq_true hk']
        show ∃ g, (if bz true = 0 then _ else _) = _ ∧ _
        rw [i_bz0, if_pos rfl, stand_ev f3 W hld he', Ib, cell_ev (by have := se.1; omega) (by omega), Ib, n_shl (by omega), n_and (by omega) (by omega), lit_0, i_eq (Nat.lt_of_le_of_lt Nat.and_le_left (by omega)) (by decide), depth_ev f3 W hld he', Ib, n_or (by omega) (by omega), n_add1]
        simp only [and_p0]
        by_cases q : ((E.take k).foldl (wsf i) (0, 0)).1.testBit (dg e.1 i) = false
        · rw [if_pos q, Ib]
          have tk2 : (E.take (k + 1)).foldl (wsf i) (0, 0) = (((E.take k).foldl (wsf i) (0, 0)).1 ||| 2 ^ dg e.1 i, e.2.1) := by
            rw [tk, wsf_n q]
          refine hself _ ⟨?_, rfl, f3.keep fun a k q => gI_ne (by omega), eo2.sI (Or.inr ⟨rfl, rfl⟩), fun _ => ?_⟩
          · rw [tk2]
          · rw [tk2]; exact gI_eq
        · have q' : ((E.take k).foldl (wsf i) (0, 0)).1.testBit (dg e.1 i) = true := by simpa using q
          rw [if_neg q, Ib]
          have tk2 : (E.take (k + 1)).foldl (wsf i) (0, 0) = (E.take k).foldl (wsf i) (0, 0) := by
            rw [tk, wsf_y q']
          have k0 : 0 < k := by
            rcases Nat.eq_zero_or_pos k with z | z
            · subst z
              simp at q'
            · exact z
          refine hself _ ⟨?_, rfl, f3, eo2, fun _ => ?_⟩
          · rw [tk2]
          · rw [tk2]
            show gI g2 0 14 = _
            rw [f2.1 0 14 (by unfold sSe; omega)]; exact h14 k0
      · rintro ⟨z1, z2, g⟩ ⟨rfl, rfl, Gg, eo, h14⟩ self
        simp only at Gg eo h14 ⊢
        rw [List.take_length] at h14 ⊢
        have h14' := h14 hpos
        rw [lit_11880, i_le (by decide) (by omega)]
        by_cases q : 11880 ≤ E.length
        · rw [if_pos q]
          exact endx g Gg eo h14'
        · have Cg : CX y (sY Z) (ct (sC Z)) (co (sC Z)) g := ci.cx.keep eo (fun a k q => by unfold sSe at q; omega)
          obtain ⟨g2, f1, f2, f3, f4⟩ := finds_ev Cg W o16 Gg (show E.length < 11880 by omega) (F := F) (by omega)
          rw [if_neg q, f1, Ib, hE, decide_eq_false (Nat.lt_irrefl _)]
          show ∃ g, (if bz false = 0 then _ else _) = _ ∧ _
          rw [i_bz0, if_neg (by decide)]
          exact endx g2 f3 (eo.trans (f2.mono fun a k q => Or.inl q)) (by rw [f2.1 0 14 (by unfold sSe; omega)]; exact h14')
    obtain ⟨g, k1, k2, k3⟩ := key
    refine alk_toldZ I mi ⟨_, _, g, k1, Sm1.ofSe k3, y, Z, w, ci.ofSe k3, k2.si W, fun h' mi' => ?_⟩
    obtain ⟨h2, a1, a2, a3⟩ := layNow_ev mi' w hF
    rw [hE] at a2
    have key2 : ∃ h3, f_X8_where F (nI i) h' = some (nI (E.foldl (wsf i) (0, 0)).1, sI h3 66 2 (nI (E.foldl (wsf i) (0, 0)).2)) ∧ Eo sML h' h3 := by
      unfold f_X8_where f_X8_tells
      rw [mman_y mi' W hx0, Ib, i10, a1, Ib]
      simp only [nm]
      refine fix_post (fun r => ∃ h3, r = some (nI (E.foldl (wsf i) (0, 0)).1, sI h3 66 2 (nI (E.foldl (wsf i) (0, 0)).2)) ∧ Eo sML h' h3) (fun (k : Nat) (z : Int32 × Int32 × Int32 × Hp) => z.1 = nI ((E.take k).foldl (wsf i) (0, 0)).1 ∧ z.2.1 = nI ((E.take k).foldl (wsf i) (0, 0)).2 ∧ z.2.2.1 = nI k ∧ Eo s82 h2 z.2.2.2) E.length ?_ (by omega) ?_ ?_
      · exact ⟨rfl, rfl, rfl, Eo.refl⟩
      · rintro k ⟨z1, z2, z3, g⟩ hk ⟨rfl, rfl, rfl, eo⟩ self hself
        simp only at eo ⊢
        obtain ⟨e, he⟩ := lt_get hk
        have se := (bk.1 e (List.mem_of_getElem? he)).1
        have me := a2.of82 eo
        have d12 := dg_lt e.1 i
        have a12 := wsf_lt (i := i) (E.take k) (0, 0) (by decide)
        have p12 : 2 ^ dg e.1 i < 4096 := pow_lt (n := 12) d12
        have c1 : cod (yn (sY Z)) e.1 < 20736 := Nat.lt_of_le_of_lt cod_le se.1
        obtain ⟨g2, l1, l2, l3⟩ := lookAt_ev ((mi'.ofML a3).my.keep eo (fun a k q => by unfold s82 at q; omega)) W se.1 (F := F) (by omega)
        have me2 := me.of82 l3
        have tk : (E.take (k + 1)).foldl (wsf i) (0, 0) = wsf i ((E.take k).foldl (wsf i) (0, 0)) e := by rw [List.take_add_one, he, List.foldl_append]; rfl
        rw [me.1, if_neg (nle_k (by omega) hk), ld_92 (by omega), (me.2.1 k e he).1, Ib, l1, Ib, ld_82 (by omega), l2 i hi, Ib, hasb_ev (by omega) (by omega), Ib, i_bz0, ld_92 (by omega), (me2.2.1 k e he).1, Ib, ld_93 c1, (me2.2.1 k e he).2.1, Ib, n_add1]
        by_cases q : ((E.take k).foldl (wsf i) (0, 0)).1.testBit (dg e.1 i) = true
        · rw [if_pos q, Ib, Ib, n_shl (by omega), n_or (by omega) (by omega), or_same q]
          have tk2 : (E.take (k + 1)).foldl (wsf i) (0, 0) = (E.take k).foldl (wsf i) (0, 0) := by
            rw [tk, wsf_y q]
          exact hself _ ⟨by rw [tk2], by rw [tk2], rfl, eo.trans l3⟩
        · rw [if_neg q, Ib, Ib, n_shl (by omega), n_or (by omega) (by omega)]
          have tk2 : (E.take (k + 1)).foldl (wsf i) (0, 0) = (((E.take k).foldl (wsf i) (0, 0)).1 ||| 2 ^ dg e.1 i, e.2.1) := by
            rw [tk, wsf_n (by simpa using q)]
          exact hself _ ⟨by rw [tk2], by rw [tk2], rfl, eo.trans l3⟩
      · rintro ⟨z1, z2, z3, g⟩ ⟨rfl, rfl, rfl, eo⟩ self
        simp only at eo ⊢
        rw [(a2.of82 eo).1, if_pos (rf_le (by omega)), List.take_length, Ib]
        exact ⟨g, rfl, a3.trans (eo.mono fun a k q => by unfold s82 at q; unfold sML; omega)⟩
    obtain ⟨h3, m1, m2⟩ := key2
    exact ⟨h3, m1, Sm2.ofML m2, mi'.ofML m2⟩
  · refine alk_two (fun _ q => q.mono (by omega)) I (v := -1) ?_ ?_
    · unfold f_X7_where
      rw [cman_n ci W hx, Ib, i00]
    · unfold f_X8_where
      rw [mman_n mi W hx, Ib, i00]
theorem alk_meet {x z : Int32} (I : Inv0 (PB B) h) (hB : B < 2000000000) (hF : 20736 < F) : Alk2 (PB B) (PB (B + 1)) (f_X7_meet F x z) (f_X8_meet F x z) h := by
  obtain ⟨y, Z, w, ci, mi, si⟩ := PB_oth.mp I.2.2.2
  have W := w.1
  have hn := W.2.2.1
  have o16 := op16 W w.2.1.2.2.1
  have hmono : ∀ h, PB B h → PB (B + 1) h := fun _ q => q.mono (by omega)
  by_cases hx : inR x (yn (sY Z))
  · by_cases hz : inR z (yn (sY Z))
    · by_cases hxz : x = z
      · refine alk_two hmono I (v := -1) ?_ ?_
        · unfold f_X7_meet
          rw [cman_y ci W hx, Ib, i10, cman_y ci W hz, Ib, i10, if_pos hxz]
        · unfold f_X8_meet
          rw [mman_y mi W hx, Ib, i10, mman_y mi W hz, Ib, i10, if_pos hxz]
      · have hx0 := hx
        have hz0 := hz
        obtain ⟨i, hi, rfl⟩ := hx
        obtain ⟨j, hj, rfl⟩ := hz
        obtain ⟨h1, b1, G1, eo1⟩ := begin_ev si W w.2.1.1 hB hF
        obtain ⟨bk, -, hlen⟩ := bfin_ok (t := ct (sC Z)) (op := co (sC Z)) W w.2.1.1
        have wp := (yw_pos W (show 0 < yn (sY Z) by omega)).1
        have dlt : ∀ s, dst (yw (sY Z)) (dg s i) (dg s j) < 100 := fun s => dst_lt (dg_lt _ _) (dg_lt _ _)
        have cb : ∀ (p : Nat) (e : Ent) (g : Hp) (self : Int32 × Hp → Option (Int32 × Hp)), SG (sY Z) (ct (sC Z)) (co (sC Z)) (cs (sC Z)) (B + 1) g → Eo sSe h1 g → LD p g → (bfin (sY Z) (ct (sC Z)) (co (sC Z)) (cs (sC Z)))[p]? = some e → (fun (p : Int32) (g : Hp) (self : Int32 × Hp → Option (Int32 × Hp)) => (f_X3_stand p g).bind fun v8 => (f_X7_apart v8 (nI i) (nI j) g).bind fun v9 => if v9 = (1 : Int32) then ((f_X3_depth p g).bind fun v10 => some (v10, g)) else self (p + 1, g)) (nI p) g self = if (fun s => decide (dst (yw (sY Z)) (dg s i) (dg s j) = 1)) e.1 = true then (fun p g => (f_X3_depth (nI p) g).bind fun v10 => some (v10, g)) p g else self (nI p + 1, g) := by
          intro p e g self Gg eo hld he
          have se := (bk.1 e (List.mem_of_getElem? he)).1
          have cig := (ci.ofSe eo1).ofSe eo
          have := dlt e.1
          simp only
          rw [stand_ev Gg W hld he, Ib, apart_ev cig.yc W cig.1 cig.2.1 (by have := se.1; omega) (by omega) (by omega) (se.2.2.1 i hi) (se.2.2.1 j hj), Ib, lit_1, i_eq (by omega) (by decide)]
          simp only [decide_eq_true_eq]
        have mb : ∀ (h2 : Hp), MI Z h2 → ∀ (p : Nat) (e : Ent) (g : Hp) (self : Int32 × Hp → Option (Int32 × Hp)), ME (sY Z) (bfin (sY Z) (ct (sC Z)) (co (sC Z)) (cs (sC Z))) g → Eo s82 h2 g → LK (sY Z) e.1 g → (bfin (sY Z) (ct (sC Z)) (co (sC Z)) (cs (sC Z)))[p]? = some e → (fun (p : Int32) (g : Hp) (self : Int32 × Hp → Option (Int32 × Hp)) => (ldI g 82 (nI i)).bind fun v9 => (ldI g 82 (nI j)).bind fun v10 => (f_X8_farIn v9 v10 (gI g 66 9) g).bind fun v11 => if v11 = (1 : Int32) then ((ldI g 92 p).bind fun v12 => (ldI g 93 v12).bind fun v13 => some (v13, g)) else self (p + 1, g)) (nI p) g self = if (fun s => decide (dst (yw (sY Z)) (dg s i) (dg s j) = 1)) e.1 = true then (fun p g => (ldI g 92 (nI p)).bind fun v12 => (ldI g 93 v12).bind fun v13 => some (v13, g)) p g else self (nI p + 1, g) := by
          intro h2 mi2 p e g self me eo lk he
          have := dlt e.1
          simp only
          rw [ld_82 (by omega), lk i hi, Ib, ld_82 (by omega), lk j hj, Ib, (mi2.of82 eo).my.2.1, farIn_ev (dg_lt _ _) (dg_lt _ _) wp W.1, Ib, lit_1, i_eq (by omega) (by decide)]
          simp only [decide_eq_true_eq]
        rcases first_or (fun s => decide (dst (yw (sY Z)) (dg s i) (dg s j) = 1)) (bfin (sY Z) (ct (sC Z)) (co (sC Z)) (cs (sC Z))) with ⟨p, e, he, hp, hno⟩ | hno
        · obtain ⟨g, Gg, eog, hld, hfix⟩ := cscan_y (N := -9) (BODY := (fun (p : Int32) (g : Hp) (self : Int32 × Hp → Option (Int32 × Hp)) => (f_X3_stand p g).bind fun v8 => (f_X7_apart v8 (nI i) (nI j) g).bind fun v9 => if v9 = (1 : Int32) then ((f_X3_depth p g).bind fun v10 => some (v10, g)) else self (p + 1, g))) (RES := (fun p g => (f_X3_depth (nI p) g).bind fun v10 => some (v10, g))) (P := fun s => decide (dst (yw (sY Z)) (dg s i) (dg s j) = 1)) (ci.ofSe eo1).cx W o16 G1 cb he hp hno (F := F) (by omega)
          have se := (bk.1 e (List.mem_of_getElem? he)).1
          have c1 : cod (yn (sY Z)) e.1 < 20736 := Nat.lt_of_le_of_lt cod_le se.1
          have hpl := get_lt he
          have e3 := eo1.trans eog
          refine alk_coreZ I mi ⟨nI e.2.1, g, ?_, Sm1.ofSe e3, y, Z, w, ci.ofSe e3, Gg.si W, fun h' mi' => ?_⟩
          · unfold f_X7_meet
            rw [cman_y ci W hx0, Ib, i10, cman_y ci W hz0, Ib, i10, if_neg hxz, ci.now.1, b1, Ib]
            refine hfix.trans ?_
            show (f_X3_depth (nI p) g).bind _ = _
            rw [depth_ev Gg W hld he]; rfl
          · obtain ⟨h2, a1, a2, a3⟩ := layNow_ev mi' w hF
            obtain ⟨g2, eo2, hfix2⟩ := mscan_y (N := -9) (BODY := (fun (p : Int32) (g : Hp) (self : Int32 × Hp → Option (Int32 × Hp)) => (ldI g 82 (nI i)).bind fun v9 => (ldI g 82 (nI j)).bind fun v10 => (f_X8_farIn v9 v10 (gI g 66 9) g).bind fun v11 => if v11 = (1 : Int32) then ((ldI g 92 p).bind fun v12 => (ldI g 93 v12).bind fun v13 => some (v13, g)) else self (p + 1, g))) (RES := (fun p g => (ldI g 92 (nI p)).bind fun v12 => (ldI g 93 v12).bind fun v13 => some (v13, g))) (P := fun s => decide (dst (yw (sY Z)) (dg s i) (dg s j) = 1)) (mi'.ofML a3).my W a2 (fun e he => (bk.1 e he).1) hlen (mb h2 (mi'.ofML a3)) he hp hno (F := F) (by omega)
            have me2 := a2.of82 eo2
            refine ⟨g2, ?_, Sm2.ofML (a3.trans (eo2.mono fun a k q => ?_)), (mi'.ofML a3).of82 eo2⟩
            · unfold f_X8_meet
              rw [mman_y mi' W hx0, Ib, i10, mman_y mi' W hz0, Ib, i10, if_neg hxz, a1, Ib]
              refine hfix2.trans ?_
              show (ldI g2 92 (nI p)).bind _ = _
              rw [ld_92 (by omega), (me2.2.1 p e he).1, Ib, ld_93 c1, (me2.2.1 p e he).2.1]; rfl
            · unfold s82 at q; unfold sML; omega
        · obtain ⟨g, Gg, eog, hfix⟩ := cscan_n (N := -9) (BODY := (fun (p : Int32) (g : Hp) (self : Int32 × Hp → Option (Int32 × Hp)) => (f_X3_stand p g).bind fun v8 => (f_X7_apart v8 (nI i) (nI j) g).bind fun v9 => if v9 = (1 : Int32) then ((f_X3_depth p g).bind fun v10 => some (v10, g)) else self (p + 1, g))) (RES := (fun p g => (f_X3_depth (nI p) g).bind fun v10 => some (v10, g))) (P := fun s => decide (dst (yw (sY Z)) (dg s i) (dg s j) = 1)) (ci.ofSe eo1).cx W o16 G1 cb hno (F := F) (by omega)
          have e3 := eo1.trans eog
          refine alk_coreZ I mi ⟨-9, g, ?_, Sm1.ofSe e3, y, Z, w, ci.ofSe e3, Gg.si W, fun h' mi' => ?_⟩
          · unfold f_X7_meet
            rw [cman_y ci W hx0, Ib, i10, cman_y ci W hz0, Ib, i10, if_neg hxz, ci.now.1, b1, Ib]
            exact hfix
          · obtain ⟨h2, a1, a2, a3⟩ := layNow_ev mi' w hF
            obtain ⟨g2, eo2, hfix2⟩ := mscan_n (N := -9) (BODY := (fun (p : Int32) (g : Hp) (self : Int32 × Hp → Option (Int32 × Hp)) => (ldI g 82 (nI i)).bind fun v9 => (ldI g 82 (nI j)).bind fun v10 => (f_X8_farIn v9 v10 (gI g 66 9) g).bind fun v11 => if v11 = (1 : Int32) then ((ldI g 92 p).bind fun v12 => (ldI g 93 v12).bind fun v13 => some (v13, g)) else self (p + 1, g))) (RES := (fun p g => (ldI g 92 (nI p)).bind fun v12 => (ldI g 93 v12).bind fun v13 => some (v13, g))) (P := fun s => decide (dst (yw (sY Z)) (dg s i) (dg s j) = 1)) (mi'.ofML a3).my W a2 (fun e he => (bk.1 e he).1) hlen (mb h2 (mi'.ofML a3)) hno (F := F) (by omega)
            refine ⟨g2, ?_, Sm2.ofML (a3.trans (eo2.mono fun a k q => ?_)), (mi'.ofML a3).of82 eo2⟩
            · unfold f_X8_meet
              rw [mman_y mi' W hx0, Ib, i10, mman_y mi' W hz0, Ib, i10, if_neg hxz, a1, Ib]
              exact hfix2
            · unfold s82 at q; unfold sML; omega
    · refine alk_two hmono I (v := -1) ?_ ?_
      · unfold f_X7_meet
        rw [cman_y ci W hx, Ib, i10, cman_n ci W hz, Ib, i00]
      · unfold f_X8_meet
        rw [mman_y mi W hx, Ib, i10, mman_n mi W hz, Ib, i00]
  · refine alk_two hmono I (v := -1) ?_ ?_
    · unfold f_X7_meet
      rw [cman_n ci W hx, Ib, i00]
    · unfold f_X8_meet
      rw [mman_n mi W hx, Ib, i00]
end SCANOPS
