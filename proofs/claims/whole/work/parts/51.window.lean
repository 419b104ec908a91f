/-! window, near, path -/
theorem col_ev {y : Nat} {Y : YS} {h : Hp} {c : Nat} (H : gI h y 0 = nI (yw Y)) (hw : 0 < yw Y) (hw4 : yw Y ≤ 4) (hc : c < 2147483648) : f_X6_columnOf y (nI c) h = some (nI (c % yw Y)) := by
  unfold f_X6_columnOf
  rw [H, lit_0, i_le (by omega) (by decide), if_neg (by omega), rm_n hc hw (by omega)]
  rfl
section WINDOW
variable {B F : Nat} {h : Hp}
theorem allcol_ev {y s x : Nat} {Z : SS} (ci : CI y Z h) (W : YW (sY Z)) (hs : s < 20736) (hx : x < 2147483648) (hF : 4 < F) (hw : 0 < yw (sY Z)) : f_X7_allInColumn F (nI s) (nI x) h = some (bz (alN (yn (sY Z)) (fun i => decide (dg s i % yw (sY Z) = x)))) := by
  have hn := W.2.2.1
  unfold f_X7_allInColumn
  refine fix_inv (fun k z => z = nI k ∧ alN k (fun i => decide (dg s i % yw (sY Z) = x)) = true) (yn (sY Z)) ⟨rfl, rfl⟩ (by omega) ?_ ?_
  · rintro k z hk ⟨rfl, hz⟩ self hself
    have d12 := dg_lt s k
    have m1 : dg s k % yw (sY Z) ≤ dg s k := Nat.mod_le _ _
    simp only [ci.o, Ib, ci.n]
    rw [if_neg (nle_k (by omega) hk), cell_ev (by omega) (by omega), Ib, col_ev ci.w hw W.1 (by omega), Ib, i_eq (by omega) hx, n_add1]
    by_cases q : dg s k % yw (sY Z) = x
    · rw [if_pos q]
      exact hself _ ⟨rfl, by rw [alN_s, hz]; simpa using q⟩
    · rw [if_neg q, alN_no1 (k := k) (by simpa using q) hk]; rfl
  · rintro z ⟨rfl, hz⟩ self
    simp only [ci.o, Ib, ci.n]
    rw [if_pos (rf_le (by omega)), hz]; rfl
theorem alk_window {x : Int32} (I : Inv0 (PB B) h) (hB : B < 2000000000) (hF : 20736 < F) : Alk2 (PB B) (PB (B + 1)) (f_X7_window F x) (f_X8_window F x) h := by
  obtain ⟨y, Z, w, ci, mi, si⟩ := PB_oth.mp I.2.2.2
  have W := w.1
  have hn := W.2.2.1
  have hw4 := W.1
  have o16 := op16 W w.2.1.2.2.1
  have hmono : ∀ h, PB B h → PB (B + 1) h := fun _ q => q.mono (by omega)
  by_cases hx : inR x (yw (sY Z))
  · have hx0 := hx
    obtain ⟨c, hc, rfl⟩ := hx
    have inw : ∀ h', MI Z h' → f_X8_in (nI c) 0 (gI h' 66 9 - 1) h' = some 1 := fun h' mi' => by rw [mi'.my.2.1, (in_len (by omega)).1 hx0]
    by_cases q0 : yn (sY Z) = 0
    · refine alk_two hmono I (v := -4) ?_ ?_
      · unfold f_X7_window
        rw [i_neg (by omega), ci.o, Ib, ci.w, i_lt (by omega) (by omega), if_pos hc, Ib, ci.n, q0, if_pos (by decide)]
      · unfold f_X8_window
        rw [inw h mi, Ib, i10, mi.my.2.2.1, q0, if_pos (by decide)]
    · obtain ⟨h1, b1, G1, eo1⟩ := begin_ev si W w.2.1.1 hB hF
      obtain ⟨bk, -, hlen⟩ := bfin_ok (t := ct (sC Z)) (op := co (sC Z)) W w.2.1.1
      have wp := (yw_pos W (show 0 < yn (sY Z) by omega)).1
      have cb : ∀ (p : Nat) (e : Ent) (g : Hp) (self : Int32 × Hp → Option (Int32 × Hp)), SG (sY Z) (ct (sC Z)) (co (sC Z)) (cs (sC Z)) (B + 1) g → Eo sSe h1 g → LD p g → (bfin (sY Z) (ct (sC Z)) (co (sC Z)) (cs (sC Z)))[p]? = some e → (fun (p : Int32) (g : Hp) (self : Int32 × Hp → Option (Int32 × Hp)) => (f_X3_stand p g).bind fun v8 => (f_X7_allInColumn F v8 (nI c) g).bind fun v9 => if v9 = 0 then self (p + 1, g) else ((f_X3_depth p g).bind fun v10 => some (v10, g))) (nI p) g self = if (fun s => alN (yn (sY Z)) (fun i => decide (dg s i % yw (sY Z) = c))) e.1 = true then (fun p g => (f_X3_depth (nI p) g).bind fun v10 => some (v10, g)) p g else self (nI p + 1, g) := by
        intro p e g self Gg eo hld he
        have se := (bk.1 e (List.mem_of_getElem? he)).1
        have cig := (ci.ofSe eo1).ofSe eo
        simp only
        rw [stand_ev Gg W hld he, Ib, allcol_ev cig W se.1 (by omega) (by omega) wp, Ib, i_bz0]
      have mb : ∀ (h2 : Hp), MI Z h2 → ∀ (p : Nat) (e : Ent) (g : Hp) (self : Int32 × Hp → Option (Int32 × Hp)), ME (sY Z) (bfin (sY Z) (ct (sC Z)) (co (sC Z)) (cs (sC Z))) g → Eo s82 h2 g → LK (sY Z) e.1 g → (bfin (sY Z) (ct (sC Z)) (co (sC Z)) (cs (sC Z)))[p]? = some e → (fun (p : Int32) (g : Hp) (self : Int32 × Hp → Option (Int32 × Hp)) => fix (σ := Int32 × Int32) (ρ := (Int32 × Hp)) (fun self9 s8 => (if (gI g 66 10) ≤ s8.2 then (if s8.1 = 0 then self (p + 1, g) else ((ldI g 92 p).bind fun v11 => (ldI g 93 v11).bind fun v12 => some (v12, g))) else (Option.bind (α := Int32) (if s8.1 = 0 then some (0 : Int32) else ((ldI g 82 s8.2).bind fun v16 => (rmI v16 (gI g 66 9)).bind fun v17 => (if v17 = nI c then some (1 : Int32) else some (0 : Int32)))) fun t14 => self9 (t14, (s8.2 + 1))))) F ((1 : Int32), (0 : Int32))) (nI p) g self = if (fun s => alN (yn (sY Z)) (fun i => decide (dg s i % yw (sY Z) = c))) e.1 = true then (fun p g => (ldI g 92 (nI p)).bind fun v12 => (ldI g 93 v12).bind fun v13 => some (v13, g)) p g else self (nI p + 1, g) := by
        intro h2 mi2 p e g self me eo lk he
        have M := (mi2.of82 eo).my
        simp only
        refine fix_seq (fun k => (bz (alN k (fun i => decide (dg e.1 i % yw (sY Z) = c))), nI k)) (yn (sY Z)) rfl (fun k hk self9 => ?_) (fun self9 => ?_) (by omega)
        · have d12 := dg_lt e.1 k
          have m1 : dg e.1 k % yw (sY Z) ≤ dg e.1 k := Nat.mod_le _ _
          simp only [M.2.2.1]
          rw [if_neg (nle_k (by omega) hk), i_bz0, ld_82 (by omega), lk k hk, Ib, M.2.1, rm_n (by omega) wp (by omega), Ib, i_eq (by omega) (by omega), n_add1, alN_s]
          by_cases q1 : alN k (fun i => decide (dg e.1 i % yw (sY Z) = c)) = true
          · rw [if_pos q1, q1, Bool.true_and]
            by_cases q : dg e.1 k % yw (sY Z) = c
            · rw [if_pos q, decide_eq_true q]; rfl
            · rw [if_neg q, decide_eq_false q]; rfl
          · rw [if_neg q1, show alN k (fun i => decide (dg e.1 i % yw (sY Z) = c)) = false by simpa using q1, Bool.false_and]; rfl
        · simp only [M.2.2.1]
          rw [if_pos (rf_le (by omega)), i_bz0]
      rcases first_or (fun s => alN (yn (sY Z)) (fun i => decide (dg s i % yw (sY Z) = c))) (bfin (sY Z) (ct (sC Z)) (co (sC Z)) (cs (sC Z))) with ⟨p, e, he, hp, hno⟩ | hno
      · obtain ⟨g, Gg, eog, hld, hfix⟩ := cscan_y (N := -9) (BODY := (fun (p : Int32) (g : Hp) (self : Int32 × Hp → Option (Int32 × Hp)) => (f_X3_stand p g).bind fun v8 => (f_X7_allInColumn F v8 (nI c) g).bind fun v9 => if v9 = 0 then self (p + 1, g) else ((f_X3_depth p g).bind fun v10 => some (v10, g)))) (RES := (fun p g => (f_X3_depth (nI p) g).bind fun v10 => some (v10, g))) (P := fun s => alN (yn (sY Z)) (fun i => decide (dg s i % yw (sY Z) = c))) (ci.ofSe eo1).cx W o16 G1 cb he hp hno (F := F) (by omega)
        have se := (bk.1 e (List.mem_of_getElem? he)).1
        have c1 : cod (yn (sY Z)) e.1 < 20736 := Nat.lt_of_le_of_lt cod_le se.1
        have hpl := get_lt he
        have e3 := eo1.trans eog
        refine alk_coreZ I mi ⟨nI e.2.1, g, ?_, Sm1.ofSe e3, y, Z, w, ci.ofSe e3, Gg.si W, fun h' mi' => ?_⟩
        · unfold f_X7_window
          rw [i_neg (by omega), ci.o, Ib, ci.w, i_lt (by omega) (by omega), if_pos hc, Ib, ci.n, if_neg (n_nz (by omega) (by omega)), ci.now.1, b1, Ib]
          refine hfix.trans ?_
          show (f_X3_depth (nI p) g).bind _ = _
          rw [depth_ev Gg W hld he]; rfl
        · obtain ⟨h2, a1, a2, a3⟩ := layNow_ev mi' w hF
          obtain ⟨g2, eo2, hfix2⟩ := mscan_y (N := -9) (BODY := (fun (p : Int32) (g : Hp) (self : Int32 × Hp → Option (Int32 × Hp)) => fix (σ := Int32 × Int32) (ρ := (Int32 × Hp)) (fun self9 s8 => (if (gI g 66 10) ≤ s8.2 then (if s8.1 = 0 then self (p + 1, g) else ((ldI g 92 p).bind fun v11 => (ldI g 93 v11).bind fun v12 => some (v12, g))) else (Option.bind (α := Int32) (if s8.1 = 0 then some (0 : Int32) else ((ldI g 82 s8.2).bind fun v16 => (rmI v16 (gI g 66 9)).bind fun v17 => (if v17 = nI c then some (1 : Int32) else some (0 : Int32)))) fun t14 => self9 (t14, (s8.2 + 1))))) F ((1 : Int32), (0 : Int32)))) (RES := (fun p g => (ldI g 92 (nI p)).bind fun v12 => (ldI g 93 v12).bind fun v13 => some (v13, g))) (P := fun s => alN (yn (sY Z)) (fun i => decide (dg s i % yw (sY Z) = c))) (mi'.ofML a3).my W a2 (fun e he => (bk.1 e he).1) hlen (mb h2 (mi'.ofML a3)) he hp hno (F := F) (by omega)
          have me2 := a2.of82 eo2
          refine ⟨g2, ?_, Sm2.ofML (a3.trans (eo2.mono fun a k q => ?_)), (mi'.ofML a3).of82 eo2⟩
          · unfold f_X8_window
            rw [inw h' mi', Ib, i10, mi'.my.2.2.1, if_neg (n_nz (by omega) (by omega)), a1, Ib]
            refine hfix2.trans ?_
            show (ldI g2 92 (nI p)).bind _ = _
            rw [ld_92 (by omega), (me2.2.1 p e he).1, Ib, ld_93 c1, (me2.2.1 p e he).2.1]; rfl
          · unfold s82 at q; unfold sML; omega
      · obtain ⟨g, Gg, eog, hfix⟩ := cscan_n (N := -9) (BODY := (fun (p : Int32) (g : Hp) (self : Int32 × Hp → Option (Int32 × Hp)) => (f_X3_stand p g).bind fun v8 => (f_X7_allInColumn F v8 (nI c) g).bind fun v9 => if v9 = 0 then self (p + 1, g) else ((f_X3_depth p g).bind fun v10 => some (v10, g)))) (RES := (fun p g => (f_X3_depth (nI p) g).bind fun v10 => some (v10, g))) (P := fun s => alN (yn (sY Z)) (fun i => decide (dg s i % yw (sY Z) = c))) (ci.ofSe eo1).cx W o16 G1 cb hno (F := F) (by omega)
        have e3 := eo1.trans eog
        refine alk_coreZ I mi ⟨-9, g, ?_, Sm1.ofSe e3, y, Z, w, ci.ofSe e3, Gg.si W, fun h' mi' => ?_⟩
        · unfold f_X7_window
          rw [i_neg (by omega), ci.o, Ib, ci.w, i_lt (by omega) (by omega), if_pos hc, Ib, ci.n, if_neg (n_nz (by omega) (by omega)), ci.now.1, b1, Ib]
          exact hfix
        · obtain ⟨h2, a1, a2, a3⟩ := layNow_ev mi' w hF
          obtain ⟨g2, eo2, hfix2⟩ := mscan_n (N := -9) (BODY := (fun (p : Int32) (g : Hp) (self : Int32 × Hp → Option (Int32 × Hp)) => fix (σ := Int32 × Int32) (ρ := (Int32 × Hp)) (fun self9 s8 => (if (gI g 66 10) ≤ s8.2 then (if s8.1 = 0 then self (p + 1, g) else ((ldI g 92 p).bind fun v11 => (ldI g 93 v11).bind fun v12 => some (v12, g))) else (Option.bind (α := Int32) (if s8.1 = 0 then some (0 : Int32) else ((ldI g 82 s8.2).bind fun v16 => (rmI v16 (gI g 66 9)).bind fun v17 => (if v17 = nI c then some (1 : Int32) else some (0 : Int32)))) fun t14 => self9 (t14, (s8.2 + 1))))) F ((1 : Int32), (0 : Int32)))) (RES := (fun p g => (ldI g 92 (nI p)).bind fun v12 => (ldI g 93 v12).bind fun v13 => some (v13, g))) (P := fun s => alN (yn (sY Z)) (fun i => decide (dg s i % yw (sY Z) = c))) (mi'.ofML a3).my W a2 (fun e he => (bk.1 e he).1) hlen (mb h2 (mi'.ofML a3)) hno (F := F) (by omega)
          refine ⟨g2, ?_, Sm2.ofML (a3.trans (eo2.mono fun a k q => ?_)), (mi'.ofML a3).of82 eo2⟩
          · unfold f_X8_window
            rw [inw h' mi', Ib, i10, mi'.my.2.2.1, if_neg (n_nz (by omega) (by omega)), a1, Ib]
            exact hfix2
          · unfold s82 at q; unfold sML; omega
  · refine alk_two hmono I (v := -1) ?_ ?_
    · unfold f_X7_window
      by_cases q : x < 0
      · rw [if_pos q]
      · obtain ⟨j, hj, rfl⟩ := nI_of q
        rw [if_neg q, ci.o, Ib, ci.w, i_lt hj (by omega), if_neg (fun z => hx ⟨j, z, rfl⟩)]
    · unfold f_X8_window
      rw [mi.my.2.1, (in_len (by omega)).2 hx, Ib, i00]
end WINDOW
