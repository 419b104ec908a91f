/-! mark, count, upper, lower -/
theorem in15_y {q : Nat} {h : Hp} (h0 : 0 < q) (h6 : q < 6) : f_X8_in (nI q) 1 5 h = some 1 := by
  unfold f_X8_in
  rw [lit_1, lit_5, i_lt (by omega) (by decide), if_neg (by omega), i_lt (by decide) (by omega), if_neg (by omega)]
  rfl
theorem in15_n {x : Int32} {h : Hp} (hx : ¬ ∃ q : Nat, 0 < q ∧ q < 6 ∧ x = nI q) : f_X8_in x 1 5 h = some 0 := by
  unfold f_X8_in
  by_cases q : x < 0
  · rw [if_pos]
    · rfl
    · have h1 := Int32.lt_iff_toInt_lt.mp q
      rw [Int32.lt_iff_toInt_lt]
      rw [Int32.toInt_zero] at h1
      have : (1 : Int32).toInt = 1 := by decide
      omega
  · obtain ⟨j, hj, rfl⟩ := nI_of q
    rw [lit_1, lit_5, i_lt (by omega) (by decide)]
    by_cases q1 : j < 1
    · rw [if_pos q1]; rfl
    · rw [if_neg q1, i_lt (by decide) (by omega), if_pos]
      · rfl
      · rcases Nat.lt_or_ge j 6 with z | z
        · exact absurd ⟨j, by omega, z, rfl⟩ hx
        · omega
theorem c15_y {α : Type} {q : Nat} {a b : α} (h0 : 0 < q) (h6 : q < 6) : (if nI q ≤ 0 then a else if nI q < 6 then b else a) = b := by
  rw [lit_0, i_le (by omega) (by decide), if_neg (by omega), lit_6, i_lt (by omega) (by decide), if_pos h6]
theorem c15_n {α : Type} {x : Int32} {a b : α} (hx : ¬ ∃ q : Nat, 0 < q ∧ q < 6 ∧ x = nI q) : (if x ≤ 0 then a else if x < 6 then b else a) = a := by
  by_cases q : x ≤ 0
  · rw [if_pos q]
  · have q0 : ¬ x < 0 := fun z => q (Int32.le_of_lt z)
    obtain ⟨j, hj, rfl⟩ := nI_of q0
    rw [lit_0, n_le hj (by decide)] at q
    rw [if_neg (by rw [lit_0, n_le hj (by decide)]; exact q), lit_6, i_lt hj (by decide), if_neg (fun z => hx ⟨j, by omega, z, rfl⟩)]
theorem mk_ev {α : Type} {k q : Nat} {J N : α} (hk : k < 6) (h0 : 0 < q) (h6 : q < 6) : (if nI k = nI q then J else if nI q = 2 then (if nI k = 4 then J else (if nI q = 3 then (if nI k = 5 then J else N) else N)) else (if nI q = 3 then (if nI k = 5 then J else N) else N)) = if isk k q = true then J else N := by
  rw [lit_2, lit_3, lit_4, lit_5]
  rw [i_eq (by omega) (by omega), i_eq (by omega) (by omega), i_eq (by omega) (by omega), i_eq (by omega) (by omega), i_eq (by omega) (by omega)]
  unfold isk
  rcases Classical.propComplete (k = q) with q1 | q1 <;> rcases Classical.propComplete (q = 2) with q2 | q2 <;> rcases Classical.propComplete (k = 4) with q3 | q3 <;> rcases Classical.propComplete (q = 3) with q4 | q4 <;> rcases Classical.propComplete (k = 5) with q5 | q5 <;> simp [q1, q2, q3, q4, q5]
section OPSB
variable {B F : Nat} {h : Hp}
def mkv (Z : SS) (i q : Nat) : Int32 := if q = 1 then nI (slv (yn (sY Z)) (yc (sY Z)) i (clo (co (sC Z)) (yc (sY Z))) (knm (sY Z) 2)).length else if q = 2 then nI (slv (yn (sY Z)) (yc (sY Z)) i (clo (co (sC Z)) (yc (sY Z))) (knm (sY Z) 1)).length else if q = 3 then nI (pcn (wys (sY Z) (ct (sC Z)) (co (sC Z)) (cs (sC Z)) i)) else if q = 4 then nI (cnt (fun j => decide (2 < dst (yw (sY Z)) (dg (cs (sC Z)) i) (dg (cs (sC Z)) j))) (yn (sY Z))) else oI (lrk (sY Z) i (yc (sY Z)))
theorem alk_mark {x z : Int32} (I : Inv0 (PB B) h) (hF : 60 < F) : Alk2 (PB B) (PB B) (f_X7_mark F x z) (f_X8_mark F x z) h := by
  obtain ⟨y, Z, w, ci, mi, si⟩ := PB_oth.mp I.2.2.2
  have W := w.1
  have hn := W.2.2.1
  by_cases hi : inR x (yn (sY Z))
  · obtain ⟨i, hi, rfl⟩ := hi
    have k6 := W.2.2.2.2.2.1 i hi
    by_cases hq : ∃ q : Nat, 0 < q ∧ q < 6 ∧ z = nI q
    · obtain ⟨q, h0, h6, rfl⟩ := hq
      by_cases qk : isk (yk (sY Z) i) q = true
      · refine alk_coreZ I mi ⟨mkv Z i q, h, ?_, Sm1.refl, y, Z, w, ci, si, fun h' mi' => ?_⟩
        · unfold f_X7_mark
          rw [cman_y ci W ⟨i, hi, rfl⟩, Ib, i10, c15_y h0 h6, ci.o, Ib, is_ev ci w hi h6 h0 (by omega), Ib, i_bz0, if_pos qk]
          have : q = 1 ∨ q = 2 ∨ q = 3 ∨ q = 4 ∨ q = 5 := by omega
          rcases this with rfl | rfl | rfl | rfl | rfl
          · rw [if_pos (by decide), lit_2, cto_ev ci w hi (by decide) (by omega)]; rfl
          · rw [if_neg (by decide), if_pos (by decide), lit_1, cto_ev ci w hi (by decide) (by omega)]; rfl
          · have b16 : wys (sY Z) (ct (sC Z)) (co (sC Z)) (cs (sC Z)) i < 16 := bts_lt _ 4
            rw [if_neg (by decide), if_neg (by decide), if_pos (by decide), cways_ev ci w hi (by omega), Ib, bitc_ev (by omega)]; rfl
          · rw [if_neg (by decide), if_neg (by decide), if_neg (by decide), if_pos (by decide), cfar_ev ci w hi (by omega)]; rfl
          · rw [if_neg (by decide), if_neg (by decide), if_neg (by decide), if_neg (by decide), clr_ev ci w hi (by omega)]; rfl
        · have pre : ∀ (J : Option (Int32 × Hp)), (if nI q = 1 then ((f_X8_chainedTo F (nI i) 2 h').bind fun v8 => some (v8, h')) else if nI q = 2 then ((f_X8_chainedTo F (nI i) 1 h').bind fun v10 => some (v10, h')) else if nI q = 3 then ((f_X8_waysOf F (nI i) h').bind fun v12 => (f_X8_bits F v12.1 v12.2).bind fun v13 => some (v13, v12.2)) else if nI q = 4 then ((f_X8_farFrom F (nI i) h').bind fun v15 => some (v15, h')) else ((f_X8_leastReach F (nI i) h').bind fun v16 => some (v16, h'))) = J → f_X8_mark F (nI i) (nI q) h' = J := by
            intro J hJ
            unfold f_X8_mark
            simp only [jn]
            rw [mman_y mi' W ⟨i, hi, rfl⟩, Ib, i10, in15_y h0 h6, Ib, i10, ld_74 (by omega), mi'.my.2.2.2.2.2.1 i hi, Ib, mk_ev k6 h0 h6, if_pos qk]
            exact hJ
          have : q = 1 ∨ q = 2 ∨ q = 3 ∨ q = 4 ∨ q = 5 := by omega
          rcases this with rfl | rfl | rfl | rfl | rfl
          · refine ⟨h', pre _ ?_, Sm2.refl, mi'⟩
            rw [if_pos (by decide), lit_2, mto_ev mi' w hi (by decide) (by omega), ← to_eq w hi]; rfl
          · refine ⟨h', pre _ ?_, Sm2.refl, mi'⟩
            rw [if_neg (by decide), if_pos (by decide), lit_1, mto_ev mi' w hi (by decide) (by omega), ← to_eq w hi]; rfl
          · obtain ⟨h2, e1, e2⟩ := mways_ev mi' w hi (F := F) (by omega)
            have b16 : wys (sY Z) (ct (sC Z)) (co (sC Z)) (cs (sC Z)) i < 16 := bts_lt _ 4
            refine ⟨h2, pre _ ?_, Sm2.ofS e2, mi'.ofS e2⟩
            rw [if_neg (by decide), if_neg (by decide), if_pos (by decide), e1, Ib, bits_ev (by omega) (by omega)]; rfl
          · refine ⟨h', pre _ ?_, Sm2.refl, mi'⟩
            rw [if_neg (by decide), if_neg (by decide), if_neg (by decide), if_pos (by decide), mfar_ev mi' w hi (by omega)]; rfl
          · refine ⟨h', pre _ ?_, Sm2.refl, mi'⟩
            rw [if_neg (by decide), if_neg (by decide), if_neg (by decide), if_neg (by decide), mlr_ev mi' w hi (by omega)]; rfl
      · refine (alk_as I (f := 3) (by decide) ?_ (fun h' hh => ?_)).two
        · unfold f_X7_mark
          rw [cman_y ci W ⟨i, hi, rfl⟩, Ib, i10, c15_y h0 h6, ci.o, Ib, is_ev ci w hi h6 h0 (by omega), Ib, i_bz0, if_neg qk, bindself]; rfl
        · have mi' : MI Z h' := mi.keep fun a k q => by rw [hh a (by unfold cM at q; omega)]
          unfold f_X8_mark
          simp only [jn]
          rw [mman_y mi' W ⟨i, hi, rfl⟩, Ib, i10, in15_y h0 h6, Ib, i10, ld_74 (by omega), mi'.my.2.2.2.2.2.1 i hi, Ib, mk_ev k6 h0 h6, if_neg qk, bindself]; rfl
    · refine alk_two (fun _ q => q) I (v := -1) ?_ ?_
      · unfold f_X7_mark
        rw [cman_y ci W ⟨i, hi, rfl⟩, Ib, i10, c15_n hq]
      · unfold f_X8_mark
        rw [mman_y mi W ⟨i, hi, rfl⟩, Ib, i10, in15_n hq, Ib, i00]
  · refine alk_two (fun _ q => q) I (v := -1) ?_ ?_
    · unfold f_X7_mark
      rw [cman_n ci W hi, Ib, i00]
    · unfold f_X8_mark
      rw [mman_n mi W hi, Ib, i00]
def cvl (Z : SS) (r t q : Nat) : Nat := if q = 0 then yn (sY Z) else if q = 1 then ycl (sY Z) else if q = 2 then cm (sC Z) else if q = 3 then yc (sY Z) else if q = 4 then cnt (fun k => (co (sC Z)).testBit k) (yc (sY Z)) else if q = 5 then cnt (fun i => decide (yk (sY Z) i = 2) || decide (yk (sY Z) i = 4)) (yn (sY Z)) else if q = 6 then r else if q = 7 then t else if q = 8 then sq Z else cnt (sF Z) 3
theorem held_ev {s z b N : Nat} (S : Shf s z b N) (hF : 6 < F) : f_X4_held F s h = some (nI (cnt (fun r => decide (¬ gI h z r < 0)) N)) := by
  obtain ⟨s1, s2, -, -, s5, -⟩ := S
  unfold f_X4_held
  rw [s1, s2]
  refine fix_seq (fun k => (nI (cnt (fun r => decide (¬ gI h z r < 0)) k), nI k)) N rfl (fun k hk self => ?_) (fun self => ?_) (by omega)
  · simp only
    rw [if_neg (nle_k (by omega) hk), ld_n s2 hk (by omega), Ib, n_add1, n_add1]
    by_cases q : gI h z k < 0
    · rw [if_pos q, Ib, cnt_s0 (by simpa using q)]
    · rw [if_neg q, Ib, cnt_s1 (by simpa using q)]
  · simp only
    rw [if_pos (rf_le (by omega))]
theorem i10c {q : Nat} (h : q < 10) : q = 0 ∨ q = 1 ∨ q = 2 ∨ q = 3 ∨ q = 4 ∨ q = 5 ∨ q = 6 ∨ q = 7 ∨ q = 8 ∨ q = 9 := by omega
theorem isk2 {k : Nat} : isk k 2 = (decide (k = 2) || decide (k = 4)) := by
  unfold isk
  simp
theorem pcn_op {op c : Nat} (ho : op < 2 ^ c) (hc : c ≤ 4) : pcn op = cnt (fun k => op.testBit k) c := by
  unfold pcn
  rw [cnt_congr (q := fun j => decide (j < c) && op.testBit j) (fun j _ => ?_), show 8 = c + (8 - c) by omega]
  · exact cnt_pad _
  · by_cases q : j < c
    · simp [q]
    · simp [q, tb_hi ho (show c ≤ j by omega)]
theorem ccount_ev {y q : Nat} {Z : SS} (ci : CI y Z h) (w : SWf Z) (hq : q < 10) (hF : 60 < F) : f_X7_count F (nI q) h = some (nI (cvl Z (cnt (fun r => decide (¬ gI h 9 r < 0)) 6) (cnt (fun r => decide (¬ gI h 16 r < 0)) 4) q)) := by
  have W := w.1
  have hn := W.2.2.1
  have o16 := op16 W w.2.1.2.2.1
  unfold f_X7_count
  rcases i10c hq with rfl | rfl | rfl | rfl | rfl | rfl | rfl | rfl | rfl | rfl
  · rw [if_pos (by decide), ci.o, Ib, ci.n]; rfl
  · rw [if_neg (by decide), if_pos (by decide), ci.o, Ib, ci.cl]; rfl
  · rw [if_neg (by decide), if_neg (by decide), if_pos (by decide), ci.now.2.2.2.1]; rfl
  · rw [if_neg (by decide), if_neg (by decide), if_neg (by decide), if_pos (by decide), ci.o, Ib, ci.c]; rfl
  · rw [if_neg (by decide), if_neg (by decide), if_neg (by decide), if_neg (by decide), if_pos (by decide), ci.now.2.2.1, bitc_ev (by omega), pcn_op w.2.1.2.2.1 (yc_le W)]; rfl
  · rw [if_neg (by decide), if_neg (by decide), if_neg (by decide), if_neg (by decide), if_neg (by decide), if_pos (by decide)]
    have e : f_X7_sleepers F h = some (nI (cnt (fun i => decide (yk (sY Z) i = 2) || decide (yk (sY Z) i = 4)) (yn (sY Z)))) := by
      unfold f_X7_sleepers
      refine fix_seq (fun k => (nI (cnt (fun i => decide (yk (sY Z) i = 2) || decide (yk (sY Z) i = 4)) k), nI k)) (yn (sY Z)) rfl (fun k hk self => ?_) (fun self => ?_) (by omega)
      · simp only [ci.o, Ib, ci.n]
        rw [if_neg (nle_k (by omega) hk), lit_2, is_ev ci w hk (by decide) (by decide) (by omega), Ib, i_bz0, isk2, n_add1, n_add1]
        by_cases q : (decide (yk (sY Z) k = 2) || decide (yk (sY Z) k = 4)) = true
        · rw [if_pos q, Ib, cnt_s1 q]
        · rw [if_neg q, Ib, cnt_s0 (Bool.eq_false_iff.mpr q)]
      · simp only [ci.o, Ib, ci.n]
        rw [if_pos (rf_le (by omega))]
    rw [e]; rfl
  · rw [if_neg (by decide), if_neg (by decide), if_neg (by decide), if_neg (by decide), if_neg (by decide), if_neg (by decide), if_pos (by decide), held_ev shf_rows (by omega)]; rfl
  · rw [if_neg (by decide), if_neg (by decide), if_neg (by decide), if_neg (by decide), if_neg (by decide), if_neg (by decide), if_neg (by decide), if_pos (by decide), held_ev shf_txts (by omega)]; rfl
  · rw [if_neg (by decide), if_neg (by decide), if_neg (by decide), if_neg (by decide), if_neg (by decide), if_neg (by decide), if_neg (by decide), if_neg (by decide), if_pos (by decide), ci.q]; rfl
  · rw [if_neg (by decide), if_neg (by decide), if_neg (by decide), if_neg (by decide), if_neg (by decide), if_neg (by decide), if_neg (by decide), if_neg (by decide), if_neg (by decide), if_pos (by decide)]
    have e : f_X7_yardsKept F h = some (nI (cnt (sF Z) 3)) := by
      unfold f_X7_yardsKept
      refine fix_seq (fun k => (nI (cnt (sF Z) k), nI k)) 3 rfl (fun k hk self => ?_) (fun self => ?_) (by omega)
      · simp only
        rw [lit_3, if_neg (nle_k (by decide) hk), ldR_kept hk, Ib, (ci.kp k hk).1, i_bz0, n_add1, n_add1]
        by_cases q : sF Z k = true
        · rw [if_pos q, Ib, cnt_s1 q]
        · rw [if_neg q, Ib, cnt_s0 (Bool.eq_false_iff.mpr q)]
      · simp only
        rw [lit_3, if_pos (rf_le (by decide))]
    rw [e]; rfl
theorem mcount_ev {q r t : Nat} {Z : SS} (M : MI Z h) (w : SWf Z) (hr : cnt (fun r => decide (¬ gI h 68 r < 0)) 6 = r) (ht : cnt (fun r => decide (¬ gI h 71 r < 0)) 4 = t) (hq : q < 10) (hF : 60 < F) : f_X8_counted F (nI q) h = some (nI (cvl Z r t q)) := by
  have W := w.1
  have hn := W.2.2.1
  have hc := yc_le W
  unfold f_X8_counted
  refine (add_loop (m := yc (sY Z)) (b := 0) (p := fun k => decide (q = 4) && (co (sC Z)).testBit k) (fun a1 => fix (σ := Int32 × Int32) (ρ := Int32) (fun self5 s4 => (if (gI h 66 10) ≤ s4.2 then (fix (σ := Int32 × Int32) (ρ := Int32) (fun self8 s7 => (if (6 : Int32) ≤ s7.2 then (fix (σ := Int32 × Int32) (ρ := Int32) (fun self11 s10 => (if (4 : Int32) ≤ s10.2 then (fix (σ := Int32 × Int32) (ρ := Int32) (fun self14 s13 => (if (3 : Int32) ≤ s13.2 then ((if nI q = 0 then (some (gI h 66 10)) else (if nI q = 1 then ((f_X8_cellMany h).bind fun v18 => some v18) else (if nI q = 2 then (some (gI h 66 32)) else (if nI q = 3 then (some (gI h 66 11)) else (if nI q = 8 then (some (gI h 66 56)) else (some s13.1))))))) else ((Option.bind (α := Int32) ((if nI q = (9 : Int32) then ((ldI h 85 s13.2).bind fun v24 => (if v24 = 0 then (some (0 : Int32)) else (some (1 : Int32)))) else (some (0 : Int32)))) fun t22 => self14 ((s13.1 + t22), (s13.2 + 1)))))) F (s10.1, (0 : Int32))) else ((Option.bind (α := Int32) ((if nI q = (7 : Int32) then ((ldI h 71 s10.2).bind fun v30 => (if v30 < 0 then (some (0 : Int32)) else (some (1 : Int32)))) else (some (0 : Int32)))) fun t28 => self11 ((s10.1 + t28), (s10.2 + 1)))))) F (s7.1, (0 : Int32))) else ((Option.bind (α := Int32) ((if nI q = (6 : Int32) then ((ldI h 68 s7.2).bind fun v36 => (if v36 < 0 then (some (0 : Int32)) else (some (1 : Int32)))) else (some (0 : Int32)))) fun t34 => self8 ((s7.1 + t34), (s7.2 + 1)))))) F (s4.1, (0 : Int32))) else ((Option.bind (α := Int32) ((if nI q = (5 : Int32) then ((ldI h 74 s4.2).bind fun v42 => (if v42 = (2 : Int32) then (some (1 : Int32)) else ((ldI h 74 s4.2).bind fun v43 => (if v43 = (4 : Int32) then (some (1 : Int32)) else (some (0 : Int32)))))) else (some (0 : Int32)))) fun t40 => self5 ((s4.1 + t40), (s4.2 + 1)))))) F (a1, (0 : Int32))) (gI h 66 11) (fun k => (if nI q = (4 : Int32) then ((ldI h 77 k).bind fun v50 => some v50) else (some (0 : Int32)))) M.my.2.2.2.1 (by omega) (fun k hk => ?_) (by omega)).trans ?_
  · rw [ld_77 (by omega), M.mt.2 k hk, lit_4, i_eq (by omega) (by decide)]
    by_cases e : q = 4
    · rw [if_pos e, decide_eq_true e]; rfl
    · rw [if_neg e, decide_eq_false e]; rfl
  refine (add_loop (m := yn (sY Z)) (p := fun k => decide (q = 5) && (decide (yk (sY Z) k = 2) || decide (yk (sY Z) k = 4))) (fun a1 => fix (σ := Int32 × Int32) (ρ := Int32) (fun self8 s7 => (if (6 : Int32) ≤ s7.2 then (fix (σ := Int32 × Int32) (ρ := Int32) (fun self11 s10 => (if (4 : Int32) ≤ s10.2 then (fix (σ := Int32 × Int32) (ρ := Int32) (fun self14 s13 => (if (3 : Int32) ≤ s13.2 then ((if nI q = 0 then (some (gI h 66 10)) else (if nI q = 1 then ((f_X8_cellMany h).bind fun v18 => some v18) else (if nI q = 2 then (some (gI h 66 32)) else (if nI q = 3 then (some (gI h 66 11)) else (if nI q = 8 then (some (gI h 66 56)) else (some s13.1))))))) else ((Option.bind (α := Int32) ((if nI q = (9 : Int32) then ((ldI h 85 s13.2).bind fun v24 => (if v24 = 0 then (some (0 : Int32)) else (some (1 : Int32)))) else (some (0 : Int32)))) fun t22 => self14 ((s13.1 + t22), (s13.2 + 1)))))) F (s10.1, (0 : Int32))) else ((Option.bind (α := Int32) ((if nI q = (7 : Int32) then ((ldI h 71 s10.2).bind fun v30 => (if v30 < 0 then (some (0 : Int32)) else (some (1 : Int32)))) else (some (0 : Int32)))) fun t28 => self11 ((s10.1 + t28), (s10.2 + 1)))))) F (s7.1, (0 : Int32))) else ((Option.bind (α := Int32) ((if nI q = (6 : Int32) then ((ldI h 68 s7.2).bind fun v36 => (if v36 < 0 then (some (0 : Int32)) else (some (1 : Int32)))) else (some (0 : Int32)))) fun t34 => self8 ((s7.1 + t34), (s7.2 + 1)))))) F (a1, (0 : Int32))) (gI h 66 10) (fun k => (if nI q = (5 : Int32) then ((ldI h 74 k).bind fun v42 => (if v42 = (2 : Int32) then (some (1 : Int32)) else ((ldI h 74 k).bind fun v43 => (if v43 = (4 : Int32) then (some (1 : Int32)) else (some (0 : Int32)))))) else (some (0 : Int32)))) M.my.2.2.1 (by omega) (fun k hk => ?_) (by omega)).trans ?_
  · have k6 := W.2.2.2.2.2.1 k hk
    rw [ld_74 (by omega), M.my.2.2.2.2.2.1 k hk, Ib, lit_2, i_eq (by omega) (by decide), Ib, lit_4, i_eq (by omega) (by decide), lit_5, i_eq (by omega) (by decide)]
    by_cases e : q = 5
    · rw [if_pos e, decide_eq_true e]
      by_cases e2 : yk (sY Z) k = 2
      · rw [if_pos e2, decide_eq_true e2]; rfl
      · rw [if_neg e2, decide_eq_false e2]
        by_cases e3 : yk (sY Z) k = 4
        · rw [if_pos e3, decide_eq_true e3]; rfl
        · rw [if_neg e3, decide_eq_false e3]; rfl
    · rw [if_neg e, decide_eq_false e]; rfl
  refine (add_loop (m := 6) (p := fun k => decide (q = 6) && decide (¬ gI h 68 k < 0)) (fun a1 => fix (σ := Int32 × Int32) (ρ := Int32) (fun self11 s10 => (if (4 : Int32) ≤ s10.2 then (fix (σ := Int32 × Int32) (ρ := Int32) (fun self14 s13 => (if (3 : Int32) ≤ s13.2 then ((if nI q = 0 then (some (gI h 66 10)) else (if nI q = 1 then ((f_X8_cellMany h).bind fun v18 => some v18) else (if nI q = 2 then (some (gI h 66 32)) else (if nI q = 3 then (some (gI h 66 11)) else (if nI q = 8 then (some (gI h 66 56)) else (some s13.1))))))) else ((Option.bind (α := Int32) ((if nI q = (9 : Int32) then ((ldI h 85 s13.2).bind fun v24 => (if v24 = 0 then (some (0 : Int32)) else (some (1 : Int32)))) else (some (0 : Int32)))) fun t22 => self14 ((s13.1 + t22), (s13.2 + 1)))))) F (s10.1, (0 : Int32))) else ((Option.bind (α := Int32) ((if nI q = (7 : Int32) then ((ldI h 71 s10.2).bind fun v30 => (if v30 < 0 then (some (0 : Int32)) else (some (1 : Int32)))) else (some (0 : Int32)))) fun t28 => self11 ((s10.1 + t28), (s10.2 + 1)))))) F (a1, (0 : Int32))) 6 (fun k => (if nI q = (6 : Int32) then ((ldI h 68 k).bind fun v36 => (if v36 < 0 then (some (0 : Int32)) else (some (1 : Int32)))) else (some (0 : Int32)))) rfl (by decide) (fun k hk => ?_) (by omega)).trans ?_
  · rw [ld_68 hk, Ib, lit_6, i_eq (by omega) (by decide)]
    by_cases e : q = 6
    · rw [if_pos e, decide_eq_true e]
      by_cases e2 : gI h 68 k < 0
      · rw [if_pos e2, decide_eq_false (fun z => z e2)]; rfl
      · rw [if_neg e2, decide_eq_true e2]; rfl
    · rw [if_neg e, decide_eq_false e]; rfl
  refine (add_loop (m := 4) (p := fun k => decide (q = 7) && decide (¬ gI h 71 k < 0)) (fun a1 => fix (σ := Int32 × Int32) (ρ := Int32) (fun self14 s13 => (if (3 : Int32) ≤ s13.2 then ((if nI q = 0 then (some (gI h 66 10)) else (if nI q = 1 then ((f_X8_cellMany h).bind fun v18 => some v18) else (if nI q = 2 then (some (gI h 66 32)) else (if nI q = 3 then (some (gI h 66 11)) else (if nI q = 8 then (some (gI h 66 56)) else (some s13.1))))))) else ((Option.bind (α := Int32) ((if nI q = (9 : Int32) then ((ldI h 85 s13.2).bind fun v24 => (if v24 = 0 then (some (0 : Int32)) else (some (1 : Int32)))) else (some (0 : Int32)))) fun t22 => self14 ((s13.1 + t22), (s13.2 + 1)))))) F (a1, (0 : Int32))) 4 (fun k => (if nI q = (7 : Int32) then ((ldI h 71 k).bind fun v30 => (if v30 < 0 then (some (0 : Int32)) else (some (1 : Int32)))) else (some (0 : Int32)))) rfl (by decide) (fun k hk => ?_) (by omega)).trans ?_
  · rw [ld_71 hk, Ib, lit_7, i_eq (by omega) (by decide)]
    by_cases e : q = 7
    · rw [if_pos e, decide_eq_true e]
      by_cases e2 : gI h 71 k < 0
      · rw [if_pos e2, decide_eq_false (fun z => z e2)]; rfl
      · rw [if_neg e2, decide_eq_true e2]; rfl
    · rw [if_neg e, decide_eq_false e]; rfl
  refine (add_loop (m := 3) (p := fun k => decide (q = 9) && sF Z k) (fun a1 => (if nI q = 0 then (some (gI h 66 10)) else (if nI q = 1 then ((f_X8_cellMany h).bind fun v18 => some v18) else (if nI q = 2 then (some (gI h 66 32)) else (if nI q = 3 then (some (gI h 66 11)) else (if nI q = 8 then (some (gI h 66 56)) else (some a1))))))) 3 (fun k => (if nI q = (9 : Int32) then ((ldI h 85 k).bind fun v24 => (if v24 = 0 then (some (0 : Int32)) else (some (1 : Int32)))) else (some (0 : Int32)))) rfl (by decide) (fun k hk => ?_) (by omega)).trans ?_
  · rw [ld_85 hk, (M.kp k hk).1, Ib, i_bz0, lit_9, i_eq (by omega) (by decide)]
    by_cases e : q = 9
    · rw [if_pos e, decide_eq_true e]
      cases sF Z k <;> rfl
    · rw [if_neg e, decide_eq_false e]; rfl
  have z : ∀ {p : Nat → Bool} {m : Nat} (a c : Nat), a ≠ c → cnt (fun k => decide (a = c) && p k) m = 0 := by
    intro p m a c hac
    induction m with
    | zero => rfl
    | succ m ih => rw [cnt_s0 (by rw [decide_eq_false hac]; rfl), ih]
  have o : ∀ {p : Nat → Bool} {m : Nat} (a : Nat), cnt (fun k => decide (a = a) && p k) m = cnt p m := by
    intro p m a
    exact cnt_congr fun j _ => by rw [decide_eq_true (rfl : a = a), Bool.true_and]
  simp only [M.my.2.2.1, M.my.2.2.2.1, M.now.2.1, M.q, mcells M.my, Ib]
  rcases i10c hq with rfl | rfl | rfl | rfl | rfl | rfl | rfl | rfl | rfl | rfl
  · rw [if_pos (by decide)]; rfl
  · rw [if_neg (by decide), if_pos (by decide)]; rfl
  · rw [if_neg (by decide), if_neg (by decide), if_pos (by decide)]; rfl
  · rw [if_neg (by decide), if_neg (by decide), if_neg (by decide), if_pos (by decide)]; rfl
  · rw [if_neg (by decide), if_neg (by decide), if_neg (by decide), if_neg (by decide), if_neg (by decide), o 4, z 4 5 (by decide), z 4 6 (by decide), z 4 7 (by decide), z 4 9 (by decide)]
    simp only [Nat.zero_add, Nat.add_zero]; rfl
  · rw [if_neg (by decide), if_neg (by decide), if_neg (by decide), if_neg (by decide), if_neg (by decide), z 5 4 (by decide), o 5, z 5 6 (by decide), z 5 7 (by decide), z 5 9 (by decide)]
    simp only [Nat.zero_add, Nat.add_zero]; rfl
  · rw [if_neg (by decide), if_neg (by decide), if_neg (by decide), if_neg (by decide), if_neg (by decide), z 6 4 (by decide), z 6 5 (by decide), o 6, z 6 7 (by decide), z 6 9 (by decide), hr]
    simp only [Nat.zero_add, Nat.add_zero]; rfl
  · rw [if_neg (by decide), if_neg (by decide), if_neg (by decide), if_neg (by decide), if_neg (by decide), z 7 4 (by decide), z 7 5 (by decide), z 7 6 (by decide), o 7, z 7 9 (by decide), ht]
    simp only [Nat.zero_add, Nat.add_zero]; rfl
  · rw [if_neg (by decide), if_neg (by decide), if_neg (by decide), if_neg (by decide), if_pos (by decide)]; rfl
  · rw [if_neg (by decide), if_neg (by decide), if_neg (by decide), if_neg (by decide), if_neg (by decide), z 9 4 (by decide), z 9 5 (by decide), z 9 6 (by decide), z 9 7 (by decide), o 9]
    simp only [Nat.zero_add, Nat.add_zero]; rfl
theorem rows_eq (I : Inv0 (PB B) h) : cnt (fun r => decide (¬ gI h 68 r < 0)) 6 = cnt (fun r => decide (¬ gI h 9 r < 0)) 6 ∧ cnt (fun r => decide (¬ gI h 71 r < 0)) 4 = cnt (fun r => decide (¬ gI h 16 r < 0)) 4 := ⟨cnt_congr fun j hj => by rw [(I.1 j hj).1], cnt_congr fun j hj => by rw [(I.2.1 j hj).1]⟩
theorem alk_count {x : Int32} (I : Inv0 (PB B) h) (hF : 60 < F) : Alk2 (PB B) (PB B) (wr (f_X7_count F x)) (wr (f_X8_count F x)) h := by
  obtain ⟨y, Z, w, ci, mi, si⟩ := PB_oth.mp I.2.2.2
  by_cases hx : inR x 10
  · obtain ⟨q, hq, rfl⟩ := hx
    obtain ⟨r1, r2⟩ := rows_eq I
    refine alk_two (fun _ q => q) I (v := nI (cvl Z (cnt (fun r => decide (¬ gI h 9 r < 0)) 6) (cnt (fun r => decide (¬ gI h 16 r < 0)) 4) q)) ?_ ?_
    · unfold wr
      rw [ccount_ev ci w hq hF]; rfl
    · unfold wr f_X8_count
      rw [lit_9, show (9 : Nat) = 10 - 1 from rfl, in_yes (by decide) hq, Ib, i10, mcount_ev mi w r1 r2 hq hF]; rfl
  · refine alk_two (fun _ q => q) I (v := -1) ?_ ?_
    · have hne : ∀ k : Nat, k < 10 → ¬ x = nI k := fun k hk e => hx ⟨k, hk, e⟩
      unfold wr f_X7_count
      rw [if_neg (show ¬ x = 0 from hne 0 (by decide)), if_neg (show ¬ x = 1 from hne 1 (by decide)), if_neg (show ¬ x = 2 from hne 2 (by decide)), if_neg (show ¬ x = 3 from hne 3 (by decide)), if_neg (show ¬ x = 4 from hne 4 (by decide)), if_neg (show ¬ x = 5 from hne 5 (by decide)), if_neg (show ¬ x = 6 from hne 6 (by decide)), if_neg (show ¬ x = 7 from hne 7 (by decide)), if_neg (show ¬ x = 8 from hne 8 (by decide)), if_neg (show ¬ x = 9 from hne 9 (by decide))]; rfl
    · unfold wr f_X8_count
      rw [lit_9, show (9 : Nat) = 10 - 1 from rfl, in_no (by decide) (by decide) hx, Ib, i00]; rfl
end OPSB
