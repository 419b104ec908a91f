/-! man, chain -/
def wr (f : Hp → Option Int32) : Hp → Option (Int32 × Hp) := fun h => (f h).bind fun v => some (v, h)
def own (n i k : Nat) : Bool := decide (k = i) || decide (sec n k = i)
def clo (op c : Nat) : Nat := bts (fun k => !op.testBit k) c
theorem prt_own {n k i : Nat} : (prt n k i).isSome = own n i k := by
  unfold prt own
  by_cases q1 : i = sec n k
  · rw [if_pos q1, decide_eq_true (show sec n k = i from q1.symm), Bool.or_true]; rfl
  · rw [if_neg q1, decide_eq_false (show ¬ sec n k = i from fun e => q1 e.symm), Bool.or_false]
    by_cases q2 : i = k
    · rw [if_pos q2, decide_eq_true q2.symm]; rfl
    · rw [if_neg q2, decide_eq_false (fun e => q2 e.symm)]; rfl
theorem clo_fin : alN 5 (fun c => alN 16 fun op => decide ((((1 : Int32) <<< (nI c &&& 31)) - (1 : Int32)) &&& (nI op ^^^ (-1 : Int32)) = nI (clo op c))) = true := by decide +kernel
theorem tb_bz {x k : Nat} (hx : x < 2147483648) (hk : k < 32) : (nI x >>> (nI k &&& 31)) &&& 1 = bz (x.testBit k) := by
  rw [n_tb hx hk, tb_one]
  unfold bz
  split <;> rfl
def ofm (Z : SS) (i q : Nat) : Int32 := if q = 0 then nI (yk (sY Z) i) else if q = 1 then nI (dg (cs (sC Z)) i) else if q = 2 then nI (cnt (fun k => !(co (sC Z)).testBit k && own (yn (sY Z)) i k) (yc (sY Z))) else nI (cnt (fun j => decide (cc (sC Z) j / 10 = i)) (cm (sC Z)))
def ofc (Z : SS) (k q : Nat) : Int32 := if q = 0 then nI (yg (sY Z) k) else if q = 1 then nI (rch (sY Z) k) else if q = 2 then nI (dst (yw (sY Z)) (dg (cs (sC Z)) k) (dg (cs (sC Z)) (sec (yn (sY Z)) k))) else bz ((co (sC Z)).testBit k)
section MAN
variable {y : Nat} {Z : SS} {h : Hp} {F i q : Nat}
theorem closed_ev (I : CI y Z h) (w : SWf Z) : f_X7_closedChains h = some (nI (clo (co (sC Z)) (yc (sY Z)))) := by
  have hc := yc_le w.1
  have o16 := op16 w.1 w.2.1.2.2.1
  unfold f_X7_closedChains
  rw [I.o, Ib, I.c, I.now.2.2.1]
  exact congrArg some (of_decide_eq_true (alN_get (alN_get clo_fin (show yc (sY Z) < 5 by omega)) o16))
theorem chainsOf_ev (I : CI y Z h) (w : SWf Z) (hi : i < yn (sY Z)) (hF : 4 < F) : f_X6_chainsOf F y (nI i) h = some (nI (bts (own (yn (sY Z)) i) (yc (sY Z)))) := by
  have W := w.1
  have hn := W.2.2.1
  have hc := yc_le W
  obtain ⟨-, -, -, -, -, e5, -, -, -, -, -, ep⟩ := I.yc
  unfold f_X6_chainsOf
  refine fix_seq (fun k => (nI (bts (own (yn (sY Z)) i) k), nI k)) (yc (sY Z)) rfl (fun k hk self => ?_) (fun self => ?_) (by omega)
  · have hk2 := chn_2 hk
    have b4 := bt16 (bts_lt (own (yn (sY Z)) i) k) (by omega)
    have p1 : 2 ^ k < 16 := bt16 (pow_lt (show k < 4 by omega)) (by omega)
    simp only [e5, nm]
    rw [if_neg (nle_k (by omega) hk), lit_4, pk_mul, nI_add, y_rf13 I.1, y_ld7 I.1 (by omega), ep k hk i (by omega), Ib, n_add1]
    cases ho : prt (yn (sY Z)) k i with
    | none =>
      rw [bts_s0 (by rw [← prt_own, ho]; rfl)]
      rfl
    | some o =>
      have := prt_lt hk2.2 ho
      show Option.bind (if nI o = -9 then _ else _) _ = _
      rw [i_m9 (by omega), Ib, n_shl (by omega), n_or (by omega) (by omega), bts_s1 (by rw [← prt_own, ho]; rfl)]
  · simp only [e5]
    rw [if_pos (rf_le (by omega))]
theorem rf_18 : rf 18 5 = 19 := rfl
theorem div10 {x i : Nat} (hx : x < 2147483648) : nI x / (10 : Int32) = nI (x / 10) := pk_div hx (by decide) (by decide)
theorem stepsOf_ev (I : CI y Z h) (w : SWf Z) (hi : i < 4) (hF : 60 < F) : f_X0_stepsOf F 18 (nI i) h = some (nI (cnt (fun j => decide (cc (sC Z) j / 10 = i)) (cm (sC Z)))) := by
  have h60 := w.2.1.2.2.2.1
  have hcc := w.2.1.2.2.2.2.1
  obtain ⟨-, -, -, e4, e5, -⟩ := I.now
  unfold f_X0_stepsOf
  refine fix_seq (fun k => (nI (cnt (fun j => decide (cc (sC Z) j / 10 = i)) k), nI k)) (cm (sC Z)) rfl (fun k hk self => ?_) (fun self => ?_) (by omega)
  · have c40 := hcc k hk
    simp only [e4]
    rw [if_neg (nle_k (by omega) hk), rf_18, ld_19 (by omega), e5 k hk, Ib, div10 (i := i) (by omega), i_eq (by omega) (by omega), n_add1, n_add1]
    by_cases q : cc (sC Z) k / 10 = i
    · rw [if_pos q, cnt_s1 (by simpa using q)]; rfl
    · rw [if_neg q, cnt_s0 (by simpa using q)]; rfl
  · simp only [e4]
    rw [if_pos (rf_le (by omega))]
theorem cman_ev (I : CI y Z h) (w : SWf Z) (hi : i < yn (sY Z)) (hq : q < 4) (hF : 60 < F) : f_X7_ofMan F (nI i) (nI q) h = some (ofm Z i q) := by
  have W := w.1
  have hn := W.2.2.1
  have hc := yc_le W
  have s0 := w.2.1.1.1
  unfold f_X7_ofMan ofm
  rcases i4 hq with rfl | rfl | rfl | rfl
  · rw [if_pos (by decide), if_pos rfl, I.o, Ib, y_rf7 I.1, y_ld1 I.1 (by omega), I.yc.2.2.2.2.2.2.1 i hi]; rfl
  · rw [if_neg (by decide), if_pos (by decide), if_neg (by decide), if_pos rfl, I.now.1, cell_ev (by omega) (by omega)]; rfl
  · rw [if_neg (by decide), if_neg (by decide), if_pos (by decide), if_neg (by decide), if_neg (by decide), if_pos rfl, closed_ev I w, Ib, I.o, Ib, chainsOf_ev I w hi (by omega), Ib]
    have b1 := bt16 (bts_lt (fun k => !(co (sC Z)).testBit k) (yc (sY Z))) hc
    have b2 := bt16 (bts_lt (own (yn (sY Z)) i) (yc (sY Z))) hc
    have b3 := bt16 (bts_lt (fun k => !(co (sC Z)).testBit k && own (yn (sY Z)) i k) (yc (sY Z))) hc
    rw [n_and (by unfold clo; omega) (by omega)]
    unfold clo
    rw [bts_and, bitc_ev (by omega), pcn_bts (by omega)]; rfl
  · rw [if_neg (by decide), if_neg (by decide), if_neg (by decide), if_neg (by decide), if_neg (by decide), if_neg (by decide), stepsOf_ev I w (by omega) hF]; rfl
theorem mchainsOf_ev (M : MI Z h) (w : SWf Z) (hi : i < yn (sY Z)) (hF : 4 < F) : f_X8_chainsOf F (nI i) h = some (nI (cnt (fun k => !(co (sC Z)).testBit k && own (yn (sY Z)) i k) (yc (sY Z)))) := by
  have W := w.1
  have hn := W.2.2.1
  have hc := yc_le W
  unfold f_X8_chainsOf
  refine fix_seq (fun k => (nI (cnt (fun k => !(co (sC Z)).testBit k && own (yn (sY Z)) i k) k), nI k)) (yc (sY Z)) rfl (fun k hk self => ?_) (fun self => ?_) (by omega)
  · have hk2 := chn_2 hk
    have hs2 : sec (yn (sY Z)) k < yn (sY Z) := sec_lt (by omega)
    simp only [M.my.2.2.2.1]
    rw [if_neg (nle_k (by omega) hk), ld_77 (by omega), Ib, M.mt.2 k hk, i_bz0, i_eq (by omega) (by omega), other_ev M.my W hk2.2, Ib, i_eq (by omega) (by omega), n_add1]
    have e : ∀ b : Bool, b = (!(co (sC Z)).testBit k && own (yn (sY Z)) i k) → self (nI (cnt (fun k => !(co (sC Z)).testBit k && own (yn (sY Z)) i k) k) + bz b, nI (k + 1)) = self (nI (cnt (fun k => !(co (sC Z)).testBit k && own (yn (sY Z)) i k) (k + 1)), nI (k + 1)) := by
      intro b hb
      cases b with
      | true => rw [cnt_s1 hb.symm]; show self (_ + 1, _) = _; rw [n_add1]
      | false => rw [cnt_s0 hb.symm]; show self (_ + 0, _) = _; rw [Int32.add_zero]
    unfold own at e
    rcases Classical.propComplete (k = i) with q1 | q1 <;> rcases Classical.propComplete (sec (yn (sY Z)) k = i) with q2 | q2 <;> cases q0 : (co (sC Z)).testBit k <;> simp only [q1, q2, if_true, if_false, Ib] <;> first | exact e true (by simp [q0, q1, q2]) | exact e false (by simp [q0, q1, q2])
  · simp only [M.my.2.2.2.1]
    rw [if_pos (rf_le (by omega))]
theorem stepped_ev (M : MI Z h) (w : SWf Z) (hi : i < 4) (hF : 60 < F) : f_X8_steppedOf F (nI i) h = some (nI (cnt (fun j => decide (cc (sC Z) j / 10 = i)) (cm (sC Z)))) := by
  have h60 := w.2.1.2.2.2.1
  have hcc := w.2.1.2.2.2.2.1
  obtain ⟨-, e4, -, -, e5, -⟩ := M.now
  unfold f_X8_steppedOf
  refine fix_seq (fun k => (nI (cnt (fun j => decide (cc (sC Z) j / 10 = i)) k), nI k)) (cm (sC Z)) rfl (fun k hk self => ?_) (fun self => ?_) (by omega)
  · have c40 := hcc k hk
    have e6 := e5 k hk
    rw [Nat.zero_add] at e6
    simp only [e4]
    rw [if_neg (nle_k (by omega) hk), ld_83 (by omega), e6, Ib, div10 (i := i) (by omega), i_eq (by omega) (by omega), n_add1]
    by_cases q : cc (sC Z) k / 10 = i
    · rw [if_pos q, cnt_s1 (by simpa using q), Ib, n_add1]
    · rw [if_neg q, cnt_s0 (by simpa using q), Ib, Int32.add_zero]
  · simp only [e4]
    rw [if_pos (rf_le (by omega))]
theorem mmanT_ev (M : MI Z h) (w : SWf Z) (hi : i < yn (sY Z)) (hq : q < 4) (hF : 60 < F) : f_X8_manTells F (nI i) (nI q) h = some (ofm Z i q) := by
  have hn := w.1.2.2.1
  unfold f_X8_manTells ofm
  rcases i4 hq with rfl | rfl | rfl | rfl
  · rw [if_pos (by decide), if_pos rfl, ld_74 (by omega), M.my.2.2.2.2.2.1 i hi]; rfl
  · rw [if_neg (by decide), if_pos (by decide), if_neg (by decide), if_pos rfl, ld_75 (by omega), M.p hi]; rfl
  · rw [if_neg (by decide), if_neg (by decide), if_pos (by decide), if_neg (by decide), if_neg (by decide), if_pos rfl, mchainsOf_ev M w hi (by omega)]; rfl
  · rw [if_neg (by decide), if_neg (by decide), if_neg (by decide), if_neg (by decide), if_neg (by decide), if_neg (by decide), stepped_ev M w (by omega) hF]; rfl
theorem cchain_ev (I : CI y Z h) (w : SWf Z) {k : Nat} (hk : k < yc (sY Z)) (hq : q < 4) : f_X7_ofChain (nI k) (nI q) h = some (ofc Z k q) := by
  have W := w.1
  have hn := W.2.2.1
  have hc := yc_le W
  have hk2 := chn_2 hk
  have hs2 : sec (yn (sY Z)) k < yn (sY Z) := sec_lt (by omega)
  have s0 := w.2.1.1
  have o16 := op16 w.1 w.2.1.2.2.1
  unfold f_X7_ofChain ofc
  rcases i4 hq with rfl | rfl | rfl | rfl
  · rw [if_pos (by decide), if_pos rfl, I.o, Ib, y_rf9 I.1, y_ld3 I.1 (by omega), I.yc.2.2.2.2.2.2.2.1 k hk]; rfl
  · rw [if_neg (by decide), if_pos (by decide), if_neg (by decide), if_pos rfl, I.o, Ib, y_rf10 I.1, y_ld4 I.1 (by omega), I.yc.2.2.2.2.2.2.2.2.1 k hk]; rfl
  · rw [if_neg (by decide), if_neg (by decide), if_pos (by decide), if_neg (by decide), if_neg (by decide), if_pos rfl, I.o, Ib, sec_ev I.n hn (by omega), Ib, I.now.1, apart_ev I.yc W I.1 I.2.1 (by have := s0.1; omega) (by omega) (by omega) (s0.2.2.1 k hk2.2) (s0.2.2.1 _ hs2)]; rfl
  · rw [if_neg (by decide), if_neg (by decide), if_neg (by decide), if_neg (by decide), if_neg (by decide), if_neg (by decide), I.now.2.2.1, tb_bz (by omega) (by omega)]
theorem mchainT_ev (M : MI Z h) (w : SWf Z) {k : Nat} (hk : k < yc (sY Z)) (hq : q < 4) (hF : 60 < F) : ∃ h', f_X8_chainTells F (nI k) (nI q) h = some (ofc Z k q, h') ∧ Eo s82 h h' := by
  have W := w.1
  have hc := yc_le W
  obtain ⟨h1, e1, l1, eo⟩ := look_ev M W (F := F) (by omega)
  have M1 := M.of82 eo
  refine ⟨h1, ?_, eo⟩
  unfold f_X8_chainTells ofc
  rw [e1, Ib]
  rcases i4 hq with rfl | rfl | rfl | rfl
  · rw [if_pos (by decide), if_pos rfl, ld_76 (by omega), M1.my.2.2.2.2.2.2 k hk]; rfl
  · rw [if_neg (by decide), if_pos (by decide), if_neg (by decide), if_pos rfl, reachOf_ev M1.my W hk]; rfl
  · rw [if_neg (by decide), if_neg (by decide), if_pos (by decide), if_neg (by decide), if_neg (by decide), if_pos rfl, farOf_ev M1.my W l1 hk]; rfl
  · rw [if_neg (by decide), if_neg (by decide), if_neg (by decide), if_neg (by decide), if_neg (by decide), if_neg (by decide), ld_77 (by omega), M1.mt.2 k hk]; rfl
end MAN
theorem in3_y {x : Int32} {h : Hp} (hx : inR x 4) : f_X8_in x 0 3 h = some 1 := by
  obtain ⟨j, hj, rfl⟩ := hx
  rw [lit_3, show (3 : Nat) = 4 - 1 from rfl, in_yes (by decide) hj]
theorem in3_n {x : Int32} {h : Hp} (hx : ¬ inR x 4) : f_X8_in x 0 3 h = some 0 := by
  rw [lit_3, show (3 : Nat) = 4 - 1 from rfl, in_no (by decide) (by decide) hx]
theorem le3_n {α : Type} {x : Int32} {a b : α} (hx : ¬ inR x 4) : (if x < 0 then a else if x ≤ 3 then b else a) = a := by
  by_cases q : x < 0
  · rw [if_pos q]
  · obtain ⟨j, hj, rfl⟩ := nI_of q
    rw [if_neg q, lit_3, i_le hj (by decide), if_neg (fun z => hx ⟨j, by omega, rfl⟩)]
theorem le3_y {α : Type} {j : Nat} {a b : α} (hj : j < 4) : (if nI j < 0 then a else if nI j ≤ 3 then b else a) = b := by
  rw [i_neg (by omega), lit_3, i_le (by omega) (by decide), if_pos (by omega)]
section OPSA
variable {B F : Nat} {h : Hp}
theorem alk_two {P Q : Hp → Prop} {A M : Hp → Option (Int32 × Hp)} {v : Int32} (hQ : ∀ h, P h → Q h) (I : Inv0 P h) (h1 : A h = some (v, h)) (h2 : M h = some (v, h)) : Alk2 P Q A M h := ⟨v, h, h, h1, h2, I.1, I.2.1, I.2.2.1, hQ _ I.2.2.2⟩
theorem alk_man {i q : Int32} (I : Inv0 (PB B) h) (hF : 60 < F) : Alk2 (PB B) (PB B) (f_X7_man F i q) (f_X8_man F i q) h := by
  obtain ⟨y, Z, w, ci, mi, si⟩ := PB_oth.mp I.2.2.2
  have W := w.1
  by_cases hi : inR i (yn (sY Z))
  · by_cases hq : inR q 4
    · obtain ⟨a, ha, rfl⟩ := hi
      obtain ⟨b, hb, rfl⟩ := hq
      refine alk_toldZ I mi ⟨1, ofm Z a b, h, ?_, Sm1.refl, y, Z, w, ci, si, fun h' mi' => ⟨h', ?_, Sm2.refl, mi'⟩⟩
      · unfold f_X7_man
        rw [cman_y ci W ⟨a, ha, rfl⟩, Ib, i10, le3_y hb, cman_ev ci w ha hb hF]; rfl
      · unfold f_X8_man
        rw [mman_y mi' W ⟨a, ha, rfl⟩, Ib, i10, in3_y ⟨b, hb, rfl⟩, Ib, i10, mmanT_ev mi' w ha hb hF]; rfl
    · refine alk_two (fun _ q => q) I (v := -1) ?_ ?_
      · unfold f_X7_man
        rw [cman_y ci W hi, Ib, i10, le3_n hq]
      · unfold f_X8_man
        rw [mman_y mi W hi, Ib, i10, in3_n hq, Ib, i00]; rfl
  · refine alk_two (fun _ q => q) I (v := -1) ?_ ?_
    · unfold f_X7_man
      rw [cman_n ci W hi, Ib, i00]
    · unfold f_X8_man
      rw [mman_n mi W hi, Ib, i00]; rfl
theorem alk_chain {i q : Int32} (I : Inv0 (PB B) h) (hF : 60 < F) : Alk2 (PB B) (PB B) (f_X7_chain i q) (f_X8_chain F i q) h := by
  obtain ⟨y, Z, w, ci, mi, si⟩ := PB_oth.mp I.2.2.2
  have W := w.1
  by_cases hi : inR i (yc (sY Z))
  · by_cases hq : inR q 4
    · obtain ⟨a, ha, rfl⟩ := hi
      obtain ⟨b, hb, rfl⟩ := hq
      refine alk_toldZ I mi ⟨1, ofc Z a b, h, ?_, Sm1.refl, y, Z, w, ci, si, fun h' mi' => ?_⟩
      · unfold f_X7_chain
        rw [cchain_y ci W ⟨a, ha, rfl⟩, Ib, i10, le3_y hb, cchain_ev ci w ha hb]; rfl
      · obtain ⟨h2, e1, e2⟩ := mchainT_ev mi' w ha hb hF
        refine ⟨h2, ?_, Sm2.of82 e2, mi'.of82 e2⟩
        unfold f_X8_chain
        rw [mchain_y mi' W ⟨a, ha, rfl⟩, Ib, i10, in3_y ⟨b, hb, rfl⟩, Ib, i10, e1]; rfl
    · refine alk_two (fun _ q => q) I (v := -1) ?_ ?_
      · unfold f_X7_chain
        rw [cchain_y ci W hi, Ib, i10, le3_n hq]
      · unfold f_X8_chain
        rw [mchain_y mi W hi, Ib, i10, in3_n hq, Ib, i00]; rfl
  · refine alk_two (fun _ q => q) I (v := -1) ?_ ?_
    · unfold f_X7_chain
      rw [cchain_n ci W hi, Ib, i00]
    · unfold f_X8_chain
      rw [mchain_n mi W hi, Ib, i00]; rfl
theorem alk_can {i : Int32} (I : Inv0 (PB B) h) (hF : 60 < F) : Alk2 (PB B) (PB B) (wr (f_X7_can F i)) (f_X8_can F i) h := by
  obtain ⟨y, Z, w, ci, mi, si⟩ := PB_oth.mp I.2.2.2
  have W := w.1
  by_cases hi : inR i (yn (sY Z))
  · obtain ⟨a, ha, rfl⟩ := hi
    refine alk_coreZ I mi ⟨nI (wys (sY Z) (ct (sC Z)) (co (sC Z)) (cs (sC Z)) a), h, ?_, Sm1.refl, y, Z, w, ci, si, fun h' mi' => ?_⟩
    · unfold wr f_X7_can
      rw [cman_y ci W ⟨a, ha, rfl⟩, Ib, i10, cways_ev ci w ha (by omega)]; rfl
    · obtain ⟨h2, e1, e2⟩ := mways_ev mi' w ha (F := F) (by omega)
      refine ⟨h2, ?_, Sm2.ofS e2, mi'.ofS e2⟩
      unfold f_X8_can
      rw [mman_y mi' W ⟨a, ha, rfl⟩, Ib, i10, e1]; rfl
  · refine alk_two (fun _ q => q) I (v := -1) ?_ ?_
    · unfold wr f_X7_can
      rw [cman_n ci W hi, Ib, i00]; rfl
    · unfold f_X8_can
      rw [mman_n mi W hi, Ib, i00]; rfl
end OPSA
