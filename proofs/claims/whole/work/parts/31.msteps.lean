/-! the model's step -/
def tkI : List Nat → Int32
  | [] => -9
  | [o] => nI o
  | _ => -10
theorem nrm_all {n : Nat} (hn : n < 5) {r : Nat} (hr : r < 2) {i : Nat} (hi : i < n) {B : Nat} (hB : B < 16) {A : Nat} (hA : A < 16) : nrm (slv n (chn n (decide (r = 1))) i B A) = nrm (msl n (chn n (decide (r = 1))) i B A n) ∧ nrm (slv n (chn n (decide (r = 1))) i B A) ≠ i + 1 := of_decide_eq_true (alN_get (alN_get (alN_get (alN_get (alN_get nrm_fin hn) hr) hi) hB) hA)
theorem msr_s {n i B A j m : Nat} : msr n i B A j (m + 1) = msr n i B A j m ++ (ms1 n i B A j m).toList := by
  unfold msr
  rw [List.range_succ, List.filterMap_append]
  cases e : ms1 n i B A j m <;> simp [e]
theorem msl_s {n c i B A m : Nat} : msl n c i B A (m + 1) = msl n c i B A m ++ msr n i B A m c := by
  unfold msl
  rw [List.range_succ, List.flatMap_append]
  simp
theorem sI_sI {h : Hp} {a k : Nat} {v w : Int32} : sI (sI h a k v) a k w = sI h a k w := by
  unfold sI
  refine Prod.ext ?_ rfl
  funext c j
  unfold up2
  by_cases e : c = a ∧ j = k
  · simp [e]
  · simp [e]
theorem tk_app (L : List Nat) (j : Nat) (hL : ∀ o ∈ L, o < 4) : (if tkI L = -9 then nI j else -10) = tkI (L ++ [j]) := by
  match L, hL with
  | [], _ => rfl
  | [o], hL =>
    have := hL o List.mem_cons_self
    show (if nI o = -9 then _ else _) = _
    rw [if_neg (n_m9 (by omega))]; rfl
  | _ :: _ :: _, _ => rfl
theorem msr_mem {n i B A j m o : Nat} (h : o ∈ msr n i B A j m) : o = j := by
  obtain ⟨k, -, h2⟩ := List.mem_filterMap.mp h
  unfold ms1 at h2
  split at h2
  · cases h2; rfl
  · cases h2
theorem msl_mem {n c i B A m o : Nat} (h : o ∈ msl n c i B A m) : o < m := by
  obtain ⟨j, h1, h2⟩ := List.mem_flatMap.mp h
  rw [msr_mem h2]
  exact List.mem_range.mp h1
theorem nrm_cases {L M : List Nat} (hL : ∀ o ∈ L, o < 4) (hM : ∀ o ∈ M, o < 4) (e : nrm L = nrm M) : (L = [] ∧ M = []) ∨ (∃ o, L = [o] ∧ M = [o]) ∨ (∃ a b K a' b' K', L = a :: b :: K ∧ M = a' :: b' :: K') := by
  match L, M, hL, hM, e with
  | [], [], _, _, _ => exact Or.inl ⟨rfl, rfl⟩
  | [], [x], _, _, e => exact absurd e (by show ¬ 0 = x + 1; omega)
  | [], _ :: _ :: _, _, _, e => exact absurd e (by show ¬ 0 = 9; decide)
  | [x], [], _, _, e => exact absurd e (by show ¬ x + 1 = 0; omega)
  | [x], [z], _, _, e => exact Or.inr (Or.inl ⟨x, rfl, by have : x + 1 = z + 1 := e; rw [show x = z by omega]⟩)
  | [x], _ :: _ :: _, hL, _, e =>
    have h1 := hL x List.mem_cons_self
    exact absurd e (by show ¬ x + 1 = 9; omega)
  | _ :: _ :: _, [], _, _, e => exact absurd e (by show ¬ 9 = 0; decide)
  | _ :: _ :: _, [x], _, hM, e =>
    have h1 := hM x List.mem_cons_self
    exact absurd e (by show ¬ 9 = x + 1; omega)
  | a :: b :: K, a' :: b' :: K', _, _, _ => exact Or.inr (Or.inr ⟨a, b, K, a', b', K', rfl, rfl⟩)
theorem n_lm9 {a : Nat} (h : a < 2147483648) : ¬ nI a < -9 := by rw [zn, z_m9, z_lt (by omega) (by omega) (by omega) (by omega)]; omega
section MSTEP
variable {Y : YS} {h : Hp} {F t op s i d : Nat}
theorem LK.put {c : Nat} (L : LK Y s h) (W : YW Y) (hs : s < 20736) (hi : i < yn Y) (hc : c < 12) : LK Y (pt s i c) (sI h 82 i (nI c)) := by
  have hn := W.2.2.1
  intro j hj
  rw [gI_at]
  by_cases e : j = i
  · rw [if_pos e, e, dg_pt hs (by omega) hc]
  · rw [if_neg e, dg_pt_ne hs (by omega) (by omega) hc e, L j hj]
theorem LK.tk {v : Int32} (L : LK Y s h) : LK Y s (sI h 66 31 v) := fun j hj => by rw [gI_ne (by decide)]; exact L j hj
theorem isCh_ev {k j : Nat} (M : MY Y h) (T : MT Y t op h) (W : YW Y) (hk : k < yc Y) (hi : i < yn Y) (hj : j < yn Y) : f_X8_isChained (nI k) (nI i) (nI j) h = some (bz (!op.testBit k && chd (yn Y) k i j)) := by
  have hn := W.2.2.1
  have hk2 := chn_2 hk
  have hs2 : sec (yn Y) k < yn Y := sec_lt (by omega)
  unfold f_X8_isChained
  rw [ld_77 (by omega), Ib, T.2 k hk]
  simp only [other_ev M W hk2.2, Ib, jn, i_bz0]
  rw [i_eq (by omega) (by omega), i_eq (by omega) (by omega), i_eq (by omega) (by omega), i_eq (by omega) (by omega)]
  unfold chd
  by_cases q0 : op.testBit k = true
  · simp [q0]; rfl
  · rcases Classical.propComplete (k = i) with q1 | q1 <;> rcases Classical.propComplete (sec (yn Y) k = j) with q2 | q2 <;> rcases Classical.propComplete (k = j) with q3 | q3 <;> rcases Classical.propComplete (sec (yn Y) k = i) with q4 | q4 <;> simp [q0, q1, q2, q3, q4, bz, ckZ]
theorem find_ev (M : MY Y h) (T : MT Y t op h) (W : YW Y) (L : LK Y s h) (hi : i < yn Y) (hF : 4 < F) : f_X8_findTaken F (nI i) h = some (sI h 66 31 (tkI (msl (yn Y) (yc Y) i (trn Y op s) (asl Y) (yn Y)))) := by
  have hn := W.2.2.1
  have hc := yc_le W
  have Mv : ∀ v, MY Y (sI h 66 31 v) := fun v => M.keep (S := sSt) (Eo.refl.sI (Or.inr ⟨rfl, rfl⟩)) (fun a k q => by unfold sSt at q; omega)
  have Tv : ∀ v, MT Y t op (sI h 66 31 v) := fun v => T.keep (S := sSt) (Eo.refl.sI (Or.inr ⟨rfl, rfl⟩)) (fun a k q => by unfold sSt at q; omega)
  have Lv : ∀ v, LK Y s (sI h 66 31 v) := fun v => L.tk
  unfold f_X8_findTaken
  refine fix_seq (fun j => (nI j, sI h 66 31 (tkI (msl (yn Y) (yc Y) i (trn Y op s) (asl Y) j)))) (yn Y) rfl (fun j hj self => ?_) (fun self => ?_) (by omega)
  · simp only [(Mv _).2.2.1]
    rw [if_neg (nle_k (by omega) hj)]
    refine fix_seq (fun k => (nI k, sI h 66 31 (tkI (msl (yn Y) (yc Y) i (trn Y op s) (asl Y) j ++ msr (yn Y) i (trn Y op s) (asl Y) j k)))) (yc Y) ?_ (fun k hk self2 => ?_) (fun self2 => ?_) (by omega)
    · have : msr (yn Y) i (trn Y op s) (asl Y) j 0 = [] := rfl
      rw [this, List.append_nil]
      rfl
    · have k6 := W.2.2.2.2.2.1 j hj
      simp only [(Mv _).2.2.2.1]
      rw [if_neg (nle_k (by omega) hk), ld_74 (by omega), (Mv _).2.2.2.2.2.1 j hj, Ib, lit_2, i_eq (by omega) (by omega), isCh_ev (Mv _) (Tv _) W hk hi hj, Ib, kept_ev (Mv _) (Tv _) W (Lv _) hk, Ib, i_bz0, i_bz0, gI_eq, n_add1]
      simp only [oite, nm, sI_sI]
      have tb : (trn Y op s).testBit k = brk Y op s k := by unfold trn; rw [bts_tb]; simp [hk]
      have stay : ms1 (yn Y) i (trn Y op s) (asl Y) j k = none → self2 (nI (k + 1), sI h 66 31 (tkI (msl (yn Y) (yc Y) i (trn Y op s) (asl Y) j ++ msr (yn Y) i (trn Y op s) (asl Y) j k))) = self2 (nI (k + 1), sI h 66 31 (tkI (msl (yn Y) (yc Y) i (trn Y op s) (asl Y) j ++ msr (yn Y) i (trn Y op s) (asl Y) j (k + 1)))) := by
        intro e
        rw [msr_s, e]
        simp
      by_cases q1 : yk Y j = 2
      · rw [if_pos q1]
        by_cases q2 : (!op.testBit k && chd (yn Y) k i j) = true
        · rw [if_pos q2]
          by_cases q3 : brk Y op s k = true
          · rw [if_neg (by rw [q3]; decide), tk_app _ _ (fun o ho => ?_)]
            · have e : ms1 (yn Y) i (trn Y op s) (asl Y) j k = some j := by
                unfold ms1
                rw [if_pos]
                rw [tb, q3, asl_tb hj]
                simp only [Bool.and_eq_true] at q2 ⊢
                exact ⟨⟨by simpa using q1, q2.2⟩, trivial⟩
              rw [msr_s, e, ← List.append_assoc]
              rfl
            · rcases List.mem_append.mp ho with ho | ho
              · have := msl_mem ho; omega
              · have := msr_mem ho; omega
          · rw [if_pos (by simpa using q3)]
            exact stay (by unfold ms1; rw [if_neg]; rw [tb]; simp [q3])
        · rw [if_neg q2]
          refine stay (by
            unfold ms1
            rw [if_neg]
            rw [tb]
            simp only [Bool.and_eq_true] at q2 ⊢
            rintro ⟨⟨-, z2⟩, z3⟩
            unfold brk at z3
            simp only [Bool.and_eq_true] at z3
            exact q2 ⟨z3.1, z2⟩)
      · rw [if_neg q1]
        exact stay (by unfold ms1; rw [if_neg]; rw [asl_tb hj]; simp [q1])
    · simp only [(Mv _).2.2.2.1]
      rw [if_pos (rf_le (by omega)), n_add1, msl_s]
  · simp only [(Mv _).2.2.1]
    rw [if_pos (rf_le (by omega))]
theorem steps_ev (M : MY Y h) (T : MT Y t op h) (W : YW Y) (L : LK Y s h) (hs : s < 20736) (hi : i < yn Y) (hd : d < 4) (ht : t ≤ 3) (hg : ∀ j, j < yn Y → dg s j < ycl Y) (hF : 4 < F) : ∃ h', f_X8_steps F (nI i) (nI d) h = some (bz (aft Y t op s i d).isSome, h') ∧ LK Y ((aft Y t op s i d).getD s) h' ∧ Eo sSt h h' := by
  have hn := W.2.2.1
  have hc := yc_le W
  have hcl := ycl_le W
  have hw := (yw_pos W (by omega)).1
  have k6 := W.2.2.2.2.2.1 i hi
  have g1 := hg i hi
  have g12 := dg_lt s i
  have no : ∀ x, x = some (bz false, h) → aft Y t op s i d = none → ∃ h', x = some (bz (aft Y t op s i d).isSome, h') ∧ LK Y ((aft Y t op s i d).getD s) h' ∧ Eo sSt h h' := by
    intro x hx ha
    rw [ha]
    exact ⟨h, hx, L, Eo.refl⟩
  unfold f_X8_steps
  rw [ld_82 (by omega), L i hi, Ib, mg_ev M W hi hd, Ib, i_bz0, nx_ev M W g1 hd, Ib]
  by_cases q1 : mgo (yk Y i) d = true
  · rw [if_pos q1, Ib]
    cases hb0 : nxg (yw Y) (yl Y) (dg s i) d with
    | none => exact no _ rfl (by unfold aft nxc; rw [if_pos q1, hb0])
    | some b =>
      have hb2 := (nxg_lt W.1 W.2.1 g1 hd hb0).1
      have hb3 := (nxg_lt W.1 W.2.1 g1 hd hb0).2
      have hb2' : b < ycl Y := hb2
      have ob : oI (some b) = nI b := rfl
      simp only [ob]
      rw [i_m9 (by omega), ld_73 (by omega), Ib, M.2.2.2.2.1 b hb2, i_bz1]
      by_cases q2 : (yb Y).testBit b = true
      · rw [if_pos q2]
        exact no _ rfl (by unfold aft nxc; rw [if_pos q1, hb0]; simp only [q2, if_true])
      · rw [if_neg q2]
        have hb : nxc Y (dg s i) d = some b := by unfold nxc; rw [hb0]; simp only [q2, if_false]; rfl
        obtain ⟨o, ho1, ho2, ho3⟩ := who_ev M W L (show b < 12 by omega) hF
        rw [ho1, Ib, wet_ev M T W hw ht (by omega), Ib]
        have oc : (oI o = -9) = (ocb s b (yn Y) = false) := by
          rw [oI_m9 (fun z hz => by have := (ho2 z hz).1; omega)]
          exact propext ho3
        simp only [oc, i_bz0]
        by_cases q3 : ocb s b (yn Y) = false
        · rw [if_pos q3]
          by_cases q4 : wet Y t b = true
          · rw [if_pos q4]
            exact no _ rfl (by unfold aft; rw [if_pos q1, hb]; simp only; rw [if_pos (Or.inl q4)])
          · rw [if_neg q4, st_82 (by omega), Ib]
            have hA : aft Y t op s i d = if trn Y op (pt s i b) = 0 then some (pt s i b) else if yk Y i = 1 then alg Y t op (pt s i b) (dg s i) (slv (yn Y) (yc Y) i (trn Y op (pt s i b)) (asl Y)) else none := by
              unfold aft
              rw [if_pos q1, hb]
              simp only
              rw [if_neg (by rw [q3]; simp [q4])]
            have s1lt := pt_lt hs (show i < 4 by omega) (show b < 12 by omega)
            have E1 : Eo sSt h (sI h 82 i (nI b)) := Eo.refl.sI (Or.inl rfl)
            have L1 : LK Y (pt s i b) (sI h 82 i (nI b)) := L.put W hs hi (by omega)
            have t16 := trn_lt W op (pt s i b)
            have a16 : asl Y < 16 := bt16 (bts_lt _ _) (by omega)
            have fin := nrm_all (n := yn Y) (by omega) (r := if yr Y = true then 1 else 0) (by split <;> decide) hi t16 a16
            have cr : chn (yn Y) (decide ((if yr Y = true then 1 else 0) = 1)) = yc Y := by
              unfold yc
              congr 1
              cases yr Y <;> rfl
            rw [cr] at fin
            have Mv : ∀ v, MY Y (sI (sI h 82 i (nI b)) 66 31 v) := fun v => M.keep (S := sSt) (E1.sI (Or.inr ⟨rfl, rfl⟩)) (fun a k q => by unfold sSt at q; omega)
            have Tv : ∀ v, MT Y t op (sI (sI h 82 i (nI b)) 66 31 v) := fun v => T.keep (S := sSt) (E1.sI (Or.inr ⟨rfl, rfl⟩)) (fun a k q => by unfold sSt at q; omega)
            obtain ⟨T0, hX, hT⟩ : ∃ T0 : List Nat, (if nI (yk Y i) = (1 : Int32) then ((f_X8_findTaken F (nI i) (sI (sI h 82 i (nI b)) 66 31 (-9))).bind fun h15 => some h15) else some (sI (sI h 82 i (nI b)) 66 31 (-9))) = some (sI (sI h 82 i (nI b)) 66 31 (tkI T0)) ∧ ((T0 = [] ∧ (yk Y i = 1 → slv (yn Y) (yc Y) i (trn Y op (pt s i b)) (asl Y) = [])) ∨ (∃ o, T0 = [o] ∧ yk Y i = 1 ∧ slv (yn Y) (yc Y) i (trn Y op (pt s i b)) (asl Y) = [o] ∧ o ≠ i ∧ o < yn Y) ∨ (∃ a b' K a' b'' K', T0 = a :: b' :: K ∧ yk Y i = 1 ∧ slv (yn Y) (yc Y) i (trn Y op (pt s i b)) (asl Y) = a' :: b'' :: K')) := by
              by_cases q5 : yk Y i = 1
              · refine ⟨msl (yn Y) (yc Y) i (trn Y op (pt s i b)) (asl Y) (yn Y), ?_, ?_⟩
                · rw [lit_1, i_eq (by omega) (by decide), if_pos q5, find_ev (Mv _) (Tv _) W L1.tk hi hF, Ib, sI_sI]
                · rcases nrm_cases (fun o ho => by have := (slv_mem (n := yn Y) (c := yc Y) chn_le ho).1; omega) (fun o ho => by have := msl_mem ho; omega) fin.1 with ⟨z1, z2⟩ | ⟨o, z1, z2⟩ | ⟨a, b1, K, a', b2, K', z1, z2⟩
                  · exact Or.inl ⟨z2, fun _ => z1⟩
                  · refine Or.inr (Or.inl ⟨o, z2, q5, z1, fun e => ?_, ?_⟩)
                    · rw [z1] at fin
                      exact fin.2 (by rw [e]; rfl)
                    · exact (slv_mem (n := yn Y) (c := yc Y) chn_le (by rw [z1]; exact List.mem_cons_self)).1
                  · exact Or.inr (Or.inr ⟨a', b2, K', a, b1, K, z2, q5, z1⟩)
              · refine ⟨[], ?_, Or.inl ⟨rfl, fun q => absurd q q5⟩⟩
                rw [lit_1, i_eq (by omega) (by decide), if_neg q5]
                rfl
            simp only [nm, jn]
            rw [ld_74 (by omega), (Mv _).2.2.2.2.2.1 i hi, Ib, hX, Ib]
            clear hX fin
            have Lb : ∀ v, LK Y s (sI (sI (sI h 82 i (nI b)) 66 31 v) 82 i (nI (dg s i))) := by
              intro v j hj
              rw [gI_at]
              by_cases e : j = i
              · rw [if_pos e, e]
              · rw [if_neg e, gI_ne (by decide), gI_nk e, L j hj]
            rcases hT with ⟨rfl, hS⟩ | ⟨o, rfl, q5, hS, oi, on⟩ | ⟨a, b', K, a', b'', K', rfl, q5, hS⟩
            · have tk : gI (sI (sI h 82 i (nI b)) 66 31 (tkI [])) 66 31 = -9 := gI_eq
              simp only [tk]
              rw [i9n, Ib, if_neg (by decide), if_pos trivial, Ib, i10, i9n, Ib, i10, all_ev (Mv _) (Tv _) W L1.tk hF, Ib, i_bz0, i10, tk, i9n, Ib, st_82 (by omega)]
              by_cases q6 : trn Y op (pt s i b) = 0
              · rw [if_pos (by simpa using q6), hA, if_pos q6]
                exact ⟨_, rfl, L1.tk, E1.sI (Or.inr ⟨rfl, rfl⟩)⟩
              · have hA2 : aft Y t op s i d = none := by
                  rw [hA, if_neg q6]
                  by_cases q7 : yk Y i = 1
                  · rw [if_pos q7, hS q7]; rfl
                  · rw [if_neg q7]
                rw [if_neg (by simpa using q6), hA2]
                exact ⟨_, rfl, Lb _, (E1.sI (Or.inr ⟨rfl, rfl⟩)).sI (Or.inl rfl)⟩
            · have o4 : o < 4 := by omega
              have tk : gI (sI (sI h 82 i (nI b)) 66 31 (tkI [o])) 66 31 = nI o := gI_eq
              have lo : gI (sI (sI h 82 i (nI b)) 66 31 (tkI [o])) 82 o = nI (dg (pt s i b) o) := L1.tk o on
              have dso : dg (pt s i b) o = dg s o := dg_pt_ne hs (by omega) (by omega) (by omega) oi
              simp only [tk]
              rw [i_neg (by omega), ld_82 o4, lo, Ib, Ib, if_neg (n_lm9 (by omega)), i_m9 (by omega), wet_ev (Mv _) (Tv _) W hw ht g12, Ib, i_bz0]
              by_cases q7 : wet Y t (dg s i) = true
              · rw [if_pos q7, Ib, if_pos rfl, Ib, if_pos rfl, if_pos rfl, Ib, st_82 (by omega)]
                have hA2 : aft Y t op s i d = none := by
                  rw [hA, if_neg (fun q => ?_), if_pos q5, hS]
                  · unfold alg
                    simp only [q7, if_true]
                  · rw [q] at hS
                    have z : slv (yn Y) (yc Y) i 0 (asl Y) = [] := by
                      unfold slv
                      rw [List.filterMap_eq_nil_iff]
                      intro k _
                      unfold sl1
                      rw [Nat.zero_testBit, if_neg (by decide)]
                    rw [z] at hS
                    cases hS
                rw [hA2]
                exact ⟨_, rfl, Lb _, (E1.sI (Or.inr ⟨rfl, rfl⟩)).sI (Or.inl rfl)⟩
              · have L2 : LK Y (pt (pt s i b) o (dg s i)) (sI (sI (sI h 82 i (nI b)) 66 31 (tkI [o])) 82 o (nI (dg s i))) := L1.tk.put W s1lt on g12
                have E2 : Eo sSt h (sI (sI (sI h 82 i (nI b)) 66 31 (tkI [o])) 82 o (nI (dg s i))) := (E1.sI (Or.inr ⟨rfl, rfl⟩)).sI (Or.inl rfl)
                have M2 : MY Y (sI (sI (sI h 82 i (nI b)) 66 31 (tkI [o])) 82 o (nI (dg s i))) := M.keep E2 (fun a k q => by unfold sSt at q; omega)
                have T2 : MT Y t op (sI (sI (sI h 82 i (nI b)) 66 31 (tkI [o])) 82 o (nI (dg s i))) := T.keep E2 (fun a k q => by unfold sSt at q; omega)
                have tk2 : gI (sI (sI (sI h 82 i (nI b)) 66 31 (tkI [o])) 82 o (nI (dg s i))) 66 31 = nI o := by rw [gI_ne (by decide)]; exact tk
                rw [if_neg q7, Ib, i10, i_neg (by omega), st_82 o4, Ib, Ib, i10, all_ev M2 T2 W L2 hF, Ib, i_bz0, i10, tk2, i_neg (by omega), st_82 o4, Ib, Ib, st_82 (by omega)]
                have hS0 : ¬ trn Y op (pt s i b) = 0 := by
                  intro q
                  rw [q] at hS
                  have z : slv (yn Y) (yc Y) i 0 (asl Y) = [] := by
                    unfold slv
                    rw [List.filterMap_eq_nil_iff]
                    intro k _
                    unfold sl1
                    rw [Nat.zero_testBit, if_neg (by decide)]
                  rw [z] at hS
                  cases hS
                have hA2 : aft Y t op s i d = if trn Y op (pt (pt s i b) o (dg s i)) = 0 then some (pt (pt s i b) o (dg s i)) else none := by
                  rw [hA, if_neg hS0, if_pos q5, hS]
                  unfold alg
                  simp only [q7, if_false]
                  rfl
                by_cases q8 : trn Y op (pt (pt s i b) o (dg s i)) = 0
                · rw [if_pos (by simpa using q8), hA2, if_pos q8]
                  exact ⟨_, rfl, L2, E2⟩
                · rw [if_neg (by simpa using q8), hA2, if_neg q8]
                  refine ⟨_, rfl, ?_, (E2.sI (Or.inl rfl)).sI (Or.inl rfl)⟩
                  intro j hj
                  rw [gI_at]
                  by_cases e : j = i
                  · rw [if_pos e, e]; rfl
                  · rw [if_neg e, gI_at]
                    by_cases e2 : j = o
                    · rw [if_pos e2, dso, e2]; rfl
                    · rw [if_neg e2, gI_nk e2, gI_ne (by decide), gI_nk e, L j hj]; rfl
            · have tk : gI (sI (sI h 82 i (nI b)) 66 31 (tkI (a :: b' :: K))) 66 31 = -10 := gI_eq
              simp only [tk]
              rw [if_pos (by decide), Ib, if_pos (by decide), Ib, if_pos rfl, Ib, if_pos rfl, if_pos rfl, Ib, st_82 (by omega)]
              have hA2 : aft Y t op s i d = none := by
                rw [hA, if_neg (fun q => ?_), if_pos q5, hS]
                · rfl
                · rw [q] at hS
                  have z : slv (yn Y) (yc Y) i 0 (asl Y) = [] := by
                    unfold slv
                    rw [List.filterMap_eq_nil_iff]
                    intro k _
                    unfold sl1
                    rw [Nat.zero_testBit, if_neg (by decide)]
                  rw [z] at hS
                  cases hS
              rw [hA2]
              exact ⟨_, rfl, Lb _, (E1.sI (Or.inr ⟨rfl, rfl⟩)).sI (Or.inl rfl)⟩
        · rw [if_neg q3]
          exact no _ rfl (by unfold aft; rw [if_pos q1, hb]; simp only; rw [if_pos (Or.inr (by simpa using q3))])
  · rw [if_neg q1]
    exact no _ rfl (by unfold aft; rw [if_neg q1])
end MSTEP
