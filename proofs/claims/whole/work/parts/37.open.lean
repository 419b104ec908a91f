/-! open, step, undo -/
theorem SW.put {Y : YS} {s i b : Nat} (W : YW Y) (S : SW Y s) (hi : i < yn Y) (hb : b < ycl Y) (hf : ∀ j, j < yn Y → j ≠ i → dg s j ≠ b) : SW Y (pt s i b) := by
  have hn := W.2.2.1
  have hcl := ycl_le W
  obtain ⟨s1, s2, s3, s4⟩ := S
  have p : ∀ j, j < 4 → dg (pt s i b) j = if j = i then b else dg s j := by
    intro j hj
    by_cases e : j = i
    · rw [if_pos e, e, dg_pt s1 (by omega) (by omega)]
    · rw [if_neg e, dg_pt_ne s1 (by omega) hj (by omega) e]
  refine ⟨pt_lt s1 (by omega) (by omega), fun j hj hnj => ?_, fun j hj => ?_, fun j hj k hk hjk => ?_⟩
  · rw [p j hj, if_neg (by omega)]; exact s2 j hj hnj
  · rw [p j (by omega)]
    split
    · exact hb
    · exact s3 j hj
  · rw [p j (by omega), p k (by omega)]
    by_cases e1 : j = i
    · rw [if_pos e1, if_neg (by omega)]
      exact fun q => hf k hk (by omega) q.symm
    · rw [if_neg e1]
      by_cases e2 : k = i
      · rw [if_pos e2]; exact hf j hj e1
      · rw [if_neg e2]; exact s4 j hj k hk hjk
theorem aft_SW {Y : YS} {t op s i d s' : Nat} (W : YW Y) (S : SW Y s) (hi : i < yn Y) (hd : d < 4) (h : aft Y t op s i d = some s') : SW Y s' := by
  have hn := W.2.2.1
  have hcl := ycl_le W
  have s0 := S
  obtain ⟨s1, s2, s3, s4⟩ := S
  unfold aft at h
  split at h
  · cases hb : nxc Y (dg s i) d with
    | none => rw [hb] at h; cases h
    | some b =>
      rw [hb] at h
      have hb2 := (nxc_lt W (s3 i hi) hd hb)
      simp only at h
      split at h
      · cases h
      · rename_i hno
        have hfree : ∀ j, j < yn Y → dg s j ≠ b := fun j hj e => hno (Or.inr (ocb_iff.mpr ⟨j, hj, e⟩))
        have S1 : SW Y (pt s i b) := s0.put W hi hb2.1 (fun j hj _ => hfree j hj)
        split at h
        · cases h; exact S1
        · split at h
          · have t16 := trn_lt W op (pt s i b)
            have a16 : asl Y < 16 := bt16 (bts_lt _ _) (by omega)
            have fin := (nrm_all (n := yn Y) (by omega) (r := if yr Y = true then 1 else 0) (by split <;> decide) hi t16 a16).2
            have cr : chn (yn Y) (decide ((if yr Y = true then 1 else 0) = 1)) = yc Y := by
              unfold yc
              congr 1
              cases yr Y <;> rfl
            rw [cr] at fin
            have hL := fun o (ho : o ∈ slv (yn Y) (yc Y) i (trn Y op (pt s i b)) (asl Y)) => (slv_mem (n := yn Y) (c := yc Y) chn_le ho).1
            generalize slv (yn Y) (yc Y) i (trn Y op (pt s i b)) (asl Y) = L at *
            match L, hL, h, fin with
            | [], _, h, _ => cases h
            | _ :: _ :: _, _, h, _ => cases h
            | [o], hL, h, fin =>
              have ho := hL o List.mem_cons_self
              have oi : o ≠ i := fun e => fin (by rw [e]; rfl)
              unfold alg at h
              simp only at h
              split at h
              · cases h
              · split at h
                · cases h
                  refine S1.put W ho (s3 i hi) (fun j hj hjo => ?_)
                  by_cases e : j = i
                  · rw [e, dg_pt s1 (by omega) (by omega)]; exact hb2.2
                  · rw [dg_pt_ne s1 (by omega) (by omega) (by omega) e]
                    exact s4 j hj i hi e
                · cases h
          · cases h
  · cases h
theorem ci_chRs {B y : Nat} {Z : SS} {h h1 : Hp} {C : CS} (I : CI y Z h) (si : SIZ Z B h) (e : ∀ a k, ¬ (18 ≤ a ∧ a ≤ 20) → gI h1 a k = gI h a k) (r : gR h1 = gR h) (N : CCr 18 C h1) : CI y (setC Z C) (chR h1 y (co C) (wtr (sY Z) (ct C))) ∧ SIZ (setC Z C) B (chR h1 y (co C) (wtr (sY Z) (ct C))) ∧ Sm1 h (chR h1 y (co C) (wtr (sY Z) (ct C))) := by
  have hy : y = 41 ∨ y = 49 := I.1
  refine ⟨I.setC (fun a k hc hn => ?_) ?_ ?_ ⟨rfl, ?_, ?_⟩ (N.keep fun b k hb => ?_), SI.forget si ?_ ?_ ?_ ?_, fun a k q => ?_⟩
  · unfold cCy at hc
    rw [chR_g (by omega), e a k (by omega)]
  · show gR h1 0 11 = _; rw [r]
  · show gR h1 0 12 = _; rw [r]
  · unfold chR
    simp (disch := decide) only [gI_ne, gI_nk, gI_eq]
  · unfold chR
    simp (disch := decide) only [gI_ne, gI_nk, gI_eq]
  · rw [chR_g (by omega)]
  · funext k; rw [chR_g (by omega), e 28 k (by omega)]
  · rw [chR_g (by omega), e 23 8 (by omega)]
  · unfold chR; rw [gI_nk (by decide), gI_eq]
  · unfold chR; rw [gI_eq]
  · rw [irr_iff] at q
    rw [chR_g (by omega), e a k (by omega)]
def opn (op k v : Nat) : Nat := bts (fun j => if j = k then decide (v = 1) else op.testBit j) 4
theorem opn_fin : alN 16 (fun op => alN 4 fun k => alN 2 fun v => decide ((nI op &&& (((1 : Int32) <<< (nI k &&& 31)) ^^^ (-1 : Int32))) ||| (nI v <<< (nI k &&& 31)) = nI (opn op k v)) && alN 5 fun c => decide (op < 2 ^ c → k < c → opn op k v < 2 ^ c)) = true := by decide +kernel
theorem opn_tb {op k v j : Nat} (hj : j < 4) : (opn op k v).testBit j = if j = k then decide (v = 1) else op.testBit j := by
  unfold opn
  rw [bts_tb]
  simp [hj]
section COURSE2
variable {B F : Nat} {h : Hp}
theorem alk_open {x z : Int32} (I : Inv0 (PB B) h) (hF : 60 < F) : Alk2 (PB B) (PB B) (f_X7_open F x z) (f_X8_open F x z) h := by
  obtain ⟨y, Z, w, ci, mi, si⟩ := PB_oth.mp I.2.2.2
  have W := w.1
  have hy : y = 41 ∨ y = 49 := ci.1
  have hc4 := yc_le W
  have o16 := op16 W w.2.1.2.2.1
  by_cases hx : inR x (yc (sY Z))
  · obtain ⟨k, hk, rfl⟩ := hx
    by_cases hz : inR z 2
    · obtain ⟨v, hv, rfl⟩ := hz
      have hin : ∀ h', f_X8_in (nI v) 0 1 h' = some 1 := fun h' => by rw [lit_1, show (1 : Nat) = 2 - 1 from rfl, in_yes (by decide) hv]; rfl
      have c7 : ∀ (a b : Option (Int32 × Hp)), (if nI v < 0 then a else if nI v ≤ 1 then b else a) = b := fun a b => by rw [i_neg (by omega), lit_1, i_le (by omega) (by decide), if_pos (by omega)]
      have dd : ofc Z k 2 = nI (dst (yw (sY Z)) (dg (cs (sC Z)) k) (dg (cs (sC Z)) (sec (yn (sY Z)) k))) := rfl
      have rr : ofc Z k 1 = nI (rch (sY Z) k) := rfl
      have r1 := rch_lt W hk
      have r2 : dst (yw (sY Z)) (dg (cs (sC Z)) k) (dg (cs (sC Z)) (sec (yn (sY Z)) k)) < 100 := dst_lt (dg_lt _ _) (dg_lt _ _)
      by_cases q : v = 0 ∧ rch (sY Z) k < dst (yw (sY Z)) (dg (cs (sC Z)) k) (dg (cs (sC Z)) (sec (yn (sY Z)) k))
      · obtain ⟨rfl, q⟩ := q
        refine alk_coreZ I mi (rs (v := -4) w ci si ?_ (fun h' mi' => ?_))
        · unfold f_X7_open
          simp only [jn]
          rw [cchain_y ci W ⟨k, hk, rfl⟩, Ib, i10, c7, if_pos (by decide), lit_2, cchain_ev ci w hk (by decide), Ib, lit_1, cchain_ev ci w hk (by decide), Ib, dd, rr, i_le (by omega) (by omega), if_neg (by omega)]
        · obtain ⟨h1, e1, l1, eo⟩ := look_ev mi' W (F := F) (by omega)
          have M1 := mi'.of82 eo
          refine ⟨h1, ?_, Sm2.of82 eo, M1⟩
          unfold f_X8_open
          simp only [jn]
          rw [mchain_y mi' W ⟨k, hk, rfl⟩, Ib, i10, hin, Ib, i10, e1, Ib, if_pos (by decide), farOf_ev M1.my W l1 hk, Ib, reachOf_ev M1.my W hk, Ib, i_le (by omega) (by omega), if_neg (by omega)]
      · have fin := alN_get (alN_get (alN_get opn_fin o16) (show k < 4 by omega)) hv
        rw [Bool.and_eq_true, decide_eq_true_eq] at fin
        have olt := of_decide_eq_true (alN_get fin.2 (show yc (sY Z) < 5 by omega)) w.2.1.2.2.1 hk
        have N1 : CCr 18 (cs (sC Z), ct (sC Z), opn (co (sC Z)) k v, cm (sC Z), cc (sC Z), cb (sC Z)) (sI h 18 3 (nI (opn (co (sC Z)) k v))) := by
          refine ⟨?_, ?_, gI_eq, ?_, fun j hj => ?_, fun j hj => ?_⟩
          · rw [gI_nk (by decide)]; exact ci.now.1
          · rw [gI_nk (by decide)]; exact ci.now.2.1
          · rw [gI_nk (by decide)]; exact ci.now.2.2.2.1
          · rw [gI_ne (by decide)]; exact ci.now.2.2.2.2.1 j hj
          · rw [gI_ne (by decide)]; exact ci.now.2.2.2.2.2 j hj
        obtain ⟨c1, c2, c3⟩ := ci_chRs ci (h1 := sI h 18 3 (nI (opn (co (sC Z)) k v))) si (fun a k hn => by rw [gI_ne (by omega)]) rfl N1
        refine alk_coreZ I mi ⟨bz ((co (sC Z)).testBit k), _, ?_, c3, y, setC Z (cs (sC Z), ct (sC Z), opn (co (sC Z)) k v, cm (sC Z), cc (sC Z), cb (sC Z)), ⟨W, ⟨w.2.1.1, w.2.1.2.1, olt, w.2.1.2.2.2⟩, w.2.2⟩, c1, c2, fun h' mi' => ?_⟩
        · have ev : f_X7_changeRules F (sI h 18 3 (nI (opn (co (sC Z)) k v))) = some (chR (sI h 18 3 (nI (opn (co (sC Z)) k v))) y (opn (co (sC Z)) k v) (wtr (sY Z) (ct (sC Z)))) := change_ev (ci.yc.keep fun b k hb => gI_ne (by omega)) W ci.1 ci.2.1 (by rw [gI_nk (by decide)]; exact ci.now.2.1) gI_eq w.2.1.2.1 (by omega)
          unfold f_X7_open
          simp only [jn, nm]
          rw [cchain_y ci W ⟨k, hk, rfl⟩, Ib, i10, c7, lit_2, cchain_ev ci w hk (by decide), Ib, ci.now.2.2.1, tb_bz (by omega) (by omega), fin.1, ev, Ib]
          by_cases q0 : v = 0
          · rw [q0, if_pos (by decide), lit_1, cchain_ev ci w hk (by decide), Ib, dd, rr, i_le (by omega) (by omega), if_pos (by omega)]; rfl
          · rw [if_neg (n_nz (by omega) (by omega))]; rfl
        · obtain ⟨h1, e1, l1, eo⟩ := look_ev mi' W (F := F) (by omega)
          have M1 := mi'.of82 eo
          refine ⟨sI h1 77 k (nI v), ?_, (Sm2.of82 eo).sI (ir_no (by omega) (by omega)), M1.setC (fun a k hc hn => by rw [gI_ne (by omega)]) ⟨?_, ?_, fun i hi => ?_, fun j hj => ?_, fun j hj => ?_, fun j hj i hi => ?_⟩⟩
          · unfold f_X8_open
            simp only [jn]
            rw [mchain_y mi' W ⟨k, hk, rfl⟩, Ib, i10, hin, Ib, i10, e1, Ib, ld_77 (by omega), Ib, st_77 (by omega), Ib, farOf_ev M1.my W l1 hk, Ib, reachOf_ev M1.my W hk, Ib, M1.mt.2 k hk]
            by_cases q0 : v = 0
            · rw [q0, if_pos (by decide), i_le (by omega) (by omega), if_pos (by omega)]
            · rw [if_neg (n_nz (by omega) (by omega))]
          · rw [gI_ne (by decide)]; exact M1.now.1
          · rw [gI_ne (by decide)]; exact M1.now.2.1
          · rw [gI_ne (by decide)]; exact M1.now.2.2.1 i hi
          · show gI (sI h1 77 k (nI v)) 77 (0 + j) = bz ((opn (co (sC Z)) k v).testBit j)
            rw [Nat.zero_add, gI_at, opn_tb (by omega)]
            by_cases e : j = k
            · rw [if_pos e, if_pos e]
              have : v = 0 ∨ v = 1 := by omega
              rcases this with rfl | rfl <;> rfl
            · rw [if_neg e, if_neg e]
              exact M1.mt.2 j hj
          · rw [gI_ne (by decide)]; exact M1.now.2.2.2.2.1 j hj
          · rw [gI_ne (by decide)]; exact M1.now.2.2.2.2.2 j hj i hi
    · refine alk_two (fun _ q => q) I (v := -1) ?_ ?_
      · unfold f_X7_open
        simp only [jn]
        rw [cchain_y ci W ⟨k, hk, rfl⟩, Ib, i10]
        by_cases q : z < 0
        · rw [if_pos q]
        · obtain ⟨j, hj, rfl⟩ := nI_of q
          rw [if_neg q]
          rw [if_neg]
          rw [lit_1, n_le hj (by decide)]
          exact fun q2 => hz ⟨j, by omega, rfl⟩
      · unfold f_X8_open
        rw [mchain_y mi W ⟨k, hk, rfl⟩, Ib, i10, lit_1, show (1 : Nat) = 2 - 1 from rfl, in_no (by decide) (by decide) hz, Ib, i00]
  · refine alk_two (fun _ q => q) I (v := -1) ?_ ?_
    · unfold f_X7_open
      rw [cchain_n ci W hx, Ib, i00]
    · unfold f_X8_open
      rw [mchain_n mi W hx, Ib, i00]
end COURSE2
