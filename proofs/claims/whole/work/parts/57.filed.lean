/-! filed, judge -/
def fPb (t k : Nat) : Bool := decide (nI t &&& (((1 : Int32) <<< (nI k &&& 31)) ^^^ (-1 : Int32)) = 0)
def tor (Y : YS) (op : Nat) (c : Nat → Nat) : Nat → Nat
  | 0 => 0
  | s + 1 => tor Y op c s ||| trn Y op (stdn (fun i => c (yn Y * s + i)) (yn Y))
theorem tor_lt {Y : YS} {op : Nat} {c : Nat → Nat} (W : YW Y) : ∀ s, tor Y op c s < 16
  | 0 => by show 0 < 16; decide
  | s + 1 => or_lt (k := 4) (tor_lt W s) (trn_lt W op _)
section FILED
variable {y : Nat} {Z : SS} {h : Hp} {F r m : Nat}
theorem could_ev {t : Nat} (ci : CI y Z h) (w : SWf Z) (ht : t < 16) (hF : 4 < F) : f_X7_couldBeFiled F (nI t) h = some (nI (bts (fun k => fPb t k && !(co (sC Z)).testBit k) (yc (sY Z)))) := by
  have W := w.1
  have hc := yc_le W
  unfold f_X7_couldBeFiled
  refine fix_seq (fun k => (nI (bts (fPb t) k), nI k)) (yc (sY Z)) rfl (fun k hk self => ?_) (fun self => ?_) (by omega)
  · have b4 := bt16 (bts_lt (fPb t) k) (by omega)
    have p1 : 2 ^ k < 16 := bt16 (pow_lt (show k < 4 by omega)) (by omega)
    simp only [ci.o, Ib, ci.c, nm]
    rw [if_neg (nle_k (by omega) hk), n_add1]
    by_cases q : nI t &&& (((1 : Int32) <<< (nI k &&& 31)) ^^^ (-1 : Int32)) = 0
    · rw [if_pos q, Ib, n_shl (by omega), n_or (by omega) (by omega), bts_s1 (decide_eq_true q)]
    · rw [if_neg q, Ib, bts_s0 (decide_eq_false q)]
  · simp only [ci.o, Ib, ci.c]
    have b4 := bt16 (bts_lt (fPb t) (yc (sY Z))) hc
    have c4 := clo_lt (op := co (sC Z)) hc
    rw [if_pos (rf_le (by omega)), closed_ev ci w, Ib, n_and (by omega) (by omega)]
    unfold clo
    rw [bts_and]
/-- what class and model say of stands seen -/
def filC (Z : SS) (t : Nat) : Int32 := nI (bts (fun k => fPb t k && !(co (sC Z)).testBit k) (yc (sY Z)))
theorem filed_c {c : Nat → Nat} {q : Nat} (ci : CI y Z h) (w : SWf Z) (hr : r < 6) (q0 : ¬ yn (sY Z) = 0) (hm : m ≤ 40) (i2 : gI h 9 r = nI m) (hq : m = yn (sY Z) * q) (hq8 : q ≤ 8) (hc : ∀ i, i < m → gI h (3 + r) i = nI (c i) ∧ c i < ycl (sY Z)) (hF : 40 < F) : f_X7_filed F (nI r) h = some (filC Z (tor (sY Z) (co (sC Z)) c q), sI h 0 14 (bz (decide (tor (sY Z) (co (sC Z)) c q = 0)))) := by
  have W := w.1
  have hn := W.2.2.1
  have hcl := ycl_le W
  have o16 := op16 W w.2.1.2.2.1
  have mm : m % yn (sY Z) = 0 := by rw [hq, Nat.mul_mod_right]
  have md : m / yn (sY Z) = q := by rw [hq, Nat.mul_div_cancel_left _ (by omega)]
  unfold f_X7_filed
  rw [rwm_ok ci W hr hr q0 hm i2, Ib, if_pos rfl, size_yes shf_rows hr, i2, Ib, ci.o, Ib, ci.n, rm_n (by omega) (by omega) (by omega), mm, Ib]
  simp only [jn]
  rw [if_pos (show nI 0 = 0 from rfl), Ib, ci.n, dv_n (by omega) (by omega) (by omega), md, Ib, lit_8, i_le (by omega) (by decide), if_pos hq8]
  refine fix_seq (fun k => nI k) m rfl (fun k hk self => ?_) (fun self => ?_) (by omega)
  · rw [if_neg (nle_k (by omega) hk), get_in shf_rows hr i2 hm hk, (hc k hk).1, Ib, ccell_y ci W ⟨_, (hc k hk).2, rfl⟩, Ib, i10, n_add1]
  · rw [if_pos (rf_le (by omega))]
    refine fix_seq (fun s => (nI (tor (sY Z) (co (sC Z)) c s), nI s)) q ?_ (fun s hs self2 => ?_) (fun self2 => ?_) (by omega)
    · rfl
    · have t16 := tor_lt (op := co (sC Z)) (c := c) W s
      have hs1 : yn (sY Z) * s + yn (sY Z) ≤ m := by
        rw [hq, ← Nat.mul_succ]
        exact Nat.mul_le_mul_left _ hs
      have d1 := stdn_ok (c := fun i => c (yn (sY Z) * s + i)) hn (fun i hi => by have := (hc (yn (sY Z) * s + i) (by omega)).2; omega)
      have t162 := trn_lt W (co (sC Z)) (stdn (fun i => c (yn (sY Z) * s + i)) (yn (sY Z)))
      simp only [ci.o, Ib, ci.n, nm]
      rw [dv_n (by omega) (by omega) (by omega), md, Ib, if_neg (nle_k (by omega) hs), pk_mul, Nat.mul_comm s, sfrom_ev (c := fun i => c (yn (sY Z) * s + i)) ci W hr i2 hm hs1 (fun i hi => (hc _ (by omega)).1) (by omega), Ib, ci.now.2.2.1, tooFar_ev ci.yc W ci.1 (by have := d1.1; omega) o16 (fun i hi => by rw [d1.2.1 i hi]; exact (hc _ (by omega)).2) (by omega), Ib, n_or (by omega) (by omega), n_add1]
      rfl
    · simp only
      have t16 := tor_lt (op := co (sC Z)) (c := c) W q
      have cig : CI y Z (sI h 0 14 (bz (decide (tor (sY Z) (co (sC Z)) c q = 0)))) := by
        have hy : y = 41 ∨ y = 49 := ci.1
        exact ci.keep (fun a k z => by rw [gI_sI, if_neg (by unfold cCy at z; omega)]) rfl rfl rfl
      simp only [ci.o, Ib, ci.n]
      rw [dv_n (by omega) (by omega) (by omega), md, Ib, if_pos (rf_le (by omega)), lit_0, i_eq (by omega) (by decide)]
      have e : (if tor (sY Z) (co (sC Z)) c q = 0 then some (1 : Int32) else some (0 : Int32)) = some (bz (decide (tor (sY Z) (co (sC Z)) c q = 0))) := by
        by_cases z : tor (sY Z) (co (sC Z)) c q = 0
        · rw [if_pos z, decide_eq_true z]; rfl
        · rw [if_neg z, decide_eq_false z]; rfl
      simp only [nm]
      rw [show (some (1 : Int32)) = some 1 from rfl, show (nI 0 : Int32) = 0 from rfl, e, Ib, could_ev cig w t16 (by omega), Ib]
      rfl
theorem filed_m {c : Nat → Nat} {q : Nat} (mi : MI Z h) (w : SWf Z) (hr : r < 6) (q0 : ¬ yn (sY Z) = 0) (hm : m ≤ 40) (i2 : gI h 68 r = nI m) (hq : m = yn (sY Z) * q) (hq8 : q ≤ 8) (hc : ∀ i, i < m → gI h 69 (40 * r + i) = nI (c i) ∧ c i < ycl (sY Z)) (hF : 40 < F) : ∃ h2, f_X8_filed F (nI r) h = some (filC Z (tor (sY Z) (co (sC Z)) c q), sI h2 66 2 (bz (decide (tor (sY Z) (co (sC Z)) c q = 0)))) ∧ Eo s82 h h2 := by
  have W := w.1
  have hn := W.2.2.1
  have hch := yc_le W
  have hcl := ycl_le W
  have mm : m % yn (sY Z) = 0 := by rw [hq, Nat.mul_mod_right]
  have md : m / yn (sY Z) = q := by rw [hq, Nat.mul_div_cancel_left _ (by omega)]
  unfold f_X8_filed
  rw [isRow_yes hr, Ib, i10, mi.my.2.2.1, if_neg (n_nz (by omega) (by omega)), ld_68 hr, i2, Ib, if_pos (n_ge (by omega)), Ib, rm_n (by omega) (by omega) (by omega), mm, Ib]
  simp only [jn]
  rw [if_pos (show nI 0 = 0 from rfl), Ib, dv_n (by omega) (by omega) (by omega), md, Ib, lit_8, i_le (by omega) (by decide), if_pos hq8]
  simp only [Ib]
  refine fix_post (fun x => ∃ h2, x = some (filC Z (tor (sY Z) (co (sC Z)) c q), sI h2 66 2 (bz (decide (tor (sY Z) (co (sC Z)) c q = 0)))) ∧ Eo s82 h h2) (fun (k : Nat) (z : Int32 × Int32) => z = (bz true, nI k)) m ?_ (by omega) ?_ ?_
  · exact rfl
  · rintro k _ hk rfl self hself
    simp only
    rw [if_neg (nle_k (by omega) hk), fl1 (c := true) (fun _ => by
      rw [rowAt_n hr (by omega), (hc k hk).1, Ib, mcell_y mi.my W ⟨_, (hc k hk).2, rfl⟩, Ib, i10]; rfl), n_add1]
    exact hself _ rfl
  · rintro _ rfl self
    simp only
    rw [if_pos (rf_le (by omega)), i_bz0, if_pos rfl]
    refine fix_post (fun x => ∃ h2, x = some (filC Z (tor (sY Z) (co (sC Z)) c q), sI h2 66 2 (bz (decide (tor (sY Z) (co (sC Z)) c q = 0)))) ∧ Eo s82 h h2) (fun (s : Nat) (z : Int32 × Int32 × Hp) => z.1 = nI (tor (sY Z) (co (sC Z)) c s) ∧ z.2.1 = nI s ∧ Eo s82 h z.2.2) q ?_ (by omega) ?_ ?_
    · exact ⟨rfl, rfl, Eo.refl⟩
    · rintro s ⟨z1, z2, g⟩ hs ⟨rfl, rfl, eo⟩ self16 hself16
      have M := mi.of82 eo
      have t16 := tor_lt (op := co (sC Z)) (c := c) W s
      have hs1 : yn (sY Z) * s + yn (sY Z) ≤ m := by
        rw [hq, ← Nat.mul_succ]
        exact Nat.mul_le_mul_left _ hs
      have d1 := stdn_ok (c := fun i => c (yn (sY Z) * s + i)) hn (fun i hi => by have := (hc (yn (sY Z) * s + i) (by omega)).2; omega)
      simp only at eo ⊢
      rw [ld_68 hr, eo.1 68 r (by unfold s82; omega), i2, Ib, M.my.2.2.1, dv_n (by omega) (by omega) (by omega), md, Ib, if_neg (nle_k (by omega) hs)]
      refine fix_post (fun x => ∃ h2, x = some (filC Z (tor (sY Z) (co (sC Z)) c q), sI h2 66 2 (bz (decide (tor (sY Z) (co (sC Z)) c q = 0)))) ∧ Eo s82 h h2) (fun (i : Nat) (z : Int32 × Hp) => z.1 = nI i ∧ Eo s82 h z.2 ∧ ∀ j, j < i → gI z.2 82 j = nI (c (yn (sY Z) * s + j))) (yn (sY Z)) ?_ (by omega) ?_ ?_
      · exact ⟨rfl, eo, fun j hj => absurd hj (Nat.not_lt_zero j)⟩
      · rintro i ⟨z1, g2⟩ hi ⟨rfl, eo2, hl⟩ self34 hself34
        have M2 := mi.of82 eo2
        simp only at eo2 hl ⊢
        rw [M2.my.2.2.1, if_neg (nle_k (by omega) hi), pk_mul, nI_add, rowAt_n hr (by omega), eo2.1 69 _ (by unfold s82; omega), (hc _ (by omega)).1, Ib, st_82 (by omega), Ib, n_add1]
        refine hself34 _ ⟨rfl, eo2.sI rfl, fun j hj => ?_⟩
        show gI (sI g2 82 i _) 82 j = _
        rw [gI_at]
        by_cases e : j = i
        · rw [if_pos e, e]
        · rw [if_neg e]; exact hl j (by omega)
      · rintro ⟨z1, g2⟩ ⟨rfl, eo2, hl⟩ self34
        have M2 := mi.of82 eo2
        simp only at eo2 hl ⊢
        have lk : LK (sY Z) (stdn (fun i => c (yn (sY Z) * s + i)) (yn (sY Z))) g2 := fun i hi => by rw [hl i hi, d1.2.1 i hi]
        rw [M2.my.2.2.1, if_pos (rf_le (by omega))]
        refine fix_post (fun x => ∃ h2, x = some (filC Z (tor (sY Z) (co (sC Z)) c q), sI h2 66 2 (bz (decide (tor (sY Z) (co (sC Z)) c q = 0)))) ∧ Eo s82 h h2) (fun (k : Nat) (z : Int32 × Int32) => z = (nI (tor (sY Z) (co (sC Z)) c s ||| bts (brk (sY Z) (co (sC Z)) (stdn (fun i => c (yn (sY Z) * s + i)) (yn (sY Z)))) k), nI k)) (yc (sY Z)) ?_ (by omega) ?_ ?_
        · show (_, _) = (nI (_ ||| 0), nI 0)
          rw [Nat.or_zero]; rfl
        · rintro k _ hk rfl self37 hself37
          have b4 := bt16 (bts_lt (brk (sY Z) (co (sC Z)) (stdn (fun i => c (yn (sY Z) * s + i)) (yn (sY Z)))) k) (by omega)
          have p1 : 2 ^ k < 16 := bt16 (pow_lt (show k < 4 by omega)) (by omega)
          have o16 : tor (sY Z) (co (sC Z)) c s ||| bts (brk (sY Z) (co (sC Z)) (stdn (fun i => c (yn (sY Z) * s + i)) (yn (sY Z)))) k < 16 := or_lt (k := 4) t16 b4
          simp only [M2.my.2.2.2.1]
          rw [if_neg (nle_k (by omega) hk), kept_ev M2.my M2.mt W lk hk, Ib, i_bz0, n_add1]
          cases qb : brk (sY Z) (co (sC Z)) (stdn (fun i => c (yn (sY Z) * s + i)) (yn (sY Z))) k with
          | true =>
            rw [if_neg (by decide), Ib, n_shl (by omega), n_or (by omega) (by omega)]
            exact hself37 _ (by rw [bts_s1 qb, Nat.or_assoc])
          | false =>
            rw [if_pos (show (!false) = true from rfl), Ib, Int32.or_zero]
            exact hself37 _ (by rw [bts_s0 qb])
        · rintro _ rfl self37
          simp only [M2.my.2.2.2.1]
          rw [if_pos (rf_le (by omega)), n_add1]
          exact hself16 _ ⟨rfl, rfl, eo2⟩
    · rintro ⟨z1, z2, g⟩ ⟨rfl, rfl, eo⟩ self16
      have M := mi.of82 eo
      have t16 := tor_lt (op := co (sC Z)) (c := c) W q
      simp only at eo ⊢
      rw [ld_68 hr, eo.1 68 r (by unfold s82; omega), i2, Ib, M.my.2.2.1, dv_n (by omega) (by omega) (by omega), md, Ib, if_pos (rf_le (by omega))]
      refine fix_post (fun x => ∃ h2, x = some (filC Z (tor (sY Z) (co (sC Z)) c q), sI h2 66 2 (bz (decide (tor (sY Z) (co (sC Z)) c q = 0)))) ∧ Eo s82 h h2) (fun (k : Nat) (z : Int32 × Int32) => z = (nI (bts (fun k => fPb (tor (sY Z) (co (sC Z)) c q) k && !(co (sC Z)).testBit k) k), nI k)) (yc (sY Z)) ?_ (by omega) ?_ ?_
      · exact rfl
      · rintro k _ hk rfl self21 hself21
        have b4 := bt16 (bts_lt (fun k => fPb (tor (sY Z) (co (sC Z)) c q) k && !(co (sC Z)).testBit k) k) (by omega)
        have p1 : 2 ^ k < 16 := bt16 (pow_lt (show k < 4 by omega)) (by omega)
        simp only [M.my.2.2.2.1]
        rw [if_neg (nle_k (by omega) hk), ld_77 (by omega), M.mt.2 k hk, Ib, i_bz0, n_add1]
        cases qo : (co (sC Z)).testBit k with
        | true =>
          rw [if_pos rfl, Ib, Int32.or_zero]
          exact hself21 _ (by rw [bts_s0 (by rw [qo, Bool.not_true, Bool.and_false])])
        | false =>
          rw [if_neg (by decide)]
          by_cases q2 : nI (tor (sY Z) (co (sC Z)) c q) &&& (((1 : Int32) <<< (nI k &&& 31)) ^^^ (-1 : Int32)) = 0
          · rw [if_pos q2, Ib, n_shl (by omega), n_or (by omega) (by omega)]
            exact hself21 _ (by rw [bts_s1 (by rw [qo]; unfold fPb; rw [decide_eq_true q2]; rfl)])
          · rw [if_neg q2, Ib, Int32.or_zero]
            exact hself21 _ (by rw [bts_s0 (by unfold fPb; rw [decide_eq_false q2]; rfl)])
      · rintro _ rfl self21
        simp only [M.my.2.2.2.1]
        rw [if_pos (rf_le (by omega)), lit_0, i_eq (by omega) (by decide)]
        refine ⟨g, ?_, eo⟩
        unfold f_X8_tells
        by_cases z : tor (sY Z) (co (sC Z)) c q = 0
        · rw [if_pos z, decide_eq_true z]; rfl
        · rw [if_neg z, decide_eq_false z]; rfl
end FILED
theorem cellNat {cl m : Nat} {v : Nat → Int32} (hcl : cl ≤ 12) (h : ∀ i, i < m → inR (v i) cl) : ∃ k : Nat → Nat, ∀ i, i < m → v i = nI (k i) ∧ k i < cl := by
  refine ⟨fun i => (v i).toNatClampNeg, fun i hi => ?_⟩
  obtain ⟨c, hc, e⟩ := h i hi
  have : (v i).toNatClampNeg = c := by rw [e]; exact nI_clamp (by omega)
  simp only [this]
  exact ⟨e, hc⟩
section FILED2
variable {B F : Nat} {h : Hp}
theorem alk_filed {x : Int32} (I : Inv0 (PB B) h) (hF : 40 < F) : Alk2 (PB B) (PB B) (f_X7_filed F x) (f_X8_filed F x) h := by
  obtain ⟨y, Z, w, ci, mi, si⟩ := PB_oth.mp I.2.2.2
  have W := w.1
  have hn := W.2.2.1
  have hcl := ycl_le W
  by_cases hx : inR x 6
  · obtain ⟨r, hr, rfl⟩ := hx
    by_cases q0 : yn (sY Z) = 0
    · refine alk_two (fun _ q => q) I (v := -4) ?_ ?_
      · unfold f_X7_filed
        rw [rwm_st ci hr hr q0, Ib, if_neg nz4]
      · unfold f_X8_filed
        rw [isRow_yes hr, Ib, i10, mi.my.2.2.1, q0, if_pos (by decide)]
    · obtain ⟨i1, i2, i3⟩ := I.1 r hr
      rcases i2 with i2 | ⟨m, hm, i2⟩
      · refine (alk_as I (f := 1) (by decide) ?_ (fun h' hh => ?_)).two
        · unfold f_X7_filed
          rw [rwm_no ci W hr hr q0 i2, found_n (by decide), Ib, if_neg nz3]
        · unfold f_X8_filed
          rw [isRow_yes hr, Ib, i10, hh 66 (by decide), mi.my.2.2.1, if_neg (n_nz (by omega) (by omega)), ld_68 hr, Ib, hh 68 (by decide), ← i1, i2, if_neg m1_neg, bindself]; rfl
      · have md : m / yn (sY Z) ≤ m := Nat.div_le_self _ _
        have mo : m % yn (sY Z) < yn (sY Z) := Nat.mod_lt _ (by omega)
        by_cases hs : m % yn (sY Z) = 0 ∧ m / yn (sY Z) ≤ 8
        · have hq : m = yn (sY Z) * (m / yn (sY Z)) := by
            have := Nat.div_add_mod m (yn (sY Z))
            omega
          by_cases hok : ∀ i, i < m → inR (gI h (3 + r) i) (ycl (sY Z))
          · obtain ⟨c, hc⟩ := cellNat hcl hok
            refine alk_toldR I mi ⟨_, _, h, filed_c ci w hr q0 hm i2 hq hs.2 hc hF, Sm1.refl, y, Z, w, ci, si, fun h' mi' hh => ?_⟩
            obtain ⟨h2, e1, e2⟩ := filed_m (c := c) (F := F) mi' w hr q0 hm (by rw [hh 68 r (by decide), ← i1]; exact i2) hq hs.2 (fun i hi => by rw [hh 69 _ (by decide), ← i3 i (by omega)]; exact hc i hi) hF
            exact ⟨h2, e1, Sm2.of82 e2, mi'.of82 e2⟩
          · refine (alk_as I (f := 3) (by decide) ?_ (fun h' hh => ?_)).two
            · unfold f_X7_filed
              rw [rwm_ok ci W hr hr q0 hm i2, Ib, if_pos rfl, size_yes shf_rows hr, i2, Ib, ci.o, Ib, ci.n, rm_n (by omega) (by omega) (by omega), hs.1, Ib]
              simp only [jn]
              rw [if_pos (show nI 0 = 0 from rfl), Ib, ci.n, dv_n (by omega) (by omega) (by omega), Ib, lit_8, i_le (by omega) (by decide), if_pos hs.2]
              refine fix_inv (fun k z => z = nI k ∧ ∀ j, j < k → inR (gI h (3 + r) j) (ycl (sY Z))) m ⟨rfl, fun j hj => absurd hj (Nat.not_lt_zero j)⟩ (by omega) ?_ ?_
              · rintro k z hk ⟨rfl, hz⟩ self hself
                rw [if_neg (nle_k (by omega) hk), get_in shf_rows hr i2 hm hk, Ib, n_add1]
                by_cases q : inR (gI h (3 + r) k) (ycl (sY Z))
                · rw [ccell_y ci W q, Ib, i10]
                  exact hself _ ⟨rfl, fun j hj => by
                    by_cases e : j = k
                    · rw [e]; exact q
                    · exact hz j (by omega)⟩
                · rw [ccell_n ci W q, Ib, i00, bindself]; rfl
              · rintro z ⟨rfl, hz⟩ self
                exact absurd hz hok
            · have mi' : MI Z h' := mi.keep fun a k q => by rw [hh a (by unfold cM at q; omega)]
              unfold f_X8_filed
              rw [isRow_yes hr, Ib, i10, mi'.my.2.2.1, if_neg (n_nz (by omega) (by omega)), ld_68 hr, Ib, hh 68 (by decide), ← i1, i2, if_pos (n_ge (by omega)), Ib, rm_n (by omega) (by omega) (by omega), hs.1, Ib]
              simp only [jn]
              rw [if_pos (show nI 0 = 0 from rfl), Ib, dv_n (by omega) (by omega) (by omega), Ib, lit_8, i_le (by omega) (by decide), if_pos hs.2]
              simp only [Ib]
              refine fix_seq (fun k => (bz (alN k (fun i => pB (inR (gI h (3 + r) i) (ycl (sY Z))))), nI k)) m rfl (fun k hk self => ?_) (fun self => ?_) (by omega)
              · simp only
                rw [if_neg (nle_k (by omega) hk), n_add1, alN_s]
                refine fl1 (fun _ => ?_)
                rw [rowAt_n hr (by omega), hh 69 (by decide), ← i3 k (by omega), Ib]
                by_cases q : inR (gI h (3 + r) k) (ycl (sY Z))
                · rw [mcell_y mi'.my W q, Ib, i10, pB_y q]; rfl
                · rw [mcell_n mi'.my W q, Ib, i00, pB_n q]; rfl
              · have : alN m (fun i => pB (inR (gI h (3 + r) i) (ycl (sY Z)))) = false := by
                  cases e : alN m (fun i => pB (inR (gI h (3 + r) i) (ycl (sY Z)))) with
                  | false => rfl
                  | true => exact absurd (fun i hi => by have := alN_get e hi; rw [pB_t] at this; exact this) hok
                simp only
                rw [if_pos (rf_le (by omega)), this, i_bz0, if_neg (by decide), bindself]; rfl
        · refine (alk_as I (f := 5) (by decide) ?_ (fun h' hh => ?_)).two
          · unfold f_X7_filed
            rw [rwm_ok ci W hr hr q0 hm i2, Ib, if_pos rfl, size_yes shf_rows hr, i2, Ib, ci.o, Ib, ci.n, rm_n (by omega) (by omega) (by omega), Ib]
            simp only [jn]
            rw [lit_0, i_eq (by omega) (by decide), Ib, ci.n, dv_n (by omega) (by omega) (by omega), Ib, lit_8, i_le (by omega) (by decide)]
            by_cases e1 : m % yn (sY Z) = 0
            · rw [if_pos e1, if_neg (fun z => hs ⟨e1, z⟩), bindself]; rfl
            · rw [if_neg e1, bindself]; rfl
          · unfold f_X8_filed
            rw [isRow_yes hr, Ib, i10, hh 66 (by decide), mi.my.2.2.1, if_neg (n_nz (by omega) (by omega)), ld_68 hr, Ib, hh 68 (by decide), ← i1, i2, if_pos (n_ge (by omega)), Ib, rm_n (by omega) (by omega) (by omega), Ib]
            simp only [jn]
            rw [lit_0, i_eq (by omega) (by decide), Ib, dv_n (by omega) (by omega) (by omega), Ib, lit_8, i_le (by omega) (by decide)]
            by_cases e1 : m % yn (sY Z) = 0
            · rw [if_pos e1, if_neg (fun z => hs ⟨e1, z⟩), bindself]; rfl
            · rw [if_neg e1, bindself]; rfl
  · refine alk_two (fun _ q => q) I (v := -1) ?_ ?_
    · unfold f_X7_filed
      rw [rwm_bad (Or.inl hx), Ib, if_neg nz1]
    · unfold f_X8_filed
      rw [isRow_no hx, Ib, i00]
end FILED2
