/-! the class reads the lines -/
section ZCLN
variable {d r m F : Nat} {tx : Nat → Int32} {h h' : Hp} {S : RS}
theorem zlim_ev (X : RX d r m tx h) (D : ZD d S h) (W : ZW S) : ((gO h 17 4 (0, 6, 14)).bind fun y22 => (Option.bind (α := Int32) (if gI h y22 1 = 0 then some (4 : Int32) else ((gO h 17 4 (0, 6, 14)).bind fun y25 => some (gI h y25 0))) fun t => some t)) = some (nI (zlim S)) := by
  have w4 := W.2.2.2.1
  rw [X.o, Ib, D.2.1]
  unfold zlim
  by_cases q : zrl S = 0
  · rw [if_pos q, q, if_pos (show nI 0 = 0 from rfl)]; rfl
  · rw [if_neg q, if_neg (n_nz (by omega) (by omega)), Ib, D.1]; rfl
theorem zlim_b {ρ : Type} {f : Int32 → Option ρ} (X : RX d r m tx h) (D : ZD d S h) (W : ZW S) : ((gO h 17 4 (0, 6, 14)).bind fun y22 => (Option.bind (α := Int32) (if gI h y22 1 = 0 then some (4 : Int32) else ((gO h 17 4 (0, 6, 14)).bind fun y25 => some (gI h y25 0))) f)) = f (nI (zlim S)) := by
  have w4 := W.2.2.2.1
  rw [X.o, Ib, D.2.1]
  unfold zlim
  by_cases q : zrl S = 0
  · rw [if_pos q, q, if_pos (show nI 0 = 0 from rfl)]; rfl
  · rw [if_neg q, if_neg (n_nz (by omega) (by omega)), Ib, D.1]; rfl
theorem cells_ev (X : RX d r m tx h) (D : ZD d S h) (W : ZW S) (hp : gI h 17 3 = nI (zrp S)) (hc : zrc S = 0) (hm : zrp S ≤ m) (hF : 40 < F) : ∃ h', f_X1_readCells F h = some (bz (zron tx (m - zrp S) S).2, h') ∧ Eo (sRd d) h h' ∧ gI h' 17 3 = nI (zrp (zron tx (m - zrp S) S).1) ∧ ((zron tx (m - zrp S) S).2 = true → ZD d (zron tx (m - zrp S) S).1 h') := by
  have m40 := X.le
  have hd : d = 41 ∨ d = 49 := X.1
  unfold f_X1_readCells
  generalize hR : zron tx (m - zrp S) S = R
  refine fix_post (fun o => ∃ h', o = some (bz R.2, h') ∧ Eo (sRd d) h h' ∧ gI h' 17 3 = nI (zrp R.1) ∧ (R.2 = true → ZD d R.1 h')) (fun (k : Nat) (z : Int32 × Hp) => ∃ S', ZW S' ∧ ZD d S' z.2 ∧ z.1 = nI (zrc S') ∧ Eo (sRd d) h z.2 ∧ gI z.2 17 3 = nI (zrp S') ∧ zrp S' = zrp S + k ∧ zron tx (m - zrp S') S' = R) (m - zrp S) ?_ (by omega) ?_ ?_
  · exact ⟨S, W, D, by rw [hc]; rfl, Eo.refl, hp, rfl, hR⟩
  · rintro k ⟨zc, z⟩ hk ⟨S', W', D', e1, eo, e3, ep, er⟩ self hself
    have e1' : zc = nI (zrc S') := e1
    subst e1'
    have D' : ZD d S' z := D'
    have eo : Eo (sRd d) h z := eo
    have e3 : gI z 17 3 = nI (zrp S') := e3
    have X' := X.keep eo
    have w4 := W'.2.2.2.1
    have bad : (S', false) = R → ∀ g : Hp, Eo (fun a _k => d ≤ a ∧ a ≤ d + 7) z g → ∃ h', (some ((0 : Int32), g)) = some (bz R.2, h') ∧ Eo (sRd d) h h' ∧ gI h' 17 3 = nI (zrp R.1) ∧ (R.2 = true → ZD d R.1 h') := by
      rintro rfl g eg
      exact ⟨g, rfl, eo.trans (eg.mono fun a k q => Or.inr q), by rw [eg.1 17 3 (by omega)]; exact e3, fun q => by cases q⟩
    have go : ∀ (S'' : RS) (c : Int32) (g : Hp), zrp S'' = zrp S' + 1 → c = nI (zrc S'') → ZW S'' → ZD d S'' g → Eo (fun a _k => d ≤ a ∧ a ≤ d + 7) z g → zron tx (m - zrp S'') S'' = R → ∃ h', self (c, sI g 17 3 (gI g 17 3 + 1)) = some (bz R.2, h') ∧ Eo (sRd d) h h' ∧ gI h' 17 3 = nI (zrp R.1) ∧ (R.2 = true → ZD d R.1 h') := by
      intro S'' c g p1 p2 p3 p4 p5 p6
      refine hself _ ⟨S'', p3, ?_, p2, (eo.trans (p5.mono fun a k q => Or.inr q)).sI (Or.inl ⟨rfl, rfl⟩), ?_, by omega, p6⟩
      · obtain ⟨d1, d2, d3, d4, d5, d6, d7⟩ := p4
        have g17 : ∀ a j, d ≤ a → gI (sI g 17 3 (gI g 17 3 + 1)) a j = gI g a j := fun a j hj => gI_ne (by omega)
        refine ⟨?_, ?_, ?_, ?_, ?_, fun i hi => ?_, fun i hi => ?_⟩
        · rw [g17 _ _ (by omega)]; exact d1
        · rw [g17 _ _ (by omega)]; exact d2
        · rw [g17 _ _ (by omega)]; exact d3
        · rw [g17 _ _ (by omega)]; exact d4
        · rw [g17 _ _ (by omega)]; exact d5
        · rw [g17 _ _ (by omega)]; exact d6 i hi
        · rw [g17 _ _ (by omega)]; exact d7 i hi
      · rw [gI_eq, p5.1 17 3 (by omega), e3, n_add1, p1]
    simp only [nm, jn]
    rw [X'.sz, e3, if_neg (nle_k (by omega) (by omega)), X'.sign e3 (by omega), Ib]
    have ed : m - zrp S' = (m - (zrp S' + 1)) + 1 := by omega
    rw [ed, zron] at er
    by_cases q : tx (zrp S') = 47 ∨ tx (zrp S') = 61
    · rw [if_pos q] at er
      by_cases q2 : zrc S' = 0 ∨ (0 < zrl S' ∧ zrc S' ≠ zrw S')
      · rw [if_pos q2] at er
        rw [endl_no X' D' W' q2, Ib, i00]
        rcases q with q | q
        · rw [q, if_pos rfl]
          exact bad er z Eo.refl
        · rw [q, if_neg (by decide), if_pos rfl]
          exact bad er z Eo.refl
      · rw [if_neg q2] at er
        obtain ⟨g, e5, eg, Dg⟩ := endl_ok X' D' W' q2
        have Xg := X'.keep (eg.mono fun a k q => Or.inr q)
        have p1 : zrp (zend S') = zrp S' + 1 := rfl
        rw [e5, Ib, i10]
        rcases q with q | q
        · rw [q] at er ⊢
          rw [if_neg (by decide)] at er
          rw [if_pos rfl, if_pos rfl, Xg.o, Ib, Dg.2.1]
          by_cases q4 : zrl S' = 2
          · rw [if_pos q4] at er
            rw [if_pos (by show nI (zrl S' + 1) = 3; rw [q4]; rfl)]
            exact bad er g eg
          · rw [if_neg q4] at er
            rw [if_neg (by show ¬ nI (zrl S' + 1) = 3; rw [lit_3, n_eq (by omega) (by omega)]; omega), if_neg (by decide)]
            exact go (zend S') 0 g p1 rfl (zw_next W' q2 q4) Dg eg er
        · rw [q] at er ⊢
          rw [if_pos rfl] at er
          rw [if_neg (by decide), if_pos rfl, if_neg (by decide), if_pos rfl]
          subst er
          refine ⟨sI g 17 3 (gI g 17 3 + 1), rfl, (eo.trans (eg.mono fun a k q => Or.inr q)).sI (Or.inl ⟨rfl, rfl⟩), ?_, fun _ => ?_⟩
          · rw [gI_eq, eg.1 17 3 (by omega), e3, n_add1]; rfl
          · obtain ⟨d1, d2, d3, d4, d5, d6, d7⟩ := Dg
            have g17 : ∀ a j, d ≤ a → gI (sI g 17 3 (gI g 17 3 + 1)) a j = gI g a j := fun a j hj => gI_ne (by omega)
            refine ⟨?_, ?_, ?_, ?_, ?_, fun i hi => ?_, fun i hi => ?_⟩
            · rw [g17 _ _ (by omega)]; exact d1
            · rw [g17 _ _ (by omega)]; exact d2
            · rw [g17 _ _ (by omega)]; exact d3
            · rw [g17 _ _ (by omega)]; exact d4
            · rw [g17 _ _ (by omega)]; exact d5
            · rw [g17 _ _ (by omega)]; exact d6 i hi
            · rw [g17 _ _ (by omega)]; exact d7 i hi
    · rw [if_neg q] at er
      rw [if_neg (fun z => q (Or.inl z)), if_neg (fun z => q (Or.inr z)), zlim_b X' D' W']
      have cl : zrc S' ≤ zlim S' := by
        unfold zlim
        by_cases u : zrl S' = 0
        · rw [if_pos u]; exact (W'.1 u).2
        · rw [if_neg u]; exact (W'.2.1 (by omega)).2
      have l4 : zlim S' ≤ 4 := by
        unfold zlim
        have := W'.2.2.1
        split <;> omega
      rw [i_le (by omega) (by omega)]
      have p1 : zrp S' + 1 = zrp S' + 1 := rfl
      by_cases q3 : zrc S' = zlim S'
      · have er2 : (S', false) = R := by
          cases hk' : kdz (tx (zrp S')) with
          | none =>
            simp only [hk'] at er
            by_cases q2 : tx (zrp S') = 46 ∨ tx (zrp S') = 35
            · rw [if_pos q2, if_pos q3] at er; exact er
            · rw [if_neg q2] at er; exact er
          | some kk =>
            simp only [hk'] at er
            rw [if_pos q3] at er; exact er
        rw [if_pos (by omega)]
        exact bad er2 z Eo.refl
      · rw [if_neg (by omega)]
        cases hk' : kdz (tx (zrp S')) with
        | none =>
          simp only [hk'] at er
          by_cases q2 : tx (zrp S') = 46 ∨ tx (zrp S') = 35
          · rw [if_pos q2, if_neg q3] at er
            obtain ⟨g, e5, eg, Dg⟩ := add_0 X' D' W' q3 hk' q2
            rw [e5, Ib, i10, n_add1]
            exact go _ _ g rfl rfl (zw_ad0 W' q3) Dg eg er
          · rw [if_neg q2] at er
            rw [add_no X' hk' q2, Ib, i00]
            exact bad er z Eo.refl
        | some kk =>
          simp only [hk'] at er
          rw [if_neg q3] at er
          by_cases q4 : zrn S' = 4
          · rw [if_pos q4] at er
            rw [add_full X' D' hk' q4, Ib, i00]
            exact bad er z Eo.refl
          · rw [if_neg q4] at er
            obtain ⟨g, e5, eg, Dg⟩ := add_1 X' D' W' q3 hk' q4
            rw [e5, Ib, i10, n_add1]
            exact go _ _ g rfl rfl (zw_ad1 W' q3 q4 (kdz_lt hk')) Dg eg er
  · rintro ⟨zc, z⟩ ⟨S', W', D', e1, eo, e3, ep, er⟩ self
    have eo : Eo (sRd d) h z := eo
    have e3 : gI z 17 3 = nI (zrp S') := e3
    have X' := X.keep eo
    simp only [nm, jn]
    rw [X'.sz, e3, if_pos (by rw [n_le (by omega) (by omega)]; omega)]
    rw [show m - zrp S' = 0 by omega] at er
    subst er
    exact ⟨z, rfl, eo, e3, fun q => by cases q⟩
end ZCLN
/-! the class lays the yard out -/
def zY (S : RS) (r : Bool) (g : Nat → Nat) : YS := (zrw S, zrl S, zrn S, r, zrb S, zrk S, g)
theorem ab_n {p q : Nat} (hp : p < 2147483648) (hq : q < 2147483648) : abI (nI p - nI q) = nI ((p - q) + (q - p)) := by
  unfold abI
  rw [zn p, zn q, z_sub, z_0]
  by_cases u : (0 : Int) ≤ (p : Int) - q
  · rw [if_pos (by rw [z_le (by omega) (by omega) (by omega) (by omega)]; exact u), zn]; exact congrArg zI (by omega)
  · rw [if_neg (by rw [z_le (by omega) (by omega) (by omega) (by omega)]; exact u), z_sub, zn]; exact congrArg zI (by omega)
theorem wallb_ev {d b c : Nat} {h : Hp} (H : gI h d 3 = nI b) (hb : b < 2147483648) (hc : c < 32) : f_X6_isWall d (nI c) h = some (bz (b.testBit c)) := by
  unfold f_X6_isWall
  rw [H, i_tb1 hb hc]
  cases b.testBit c <;> rfl
theorem nb_core {d b w l : Nat} {h : Hp} {cv lv : Int} (H0 : gI h d 0 = nI w) (H1 : gI h d 1 = nI l) (H : gI h d 3 = nI b) (hb : b < 4096) (hw : w ≤ 4) (hl : l ≤ 3) (c1 : -10 ≤ cv) (c2 : cv ≤ 20) (l1 : -10 ≤ lv) (l2 : lv ≤ 20) :
    (if zI cv < 0 then some (-9 : Int32) else if gI h d 0 ≤ zI cv then some (-9) else if zI lv < 0 then some (-9) else if zI lv < gI h d 1 then (f_X6_isWall d (zI lv * gI h d 0 + zI cv) h).bind fun v12 => (Option.bind (α := Int32) (if v12 = 0 then some (zI lv * gI h d 0 + zI cv) else some (-9)) fun t => some t) else some (-9)) = some (oI (if 0 ≤ cv ∧ cv < w ∧ 0 ≤ lv ∧ lv < l then (if b.testBit (lv.toNat * w + cv.toNat) = true then none else some (lv.toNat * w + cv.toNat)) else none)) := by
  rw [H0, H1]
  by_cases u1 : cv < 0
  · rw [if_pos (by rw [z_0, z_lt (by omega) (by omega) (by omega) (by omega)]; exact u1), if_neg (by omega)]; rfl
  · rw [if_neg (by rw [z_0, z_lt (by omega) (by omega) (by omega) (by omega)]; exact u1)]
    by_cases u2 : (w : Int) ≤ cv
    · rw [if_pos (by rw [zn, z_le (by omega) (by omega) (by omega) (by omega)]; exact u2), if_neg (by omega)]; rfl
    · rw [if_neg (by rw [zn, z_le (by omega) (by omega) (by omega) (by omega)]; exact u2)]
      by_cases u3 : lv < 0
      · rw [if_pos (by rw [z_0, z_lt (by omega) (by omega) (by omega) (by omega)]; exact u3), if_neg (by omega)]; rfl
      · rw [if_neg (by rw [z_0, z_lt (by omega) (by omega) (by omega) (by omega)]; exact u3)]
        by_cases u4 : lv < l
        · have e : zI lv * nI w + zI cv = nI (lv.toNat * w + cv.toNat) := by
            rw [zn, zn, z_mul, z_add]
            apply congrArg zI
            rw [Int.natCast_add, Int.natCast_mul]
            rw [Int.toNat_of_nonneg (by omega), Int.toNat_of_nonneg (by omega)]
          have lt : lv.toNat * w + cv.toNat < 32 := by
            have := Nat.mul_le_mul (show lv.toNat ≤ 3 by omega) hw
            omega
          rw [if_pos (by rw [zn l, z_lt (by omega) (by omega) (by omega) (by omega)]; exact u4), if_pos (by omega), e, wallb_ev H (by omega) lt, Ib, i_bz0]
          by_cases u5 : b.testBit (lv.toNat * w + cv.toNat) = true
          · rw [if_pos u5, if_pos u5]; rfl
          · rw [if_neg u5, if_neg u5]; rfl
        · rw [if_neg (by rw [zn l, z_lt (by omega) (by omega) (by omega) (by omega)]; exact u4), if_neg (by omega)]; rfl
theorem nb_nat {w l a t p q : Nat} (hw : 0 < w) (hw4 : w ≤ 4) (hp : a / w = p) (hq : a % w = q) (ht : t < 4) (hpl : p < l) (f : Nat → Option Nat) :
    (match nxg w l a t with | none => none | some b => f b) = (if 0 ≤ ((q : Int) + (if t = 1 then 1 else if t = 3 then -1 else 0)) ∧ ((q : Int) + (if t = 1 then 1 else if t = 3 then -1 else 0)) < w ∧ 0 ≤ ((p : Int) + (if t = 2 then 1 else if t = 0 then -1 else 0)) ∧ ((p : Int) + (if t = 2 then 1 else if t = 0 then -1 else 0)) < l then f ((((p : Int) + (if t = 2 then 1 else if t = 0 then -1 else 0))).toNat * w + (((q : Int) + (if t = 1 then 1 else if t = 3 then -1 else 0))).toNat) else none) := by
  have hqw : q < w := by rw [← hq]; exact Nat.mod_lt _ hw
  have ha : a = w * p + q := by rw [← hp, ← hq]; exact (Nat.div_add_mod a w).symm
  unfold nxg
  rw [hp, hq]
  rcases i4 ht with rfl | rfl | rfl | rfl
  · simp only [if_true, show ¬ (0 : Nat) = 1 by decide, show ¬ (0 : Nat) = 2 by decide, show ¬ (0 : Nat) = 3 by decide, if_false]
    by_cases u : p = 0
    · rw [if_pos u, if_neg (by omega)]
    · rw [if_neg u, if_pos (by omega)]
      show f _ = f _
      apply congrArg f
      obtain ⟨p', rfl⟩ : ∃ p', p = p' + 1 := ⟨p - 1, by omega⟩
      rw [show (((p' + 1 : Nat) : Int) + -1).toNat = p' by omega, show ((q : Int) + 0).toNat = q by omega, ha, Nat.mul_succ, Nat.mul_comm w p']
      omega
  · simp only [if_true, show ¬ (1 : Nat) = 0 by decide, show ¬ (1 : Nat) = 2 by decide, if_false]
    by_cases u : q + 1 < w
    · rw [if_pos u, if_pos (by omega)]
      show f _ = f _
      apply congrArg f
      rw [show ((p : Int) + 0).toNat = p by omega, show ((q : Int) + 1).toNat = q + 1 by omega, ha, Nat.mul_comm w p]
      omega
    · rw [if_neg u, if_neg (by omega)]
  · simp only [if_true, show ¬ (2 : Nat) = 0 by decide, show ¬ (2 : Nat) = 1 by decide, show ¬ (2 : Nat) = 3 by decide, if_false]
    by_cases u : p + 1 < l
    · rw [if_pos u, if_pos (by omega)]
      show f _ = f _
      apply congrArg f
      rw [show ((p : Int) + 1).toNat = p + 1 by omega, show ((q : Int) + 0).toNat = q by omega, ha, Nat.mul_comm w p, Nat.succ_mul]
      omega
    · rw [if_neg u, if_neg (by omega)]
  · simp only [if_true, show ¬ (3 : Nat) = 0 by decide, show ¬ (3 : Nat) = 1 by decide, show ¬ (3 : Nat) = 2 by decide, if_false]
    by_cases u : q = 0
    · rw [if_pos u, if_neg (by omega)]
    · rw [if_neg u, if_pos (by omega)]
      show f _ = f _
      apply congrArg f
      rw [show ((p : Int) + 0).toNat = p by omega, show ((q : Int) + -1).toNat = q - 1 by omega, ha, Nat.mul_comm w p]
      omega
theorem dl_c {ρ : Type} {t : Nat} (ht : t < 4) {f : Int32 → Option ρ} : (Option.bind (α := Int32) (if nI t = (1 : Int32) then some (1 : Int32) else (if nI t = (3 : Int32) then some (-1 : Int32) else some (0 : Int32))) f) = f (zI (if t = 1 then 1 else if t = 3 then -1 else 0)) := by
  rcases i4 ht with rfl | rfl | rfl | rfl <;> rfl
theorem dl_l {ρ : Type} {t : Nat} (ht : t < 4) {f : Int32 → Option ρ} : (Option.bind (α := Int32) (if nI t = (2 : Int32) then some (1 : Int32) else (if nI t = 0 then some (-1 : Int32) else some (0 : Int32))) f) = f (zI (if t = 2 then 1 else if t = 0 then -1 else 0)) := by
  rcases i4 ht with rfl | rfl | rfl | rfl <;> rfl
theorem nb_ev {d a t : Nat} {Y : YS} {h : Hp} (H0 : gI h d 0 = nI (yw Y)) (H1 : gI h d 1 = nI (yl Y)) (H3 : gI h d 3 = nI (yb Y)) (hb : yb Y < 4096) (hw : 0 < yw Y) (hw4 : yw Y ≤ 4) (hl : yl Y ≤ 3) (ha : a < ycl Y) (ht : t < 4) : f_X6_neighbour d (nI a) (nI t) h = some (oI (nxc Y a t)) := by
  have a12 : a < 12 := by have := Nat.mul_le_mul hw4 hl; unfold ycl at ha; omega
  have hpl : a / yw Y < yl Y := Nat.div_lt_of_lt_mul ha
  have hqw : a % yw Y < yw Y := Nat.mod_lt _ hw
  have b1 : (0 : Int) ≤ ((a / yw Y : Nat) : Int) := Int.natCast_nonneg _
  unfold f_X6_neighbour
  simp only [nm]
  rw [col_ev H0 hw hw4 (by omega), Ib, dl_c ht, line_ev H0 hw hw4 (by omega), Ib, dl_l ht, zn, zn, z_add, z_add, nb_core H0 H1 H3 hb hw4 hl (by split <;> (try split) <;> omega) (by split <;> (try split) <;> omega) (by split <;> (try split) <;> omega) (by split <;> (try split) <;> omega)]
  have e := nb_nat (l := yl Y) hw hw4 rfl rfl ht hpl (fun b => if (yb Y).testBit b = true then none else some b)
  exact congrArg (fun o => some (oI o)) e.symm
