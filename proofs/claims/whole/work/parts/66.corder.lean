/-! order: the class -/
def bRep (m : Nat) (acc : Bst) (h : Hp) : Prop := BstW acc ∧ match acc with
  | none => gI h 31 4 = -9 ∧ gI h 31 5 = 0
  | some x => gI h 31 4 = nI x.1 ∧ gI h 31 5 = nI x.2.1 ∧ ∀ i, i < m → gI h 34 i = nI (x.2.2.getD i 0)
theorem bRep.keep {m : Nat} {acc : Bst} {h h' : Hp} (R : bRep m acc h) (e1 : gI h' 31 4 = gI h 31 4) (e2 : gI h' 31 5 = gI h 31 5) (e3 : gI h' 34 = gI h 34) : bRep m acc h' := by
  obtain ⟨r1, r2⟩ := R
  refine ⟨r1, ?_⟩
  cases acc with
  | none => exact ⟨e1.trans r2.1, e2.trans r2.2⟩
  | some x => exact ⟨e1.trans r2.1, e2.trans r2.2.1, fun i hi => by rw [e3]; exact r2.2.2 i hi⟩
def sOf (a k : Nat) : Prop := a = 34 ∨ a = 31 ∧ (k = 4 ∨ k = 5)
theorem asc_s {w l : Nat} : asc (w + 1) l = asc w l ++ (if l.testBit w = true then [w] else []) := by
  unfold asc
  rw [List.range_succ, List.filter_append]
  by_cases q : l.testBit w = true
  · simp [q]
  · simp [q]
theorem asc_pre {l : Nat} : ∀ (d w : Nat), ∃ T, asc (w + d) l = asc w l ++ T
  | 0, w => ⟨[], (List.append_nil _).symm⟩
  | d + 1, w => by
    obtain ⟨T, hT⟩ := asc_pre (l := l) d w
    exact ⟨T ++ (if l.testBit (w + d) = true then [w + d] else []), by rw [← Nat.add_assoc, asc_s, hT, List.append_assoc]⟩
section CORD
variable {h : Hp} {F m : Nat}
theorem beats_ev {a st : Nat} {acc : Bst} (R : bRep m acc h) (ha : a < 100) (hst : st ≤ 60000) : f_X5_beats (nI a) (nI st) h = some (bz (btr a st acc)) := by
  obtain ⟨r1, r2⟩ := R
  unfold f_X5_beats
  cases acc with
  | none =>
    rw [r2.1, if_pos (by rw [zn, z_m9, z_lt (by omega) (by omega) (by omega) (by omega)]; omega)]; rfl
  | some x =>
    obtain ⟨b1, b2⟩ := r1 x rfl
    rw [r2.1, r2.2.1, i_lt (by omega) (by omega), i_eq (by omega) (by omega), i_le (by omega) (by omega)]
    by_cases q1 : x.1 < a
    · rw [if_pos q1, show btr a st (some x) = true by simp [btr, q1]]; rfl
    · rw [if_neg q1]
      by_cases q2 : a = x.1
      · rw [if_pos q2]
        by_cases q3 : x.2.1 ≤ st
        · rw [if_pos q3, btr_f.mpr ⟨x, rfl, Or.inr ⟨q2, q3⟩⟩]; rfl
        · rw [if_neg q3, show btr a st (some x) = true by simp only [btr, decide_eq_true q2, Bool.true_and, decide_eq_true (show st < x.2.1 by omega), Bool.or_true]]; rfl
      · rw [if_neg q2, btr_f.mpr ⟨x, rfl, Or.inl (by omega)⟩]; rfl
theorem cp5_ev {h : Hp} : cpI h 35 (0 : Int32) 34 (0 : Int32) (5 : Int32) = some (sA h 34 (va_cpy (gI h 35) (gI h 34) 0 0 5)) := by
  unfold cpI
  rw [if_pos (by decide)]; rfl
theorem offer_ev {a st pl rest : Nat} {pre : List Nat} {acc : Bst} (R : bRep m acc h) (ha : a ≤ 5) (hst : st ≤ 60000) (hm : m ≤ 5) (h0 : gI h 31 0 = nI m) (hp : pre.length = pl) (hpre : ∀ i, i < pl → gI h 35 i = nI (pre.getD i 0)) (hr : rest < 32) (hlen : pl + (asc m rest).length = m) (hF : 5 < F) : ∃ h', f_X5_offer F (nI a) (nI st) (nI pl) (nI rest) h = some h' ∧ bRep m (ofr acc a st (pre ++ asc m rest)) h' ∧ Eo sOf h h' := by
  unfold f_X5_offer
  simp only [nm]
  rw [beats_ev R (by omega) hst, Ib, i_bz0]
  cases hb : btr a st acc with
  | false =>
    rw [if_neg (by decide), ofr_n hb]
    exact ⟨h, rfl, R, Eo.refl⟩
  | true =>
    rw [if_pos rfl, ofr_y hb, cp5_ev, Ib, gf_ne (by decide), gf_ne (by decide), gf_ne (by decide), gf_ne (by decide)]
    have getL : ∀ (w i : Nat), i < pl → (pre ++ asc w rest).getD i 0 = pre.getD i 0 := fun w i hi => by
      rw [List.getD_eq_getElem?_getD, List.getD_eq_getElem?_getD, List.getElem?_append_left (by omega)]
    have fin : ∀ (w : Nat) (g : Hp), w ≤ m → Eo sOf h g → gI g 31 4 = nI a → gI g 31 5 = nI st → m ≤ pl + (asc w rest).length → (∀ i, i < pl + (asc w rest).length → gI g 34 i = nI ((pre ++ asc w rest).getD i 0)) → ∃ h', some g = some h' ∧ bRep m (some (a, st, pre ++ asc m rest)) h' ∧ Eo sOf h h' := by
      intro w g hw eo g4 g5 hl hg
      obtain ⟨T, hT⟩ := asc_pre (l := rest) (m - w) w
      rw [show w + (m - w) = m by omega] at hT
      have hT0 : T = [] := by
        have := congrArg List.length hT
        rw [List.length_append] at this
        exact List.eq_nil_of_length_eq_zero (by omega)
      rw [hT0, List.append_nil] at hT
      refine ⟨g, rfl, ⟨fun x hx => by cases hx; exact ⟨ha, hst⟩, g4, g5, fun i hi => ?_⟩, eo⟩
      rw [hT]
      exact hg i (by omega)
    refine fix_post (fun x => ∃ h', x = some h' ∧ bRep m (some (a, st, pre ++ asc m rest)) h' ∧ Eo sOf h h') (fun (w : Nat) (z : Int32 × Int32 × Hp) => z.1 = nI (pl + (asc w rest).length) ∧ z.2.1 = nI w ∧ Eo sOf h z.2.2 ∧ gI z.2.2 31 4 = nI a ∧ gI z.2.2 31 5 = nI st ∧ ∀ i, i < pl + (asc w rest).length → gI z.2.2 34 i = nI ((pre ++ asc w rest).getD i 0)) m ?_ (by omega) ?_ ?_
    · refine ⟨rfl, rfl, ((Eo.refl.sI (Or.inr ⟨rfl, Or.inl rfl⟩)).sI (Or.inr ⟨rfl, Or.inr rfl⟩)).sA (fun k => Or.inl rfl), ?_, ?_, fun i hi => ?_⟩
      · rw [gAj_ne (by decide), gI_nk (by decide), gI_eq]
      · rw [gAj_ne (by decide), gI_eq]
      · have hi2 : i < pl := hi
        rw [gAj_eq, pk_cpy_in (by omega) (by omega), Nat.sub_zero, Nat.zero_add, getL 0 i hi2]
        exact hpre i hi2
    · rintro w ⟨z1, z2, g⟩ hw ⟨rfl, rfl, eo, g4, g5, hg⟩ self hself
      have g0 : gI g 31 0 = nI m := by rw [eo.1 31 0 (by unfold sOf; omega)]; exact h0
      have lw : (asc w rest).length ≤ w := Nat.le_trans (List.length_filter_le _ _) (by rw [List.length_range]; exact Nat.le_refl _)
      simp only at eo g4 g5 hg ⊢
      rw [g0, if_neg (nle_k (by omega) hw), i_le (by omega) (by omega)]
      by_cases q : m ≤ pl + (asc w rest).length
      · rw [if_pos q]
        exact fin w g (by omega) eo g4 g5 q hg
      · rw [if_neg q, i_tb1 (by omega) (by omega), st_34 (by omega), Ib, n_add1, n_add1]
        by_cases q2 : rest.testBit w = true
        · rw [if_pos q2, Ib]
          refine hself _ ⟨?_, rfl, eo.sI (Or.inl rfl), ?_, ?_, fun i hi => ?_⟩
          · rw [asc_s, if_pos q2, List.length_append]; rfl
          · show gI (sI g 34 _ _) 31 4 = _
            rw [gI_ne (by decide)]; exact g4
          · show gI (sI g 34 _ _) 31 5 = _
            rw [gI_ne (by decide)]; exact g5
          · rw [asc_s, if_pos q2, List.length_append] at hi
            have hi' : i < pl + ((asc w rest).length + 1) := hi
            show gI (sI g 34 (pl + (asc w rest).length) (nI w)) 34 i = _
            rw [asc_s, if_pos q2, ← List.append_assoc, pre_at (d := pl + (asc w rest).length) (by rw [List.length_append, hp]) (by omega), gI_at]
            by_cases e : i = pl + (asc w rest).length
            · rw [if_pos e, if_pos e]
            · rw [if_neg e, if_neg e]; exact hg i (by omega)
        · rw [if_neg q2, Ib]
          have e1 : asc (w + 1) rest = asc w rest := by rw [asc_s, if_neg q2, List.append_nil]
          refine hself _ ⟨?_, rfl, eo, g4, g5, ?_⟩
          · rw [e1]
          · rw [e1]; exact hg
    · rintro ⟨z1, z2, g⟩ ⟨rfl, rfl, eo, g4, g5, hg⟩ self
      have g0 : gI g 31 0 = nI m := by rw [eo.1 31 0 (by unfold sOf; omega)]; exact h0
      simp only at eo g4 g5 hg ⊢
      rw [g0, if_pos (rf_le (by omega))]
      exact fin m g (Nat.le_refl _) eo g4 g5 (by omega) hg
end CORD
theorem clw_fin : alN 32 (fun l => alN 5 fun w => decide (nI l &&& (((1 : Int32) <<< (nI w &&& 31)) ^^^ (-1 : Int32)) = nI (clw l w)) && decide ((clw l w = l) ↔ l.testBit w = false)) = true := by decide +kernel
theorem clw_ev {l w : Nat} (hl : l < 32) (hw : w < 5) : nI l &&& (((1 : Int32) <<< (nI w &&& 31)) ^^^ (-1 : Int32)) = nI (clw l w) ∧ ((clw l w = l) ↔ l.testBit w = false) := by
  have f := alN_get (alN_get clw_fin hl) hw
  rw [Bool.and_eq_true, decide_eq_true_eq, decide_eq_true_eq] at f
  exact f
def Kb : Nat → Nat
  | 0 => 0
  | r + 1 => 5 + 5 * Kb r
section CORD2
variable {y : Nat} {Z : SS} {F m : Nat} {c : Nat → Nat} {N : Nat → Nat → Option Ent}
def KeepA (d : Nat) (h h' : Hp) : Prop := Eo sCw h h' ∧ gI h' 31 0 = gI h 31 0 ∧ gI h' 32 = gI h 32 ∧ gI h' 33 = gI h 33 ∧ (∀ i, i < d → gI h' 35 i = gI h 35 i) ∧ (∀ j, j < 5 * d → gI h' 36 j = gI h 36 j ∧ gI h' 37 j = gI h 37 j)
theorem KeepA.refl {d : Nat} {h : Hp} : KeepA d h h := ⟨Eo.refl, rfl, rfl, rfl, fun _ _ => rfl, fun _ _ => ⟨rfl, rfl⟩⟩
theorem KeepA.trans {d : Nat} {h h' h'' : Hp} (A : KeepA d h h') (B : KeepA d h' h'') : KeepA d h h'' := ⟨A.1.trans B.1, B.2.1.trans A.2.1, B.2.2.1.trans A.2.2.1, B.2.2.2.1.trans A.2.2.2.1, fun i hi => (B.2.2.2.2.1 i hi).trans (A.2.2.2.2.1 i hi), fun j hj => ⟨(B.2.2.2.2.2 j hj).1.trans (A.2.2.2.2.2 j hj).1, (B.2.2.2.2.2 j hj).2.trans (A.2.2.2.2.2 j hj).2⟩⟩
theorem KeepA.se {d : Nat} {h h' : Hp} (e : Eo sSe h h') : KeepA d h h' := ⟨e.se, e.1 31 0 (by unfold sSe; omega), e.row (fun k => by unfold sSe; omega), e.row (fun k => by unfold sSe; omega), fun i _ => e.1 35 i (by unfold sSe; omega), fun j _ => ⟨e.1 36 j (by unfold sSe; omega), e.1 37 j (by unfold sSe; omega)⟩⟩
theorem KeepA.of {d : Nat} {h h' : Hp} (e : Eo sOf h h') : KeepA d h h' := ⟨e.mono (fun a k q => by unfold sOf at q; unfold sCw; omega), e.1 31 0 (by unfold sOf; omega), e.row (fun k => by unfold sOf; omega), e.row (fun k => by unfold sOf; omega), fun i _ => e.1 35 i (by unfold sOf; omega), fun j _ => ⟨e.1 36 j (by unfold sOf; omega), e.1 37 j (by unfold sOf; omega)⟩⟩
theorem KeepA.mono {d d' : Nat} {h h' : Hp} (A : KeepA d h h') (hd : d' ≤ d) : KeepA d' h h' := ⟨A.1, A.2.1, A.2.2.1, A.2.2.2.1, fun i hi => A.2.2.2.2.1 i (by omega), fun j hj => A.2.2.2.2.2 j (by omega)⟩
theorem KeepA.st35 {d : Nat} {h : Hp} {v : Int32} : KeepA d h (sI h 35 d v) := ⟨Eo.refl.sI ⟨by omega, by omega⟩, gI_ne (by decide), gf_ne (by decide), gf_ne (by decide), fun i hi => gI_nk (by omega), fun j _ => ⟨gI_ne (by decide), gI_ne (by decide)⟩⟩
theorem KeepA.st67 {d w : Nat} {h : Hp} {v v' : Int32} : KeepA d h (sI (sI h 36 (d * 5 + w) v) 37 (d * 5 + w) v') := ⟨(Eo.refl.sI ⟨by omega, by omega⟩).sI ⟨by omega, by omega⟩, by rw [gI_ne (by decide), gI_ne (by decide)], by rw [gf_ne (by decide), gf_ne (by decide)], by rw [gf_ne (by decide), gf_ne (by decide)], fun i hi => by rw [gI_ne (by decide), gI_ne (by decide)], fun j hj => ⟨by rw [gI_ne (by decide), gI_nk (by omega)], by rw [gI_nk (by omega), gI_ne (by decide)]⟩⟩
theorem SI.off {Y : YS} {t op B : Nat} {h h' : Hp} (I : SI Y t op B h) (e : ∀ a k, 23 ≤ a ∧ a ≤ 30 → gI h' a k = gI h a k) : SI Y t op B h' := I.keep fun a h1 h2 => funext fun k => e a k ⟨h1, h2⟩
theorem arr_lp {B d left hope s st : Nat} {acc : Bst} {h : Hp} (hNe : ∀ s k, N s k = nst (bfin (sY Z) (ct (sC Z)) (co (sC Z)) s) (c k / 100) (c k % 100)) (w : SWf Z) (hm : m ≤ 5) (hc : ∀ i, i < m → c i / 100 < yn (sY Z) ∧ c i % 100 < ycl (sY Z)) (hd : d < 5) (hl : left < 32) (hh : hope < 32) (S : SW (sY Z) s) (ci : CI y Z h) (si : SIZ Z B h) (h0 : gI h 31 0 = nI m) (h32 : ∀ i, i < m → gI h 32 i = nI (c i / 100) ∧ gI h 33 i = nI (c i % 100)) (R : bRep m acc h) (hB : B < 1900000000) (hF : 20736 < F) {ρ : Type} (K : Int32 → Hp → Option ρ) : ∃ g, fix (σ := Int32 × Int32 × Hp) (ρ := ρ) (fun self6 s5 => (if (gI s5.2.2 31 0) ≤ s5.2.1 then K s5.1 s5.2.2 else ((Option.bind (α := Int32) ((if (((nI left &&& nI hope) >>> (s5.2.1 &&& 31)) &&& (1 : Int32)) = (1 : Int32) then some (1 : Int32) else some (0 : Int32))) fun t27 => (Option.bind (α := Int32 × Hp) ((if t27 = 0 then some ((-9 : Int32), s5.2.2) else ((ldI s5.2.2 32 s5.2.1).bind fun v32 => (ldI s5.2.2 33 s5.2.1).bind fun v33 => (f_X3_nearest F (nI s) v32 v33 s5.2.2).bind fun v34 => some (v34.1, v34.2)))) fun t30 => (Option.bind (α := Int32 × Hp) ((if t30.1 = (-9 : Int32) then some (s5.1, t30.2) else ((f_X3_stand t30.1 t30.2).bind fun v39 => (stI t30.2 36 ((nI d * (5 : Int32)) + s5.2.1) v39).bind fun h40 => (f_X3_depth t30.1 h40).bind fun v41 => (stI h40 37 ((nI d * (5 : Int32)) + s5.2.1) v41).bind fun h42 => some ((s5.1 ||| ((1 : Int32) <<< (s5.2.1 &&& 31))), h42)))) fun t36 => self6 (t36.1, (s5.2.1 + 1), t36.2))))))) F ((0 : Int32), (0 : Int32), h) = K (nI (abl N m left hope s)) g ∧ KeepA d h g ∧ SIZ Z (B + 5) g ∧ bRep m acc g ∧ ∀ k, k < m → (abl N m left hope s).testBit k = true → ∃ b, N s k = some b ∧ gI g 36 (d * 5 + k) = nI b.1 ∧ gI g 37 (d * 5 + k) = nI b.2.1 := by
  have W := w.1
  have hn := W.2.2.1
  have hcl := ycl_le W
  have o16 := op16 W w.2.1.2.2.1
  have lh : left &&& hope < 32 := Nat.lt_of_le_of_lt Nat.and_le_left hl
  unfold abl
  generalize hp : (fun w => left.testBit w && hope.testBit w && (N s w).isSome) = p
  have b32 : ∀ k, k ≤ m → bts p k < 32 := fun k hk => Nat.lt_of_lt_of_le (bts_lt p k) (Nat.pow_le_pow_right (n := 2) (by decide) (show k ≤ 5 by omega))
  refine fix_post (fun x => ∃ g, x = K (nI (bts p m)) g ∧ KeepA d h g ∧ SIZ Z (B + 5) g ∧ bRep m acc g ∧ ∀ k, k < m → (bts p m).testBit k = true → ∃ b, N s k = some b ∧ gI g 36 (d * 5 + k) = nI b.1 ∧ gI g 37 (d * 5 + k) = nI b.2.1) (fun (k : Nat) (z : Int32 × Int32 × Hp) => z.1 = nI (bts p k) ∧ z.2.1 = nI k ∧ KeepA d h z.2.2 ∧ SIZ Z (B + k) z.2.2 ∧ bRep m acc z.2.2 ∧ ∀ j, j < k → p j = true → ∃ b, N s j = some b ∧ gI z.2.2 36 (d * 5 + j) = nI b.1 ∧ gI z.2.2 37 (d * 5 + j) = nI b.2.1) m ?_ (by omega) ?_ ?_
  · exact ⟨rfl, rfl, KeepA.refl, si, R, fun j hj => absurd hj (Nat.not_lt_zero j)⟩
  · rintro k ⟨z1, z2, g⟩ hk ⟨rfl, rfl, ka, sig, Rg, hb⟩ self hself
    have cig := ci.ofCw ka.1
    have bk := b32 k (by omega)
    have p32 : 2 ^ k < 32 := pow_lt (n := 5) (by omega)
    have hpk : p k = (left.testBit k && hope.testBit k && (N s k).isSome) := by rw [← hp]
    simp only at ka sig Rg hb ⊢
    rw [ka.2.1, h0, if_neg (nle_k (by omega) hk), n_and (by omega) (by omega), i_tb1 (by omega) (by omega), Nat.testBit_and, n_add1]
    have stay : ∀ g2, Eo sSe g g2 → SIZ Z (B + k + 1) g2 → p k = false → ∃ g', self (nI (bts p k), nI (k + 1), g2) = K (nI (bts p m)) g' ∧ KeepA d h g' ∧ SIZ Z (B + 5) g' ∧ bRep m acc g' ∧ ∀ k, k < m → (bts p m).testBit k = true → ∃ b, N s k = some b ∧ gI g' 36 (d * 5 + k) = nI b.1 ∧ gI g' 37 (d * 5 + k) = nI b.2.1 := by
      intro g2 e2 s2 hf
      refine hself _ ⟨by rw [bts_s0 hf], rfl, ka.trans (KeepA.se e2), s2, Rg.keep (e2.1 31 4 (by unfold sSe; omega)) (e2.1 31 5 (by unfold sSe; omega)) (e2.row fun k => by unfold sSe; omega), fun j hj hpj => ?_⟩
      by_cases e : j = k
      · subst e; rw [hf] at hpj; cases hpj
      · obtain ⟨b, b1, b2, b3⟩ := hb j (by omega) hpj
        exact ⟨b, b1, by show gI g2 36 _ = _; rw [e2.1 36 _ (by unfold sSe; omega)]; exact b2, by show gI g2 37 _ = _; rw [e2.1 37 _ (by unfold sSe; omega)]; exact b3⟩
    by_cases q : (left.testBit k && hope.testBit k) = true
    · rw [if_pos q, Ib, i10]
      obtain ⟨g2, n1, n2, hcase⟩ := nearest_ev (F := F) (i := c k / 100) (c := c k % 100) cig.cx sig W o16 S (hc k hk).1 (by have := (hc k hk).2; omega) (by omega) hF
      have l32 : gI g 32 k = nI (c k / 100) := by rw [ka.2.2.1]; exact (h32 k hk).1
      have l33 : gI g 33 k = nI (c k % 100) := by rw [ka.2.2.2.1]; exact (h32 k hk).2
      rw [ld_32 (by omega), l32, Ib, ld_33 (by omega), l33, Ib, bindself]
      rcases hcase with ⟨q1, q2⟩ | ⟨b, pp, q1, q2, q3, q4⟩
      · rw [q2, Ib, if_pos rfl, Ib]
        exact stay g2 n2 (n1.si W) (by rw [hpk, hNe, q1]; simp)
      · have hpl := get_lt q2
        obtain ⟨-, -, hlen⟩ := bfin_ok (t := ct (sC Z)) (op := co (sC Z)) W S
        have hpt : p k = true := by rw [hpk, q, hNe, q1]; rfl
        rw [q4, Ib, i_m9 (by omega), stand_ev n1 W q3 q2, Ib, lit_5, pk_mul, nI_add, st_36 (by omega), Ib, depth_ev (n1.keep fun a k q => gI_ne (by omega)) W (q3.keep (gI_ne (by decide))) q2, Ib, st_37 (by omega), Ib, n_shl (by omega), n_or (by omega) (by omega), Ib]
        refine hself _ ⟨by rw [bts_s1 hpt], rfl, (ka.trans (KeepA.se n2)).trans KeepA.st67, ?_, ?_, fun j hj hpj => ?_⟩
        · show SI _ _ _ (B + k + 1) _
          exact (n1.si W).off fun a k q => by rw [gI_ne (by omega), gI_ne (by omega)]
        · exact (Rg.keep (n2.1 31 4 (by unfold sSe; omega)) (n2.1 31 5 (by unfold sSe; omega)) (n2.row fun k => by unfold sSe; omega)).keep (by show gI (sI (sI g2 36 _ _) 37 _ _) 31 4 = _; rw [gI_ne (by decide), gI_ne (by decide)]) (by show gI (sI (sI g2 36 _ _) 37 _ _) 31 5 = _; rw [gI_ne (by decide), gI_ne (by decide)]) (by show gI (sI (sI g2 36 _ _) 37 _ _) 34 = _; rw [gf_ne (by decide), gf_ne (by decide)])
        · by_cases e : j = k
          · subst e
            refine ⟨b, (hNe s j).trans q1, ?_, gI_eq⟩
            show gI (sI (sI g2 36 _ _) 37 _ _) 36 _ = _
            rw [gI_ne (by decide), gI_eq]
          · obtain ⟨b', b1, b2, b3⟩ := hb j (by omega) hpj
            refine ⟨b', b1, ?_, ?_⟩
            · show gI (sI (sI g2 36 _ _) 37 _ _) 36 _ = _
              rw [gI_ne (by decide), gI_nk (by omega), n2.1 36 _ (by unfold sSe; omega)]; exact b2
            · show gI (sI (sI g2 36 _ _) 37 _ _) 37 _ = _
              rw [gI_nk (by omega), gI_ne (by decide), n2.1 37 _ (by unfold sSe; omega)]; exact b3
    · rw [if_neg q, Ib, i00, Ib, if_pos rfl, Ib]
      exact stay g Eo.refl (SI.mono sig (by omega)) (by rw [hpk, show (left.testBit k && hope.testBit k) = false by simpa using q]; rfl)
  · rintro ⟨z1, z2, g⟩ ⟨rfl, rfl, ka, sig, Rg, hb⟩ self
    simp only at ka sig Rg hb ⊢
    rw [ka.2.1, h0, if_pos (rf_le (by omega))]
    refine ⟨g, rfl, ka, SI.mono sig (by omega), Rg, fun k hk hbk => hb k hk ?_⟩
    rw [bts_tb, decide_eq_true hk, Bool.true_and] at hbk
    exact hbk
theorem arrange_ev (hNe : ∀ s k, N s k = nst (bfin (sY Z) (ct (sC Z)) (co (sC Z)) s) (c k / 100) (c k % 100)) (hN : Nok (SW (sY Z)) N) (w : SWf Z) (hm : m ≤ 5) (hc : ∀ i, i < m → c i / 100 < yn (sY Z) ∧ c i % 100 < ycl (sY Z)) (hF : 20736 < F) : ∀ (r D d left hope s st B : Nat) (pre : List Nat) (acc : Bst) (h : Hp), d + r = m → r < D → left < 32 → hope < 32 → (asc m left).length = r → SW (sY Z) s → st ≤ 12000 * d → CI y Z h → SIZ Z B h → gI h 31 0 = nI m → (∀ i, i < m → gI h 32 i = nI (c i / 100) ∧ gI h 33 i = nI (c i % 100)) → pre.length = d → (∀ i, i < d → gI h 35 i = nI (pre.getD i 0)) → bRep m acc h → B + Kb r < 1900000000 → ∃ h', f_X5_arrange F D (nI d) (nI s) (nI st) (nI left) (nI hope) h = some h' ∧ bRep m (cA N m r pre left hope s st acc) h' ∧ KeepA d h h' ∧ SIZ Z (B + Kb r) h'
  | 0, D + 1, d, left, hope, s, st, B, pre, acc, h, hd, _, hl, hh, has, S, hst, ci, si, h0, h32, hp, hpre, R, hB => by
    have hd' : d = m := by omega
    subst hd'
    have has0 : (asc d 0).length = 0 := by rw [asc_0 (fun w _ => Nat.zero_testBit w)]; rfl
    obtain ⟨h', a1, a2, a3⟩ := offer_ev (F := F) (a := d) (rest := 0) R (by omega) (show st ≤ 60000 by omega) hm h0 hp hpre (by decide) (by omega) (by omega)
    refine ⟨h', ?_, ?_, KeepA.of a3, si.off fun a k q => a3.1 a k (by unfold sOf; omega)⟩
    · unfold f_X5_arrange
      simp only [jn]
      rw [h0, if_pos (rf_le (by omega)), lit_0, a1]; rfl
    · rw [asc_nil has0, List.append_nil] at a2
      rw [cA, hp]
      exact a2
  | r + 1, D + 1, d, left, hope, s, st, B, pre, acc, h, hd, hD, hl, hh, has, S, hst, ci, si, h0, h32, hp, hpre, R, hB => by
    have W := w.1
    have kb : Kb (r + 1) = 5 + 5 * Kb r := rfl
    unfold f_X5_arrange
    simp only [nm, jn]
    rw [h0, if_neg (nle_k (by omega) (by omega)), lit_5, i_lt (by omega) (by decide), if_pos (by omega)]
    obtain ⟨g, e1, ka, sig, Rg, hb⟩ := arr_lp (F := F) (B := B) (d := d) (left := left) (hope := hope) (s := s) (st := st) (acc := acc) hNe w hm hc (by omega) hl hh S ci si h0 h32 R (by omega) hF (fun a g => (f_J6_bitCount_0f7a4 a g).bind fun v8 => (f_X5_beats (nI d + v8) (nI st) g).bind fun v9 => (if v9 = 0 then some g else (fix (σ := Int32 × Hp) (ρ := Hp) (fun self11 s10 => (if (gI s10.2 31 0) ≤ s10.1 then some s10.2 else ((Option.bind (α := Hp) ((if ((a >>> (s10.1 &&& 31)) &&& (1 : Int32)) = (1 : Int32) then ((stI s10.2 35 (nI d) s10.1).bind fun h20 => (ldI h20 36 ((nI d * nI 5) + s10.1)).bind fun v21 => (ldI h20 37 ((nI d * nI 5) + s10.1)).bind fun v22 => (f_X5_arrange F D (nI d + (1 : Int32)) v21 (nI st + v22) (nI left &&& (((1 : Int32) <<< (s10.1 &&& 31)) ^^^ (-1 : Int32))) a h20).bind fun h23 => some h23) else (if (nI left &&& (((1 : Int32) <<< (s10.1 &&& 31)) ^^^ (-1 : Int32))) = nI left then some s10.2 else ((stI s10.2 35 (nI d) s10.1).bind fun h17 => (f_X5_offer F (nI d) (nI st) (nI d + (1 : Int32)) (nI left &&& (((1 : Int32) <<< (s10.1 &&& 31)) ^^^ (-1 : Int32))) h17).bind fun h18 => some h18)))) fun t15 => self11 ((s10.1 + 1), t15))))) F ((0 : Int32), g))))
    have al : abl N m left hope s < 32 := Nat.lt_of_lt_of_le (bts_lt _ m) (Nat.pow_le_pow_right (n := 2) (by decide) (show m ≤ 5 by omega))
    have pl : pcn (abl N m left hope s) ≤ 8 := cnt_le _ _
    have g0 : gI g 31 0 = nI m := by rw [ka.2.1]; exact h0
    rw [show (5 : Int32) = nI 5 from rfl] at e1
    refine (show ∃ h', _ = some h' ∧ _ from ?_)
    rw [e1, bitc_ev (by omega), Ib, nI_add, beats_ev Rg (by omega) (by omega), Ib, i_bz0, cA, hp]
    have hAl : ∀ k, k < m → (abl N m left hope s).testBit k = true → left.testBit k = true := fun k hk hAk => by
      unfold abl at hAk
      rw [bts_tb, decide_eq_true hk, Bool.true_and, Bool.and_eq_true, Bool.and_eq_true] at hAk
      exact hAk.1.1
    generalize abl N m left hope s = A at *
    cases hbt : btr (d + pcn A) st acc with
    | false =>
      rw [if_neg (by decide), if_neg (by decide)]
      exact ⟨g, rfl, Rg, ka, SI.mono sig (by omega)⟩
    | true =>
      rw [if_pos rfl, if_pos rfl]
      have fs : ∀ j, (List.range (j + 1)).foldl (fun acc k => if A.testBit k = true then (match N s k with
        | some b => cA N m r (pre ++ [k]) (clw left k) A b.1 (st + b.2.1) acc
        | none => acc) else if left.testBit k = true then ofr acc d st (pre ++ [k] ++ asc m (clw left k)) else acc) acc = (fun acc k => if A.testBit k = true then (match N s k with
        | some b => cA N m r (pre ++ [k]) (clw left k) A b.1 (st + b.2.1) acc
        | none => acc) else if left.testBit k = true then ofr acc d st (pre ++ [k] ++ asc m (clw left k)) else acc) ((List.range j).foldl (fun acc k => if A.testBit k = true then (match N s k with
        | some b => cA N m r (pre ++ [k]) (clw left k) A b.1 (st + b.2.1) acc
        | none => acc) else if left.testBit k = true then ofr acc d st (pre ++ [k] ++ asc m (clw left k)) else acc) acc) j := by
        intro j
        rw [List.range_succ, List.foldl_append, List.foldl_cons, List.foldl_nil]
      refine fix_post (fun x => ∃ h', x = some h' ∧ bRep m ((List.range m).foldl (fun acc k => if A.testBit k = true then (match N s k with
        | some b => cA N m r (pre ++ [k]) (clw left k) A b.1 (st + b.2.1) acc
        | none => acc) else if left.testBit k = true then ofr acc d st (pre ++ [k] ++ asc m (clw left k)) else acc) acc) h' ∧ KeepA d h h' ∧ SIZ Z (B + Kb (r + 1)) h') (fun (j : Nat) (z : Int32 × Hp) => z.1 = nI j ∧ KeepA d h z.2 ∧ (∀ k, k < m → A.testBit k = true → ∃ b, N s k = some b ∧ gI z.2 36 (d * 5 + k) = nI b.1 ∧ gI z.2 37 (d * 5 + k) = nI b.2.1) ∧ SIZ Z (B + 5 + j * Kb r) z.2 ∧ bRep m ((List.range j).foldl (fun acc k => if A.testBit k = true then (match N s k with
        | some b => cA N m r (pre ++ [k]) (clw left k) A b.1 (st + b.2.1) acc
        | none => acc) else if left.testBit k = true then ofr acc d st (pre ++ [k] ++ asc m (clw left k)) else acc) acc) z.2) m ?_ (by omega) ?_ ?_
      · exact ⟨rfl, ka, hb, by rw [Nat.zero_mul]; exact sig, Rg⟩
      · rintro j ⟨z1, g1⟩ hj ⟨rfl, ka1, hb1, si1, R1⟩ self hself
        have g10 : gI g1 31 0 = nI m := by rw [ka1.2.1]; exact h0
        have ci1 := ci.ofCw ka1.1
        obtain ⟨cl1, cl2⟩ := clw_ev hl (show j < 5 by omega)
        have cl3 := clw_lt (w := j) hl
        have jk : (j + 1) * Kb r = j * Kb r + Kb r := Nat.succ_mul _ _
        have jk2 : (j + 1) * Kb r ≤ 5 * Kb r := Nat.mul_le_mul_right _ (by omega)
        have fs2 := fs j
        simp only at ka1 hb1 si1 R1 ⊢
        generalize hacc : (List.range j).foldl (fun acc k => if A.testBit k = true then (match N s k with
          | some b => cA N m r (pre ++ [k]) (clw left k) A b.1 (st + b.2.1) acc
          | none => acc) else if left.testBit k = true then ofr acc d st (pre ++ [k] ++ asc m (clw left k)) else acc) acc = a at *
        clear fs hacc
        have pre' : ∀ i, i < d + 1 → gI (sI g1 35 d (nI j)) 35 i = nI ((pre ++ [j]).getD i 0) := fun i hi => by
          rw [pre_at hp hi, gI_at]
          by_cases e : i = d
          · rw [if_pos e, if_pos e]
          · rw [if_neg e, if_neg e, ka1.2.2.2.2.1 i (by omega)]; exact hpre i (by omega)
        have hpl : (pre ++ [j]).length = d + 1 := by rw [List.length_append, hp]; rfl
        have keep2 : ∀ g2, KeepA (d + 1) (sI g1 35 d (nI j)) g2 → ∀ k, k < m → A.testBit k = true → ∃ b, N s k = some b ∧ gI g2 36 (d * 5 + k) = nI b.1 ∧ gI g2 37 (d * 5 + k) = nI b.2.1 := fun g2 k2 k hk hAk => by
          obtain ⟨b, b1, b2, b3⟩ := hb1 k hk hAk
          obtain ⟨k3, k4⟩ := k2.2.2.2.2.2 (d * 5 + k) (by omega)
          exact ⟨b, b1, by rw [k3, gI_ne (by decide)]; exact b2, by rw [k4, gI_ne (by decide)]; exact b3⟩
        have R35 : bRep m a (sI g1 35 d (nI j)) := R1.keep (gI_ne (by decide)) (gI_ne (by decide)) (gf_ne (by decide))
        rw [g10, if_neg (nle_k (by omega) hj), i_tb1 (by omega) (by omega), cl1]
        by_cases q : A.testBit j = true
        · obtain ⟨b, b1, b2, b3⟩ := hb1 j hj q
          obtain ⟨Sb, bd, -⟩ := hN s j b S b1
          have fs3 : (List.range (j + 1)).foldl (fun acc k => if A.testBit k = true then (match N s k with
            | some b => cA N m r (pre ++ [k]) (clw left k) A b.1 (st + b.2.1) acc
            | none => acc) else if left.testBit k = true then ofr acc d st (pre ++ [k] ++ asc m (clw left k)) else acc) acc = cA N m r (pre ++ [j]) (clw left j) A b.1 (st + b.2.1) a := by
            rw [fs2]
            simp only
            rw [if_pos q, b1]
          have lj : left.testBit j = true := hAl j hj q
          obtain ⟨as1, -⟩ := asc_1 hm hl hj lj
          rw [if_pos q, st_35 (by omega), Ib, pk_mul, nI_add, ld_36 (by omega), gI_ne (by decide), b2, Ib, ld_37 (by omega), gI_ne (by decide), b3, Ib, nI_add, n_add1, n_add1]
          obtain ⟨g2, c1, c2, c3, c4⟩ := arrange_ev hNe hN w hm hc hF r D (d + 1) (clw left j) A b.1 (st + b.2.1) (B + 5 + j * Kb r) (pre ++ [j]) a (sI g1 35 d (nI j)) (by omega) (by omega) cl3 al (by omega) Sb (by omega) (ci1.ofCw (KeepA.st35 (d := d)).1) (si1.off fun a k q => gI_ne (by omega)) (by rw [gI_ne (by decide)]; exact g10) (fun i hi => ⟨by rw [gI_ne (by decide), ka1.2.2.1]; exact (h32 i hi).1, by rw [gI_ne (by decide), ka1.2.2.2.1]; exact (h32 i hi).2⟩) hpl pre' R35 (by omega)
          rw [c1, Ib, Ib]
          refine hself _ ⟨rfl, (ka1.trans KeepA.st35).trans (c3.mono (by omega)), keep2 g2 c3, ?_, by rw [fs3]; exact c2⟩
          rw [jk]
          exact SI.mono c4 (by omega)
        · have qf : A.testBit j = false := by simpa using q
          rw [if_neg q, i_eq (by omega) (by omega)]
          by_cases q2 : left.testBit j = true
          · have fs3 : (List.range (j + 1)).foldl (fun acc k => if A.testBit k = true then (match N s k with
              | some b => cA N m r (pre ++ [k]) (clw left k) A b.1 (st + b.2.1) acc
              | none => acc) else if left.testBit k = true then ofr acc d st (pre ++ [k] ++ asc m (clw left k)) else acc) acc = ofr a d st (pre ++ [j] ++ asc m (clw left j)) := by
              rw [fs2]
              simp only
              rw [if_neg q, if_pos q2]
            obtain ⟨as1, -⟩ := asc_1 hm hl hj q2
            obtain ⟨g2, c1, c2, c3⟩ := offer_ev (F := F) (a := d) (st := st) (pl := d + 1) (rest := clw left j) (pre := pre ++ [j]) R35 (by omega) (by omega) hm (by rw [gI_ne (by decide)]; exact g10) hpl pre' cl3 (by omega) (by omega)
            rw [if_neg (fun z => by rw [cl2.mp z] at q2; cases q2), st_35 (by omega), Ib, n_add1, n_add1, c1, Ib, Ib]
            refine hself _ ⟨rfl, (ka1.trans KeepA.st35).trans (KeepA.of c3), keep2 g2 (KeepA.of c3), ?_, by rw [fs3]; exact c2⟩
            rw [jk]
            exact SI.mono (si1.off fun a k q => by
              show gI g2 a k = _
              rw [c3.1 a k (by unfold sOf; omega), gI_ne (by omega)]) (by omega)
          · have fs3 : (List.range (j + 1)).foldl (fun acc k => if A.testBit k = true then (match N s k with
              | some b => cA N m r (pre ++ [k]) (clw left k) A b.1 (st + b.2.1) acc
              | none => acc) else if left.testBit k = true then ofr acc d st (pre ++ [k] ++ asc m (clw left k)) else acc) acc = a := by
              rw [fs2]
              simp only
              rw [if_neg q, if_neg q2]
            rw [if_pos (cl2.mpr (by simpa using q2)), Ib, n_add1]
            refine hself _ ⟨rfl, ka1, hb1, ?_, by rw [fs3]; exact R1⟩
            rw [jk]
            exact SI.mono si1 (by omega)
      · rintro ⟨z1, g1⟩ ⟨rfl, ka1, hb1, si1, R1⟩ self
        have g10 : gI g1 31 0 = nI m := by rw [ka1.2.1]; exact h0
        have mk : m * Kb r ≤ 5 * Kb r := Nat.mul_le_mul_right _ hm
        simp only at ka1 hb1 si1 R1 ⊢
        rw [g10, if_pos (rf_le (by omega))]
        exact ⟨g1, rfl, R1, ka1, SI.mono si1 (by omega)⟩
end CORD2
