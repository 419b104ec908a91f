/-! what answers need of rows and of what is told; loops that look through the search -/
theorem PB.mono {B B' : Nat} {h : Hp} (I : PB B h) (hB : B ≤ B') : PB B' h := by
  obtain ⟨y, Z, w, i1, i2, i3⟩ := I
  exact ⟨y, Z, w, i1, i2, SI.mono i3 hB⟩
theorem Alk.to {P Q : Hp → Prop} {A M : Hp → Option (Int32 × Hp)} {h : Hp} (H : Alk P A M h) (hQ : ∀ h, P h → Q h) : Alk2 P Q A M h := by
  obtain ⟨v, h1, h2, e1, e2, I⟩ := H
  exact ⟨v, h1, h2, e1, e2, I.1, I.2.1, I.2.2.1, hQ _ I.2.2.2⟩
section CORER
variable {B B' : Nat} {h : Hp} {A M : Hp → Option (Int32 × Hp)}
theorem alk_coreR {Z : SS} (I : Inv0 (PB B) h) (i2 : MI Z h) (K : ∃ v h1, A h = some (v, h1) ∧ Sm1 h h1 ∧ ∃ y' Z', SWf Z' ∧ CI y' Z' h1 ∧ SIZ Z' B' h1 ∧ ∀ h', MI Z h' → (∀ a k, 66 ≤ a → gI h' a k = gI h a k) → ∃ h2, M h' = some (v, h2) ∧ Sm2 h' h2 ∧ MI Z' h2) : Alk2 (PB B) (PB B') A M h := by
  obtain ⟨v, h1, e1, s1, y', Z', w', c1, d1, k⟩ := K
  obtain ⟨h2, e2, s2, m2⟩ := k h1 (i2.keep fun a k q => s1 a k (Or.inr (by unfold cM at q; omega))) (fun a k q => s1 a k (Or.inr q))
  refine ⟨v, h1, h2, e1, e2, inv_irr I (fun a k q => (s2.1 a k (Or.inl q)).trans (s1 a k (Or.inl q))) (PB_oth.mpr ⟨y', Z', w', ?_, m2, ?_⟩)⟩
  · have hy : y' = 41 ∨ y' = 49 := c1.1
    exact c1.keep (fun a k q => s2.1 a k (Or.inr (by unfold cCy at q; omega))) (by rw [s2.2]) (by rw [s2.2]) (by rw [s2.2])
  · exact SI.keep d1 (fun a h1 h2 => funext fun k => s2.1 a k (Or.inr (by omega)))
theorem alk_toldR {Z : SS} (I : Inv0 (PB B) h) (i2 : MI Z h) (K : ∃ v t h1, A h = some (v, sI h1 0 14 t) ∧ Sm1 h h1 ∧ ∃ y' Z', SWf Z' ∧ CI y' Z' h1 ∧ SIZ Z' B' h1 ∧ ∀ h', MI Z h' → (∀ a k, 66 ≤ a → gI h' a k = gI h a k) → ∃ h2, M h' = some (v, sI h2 66 2 t) ∧ Sm2 h' h2 ∧ MI Z' h2) : Alk2 (PB B) (PB B') A M h := by
  obtain ⟨v, t, h1, e1, s1, y', Z', w', c1, d1, k⟩ := K
  obtain ⟨h2, e2, s2, m2⟩ := k (sI h1 0 14 t) (i2.keep fun a k q => by rw [gI_ne (by unfold cM at q; omega)]; exact s1 a k (Or.inr (by unfold cM at q; omega))) (fun a k q => by rw [gI_ne (by omega)]; exact s1 a k (Or.inr q))
  have key : ∀ a k, irr a k = true → ¬ (a = 0 ∧ k = 14) → ¬ (a = 66 ∧ k = 2) → gI (sI h2 66 2 t) a k = gI h a k := by
    intro a k q q1 q2
    rw [gI_sI, if_neg q2, s2.1 a k (Or.inl q), gI_sI, if_neg q1, s1 a k (Or.inl q)]
  obtain ⟨I1, I2, ⟨m1, m2', m3⟩, -⟩ := I
  have ea : ∀ a, (3 ≤ a ∧ a ≤ 9 ∨ 12 ≤ a ∧ a ≤ 16 ∨ a = 40 ∨ 67 ≤ a ∧ a ≤ 72) → gI (sI h2 66 2 t) a = gI h a := fun a ha => funext fun k => key a k (irr_row ha) (by omega) (by omega)
  refine ⟨v, _, _, e1, e2, I1.keep (ea _ (by omega)) (ea _ (by omega)) (fun r hr => ea _ (by omega)) (ea _ (by omega)), I2.keep (ea _ (by omega)) (ea _ (by omega)) (fun r hr => ea _ (by omega)) (ea _ (by omega)), ⟨?_, ?_, fun f hf => ?_⟩, PB_oth.mpr ⟨y', Z', w', ?_, ?_, ?_⟩⟩
  · rw [gI_eq, gI_ne (by decide), s2.1 0 14 (Or.inl rfl), gI_eq]
  · rw [key 0 15 rfl (by omega) (by omega), key 66 0 rfl (by omega) (by omega)]; exact m2'
  · rw [ea 40 (by omega), ea 67 (by omega)]; exact m3 f hf
  · have hy : y' = 41 ∨ y' = 49 := c1.1
    refine c1.keep (fun a k q => ?_) ?_ ?_ ?_
    · unfold cCy at q
      rw [gI_sI, if_neg (by omega), s2.1 a k (Or.inr (by omega)), gI_sI, if_neg (by omega)]
    all_goals
      show gR h2 _ _ = _
      rw [s2.2]
      rfl
  · exact m2.keep fun a k q => by rw [gI_sI, if_neg (by unfold cM at q; omega)]
  · exact SI.keep d1 (fun a h1 h2 => funext fun k => by rw [gI_sI, if_neg (by omega), s2.1 a k (Or.inr (by omega)), gI_sI, if_neg (by omega)])
/-- the same, and both lay a row anew -/
theorem alk_rowsR {Z : SS} (I : Inv0 (PB B) h) (i2 : MI Z h) (K : ∃ v r m h1 f, r < 6 ∧ m ≤ 40 ∧ A h = some (v, sA (sI h1 9 r (nI m)) (3 + r) f) ∧ Sm1 h h1 ∧ ∃ y' Z', SWf Z' ∧ CI y' Z' h1 ∧ SIZ Z' B' h1 ∧ ∀ h', MI Z h' → (∀ a k, 66 ≤ a → gI h' a k = gI h a k) → ∃ h2 g, M h' = some (v, sA (sI h2 68 r (nI m)) 69 g) ∧ Sm2 h' h2 ∧ MI Z' h2 ∧ (∀ i, i < 40 → g (40 * r + i) = f i) ∧ (∀ j, j < 240 → ¬ (40 * r ≤ j ∧ j < 40 * r + 40) → g j = gI h2 69 j)) : Alk2 (PB B) (PB B') A M h := by
  obtain ⟨v, r, m, h1, f, hr, hm, e1, s1, y', Z', w', c1, d1, k⟩ := K
  have ha1 : ∀ a k, ¬ (a = 9 ∨ a = 3 + r) → gI (sA (sI h1 9 r (nI m)) (3 + r) f) a k = gI h1 a k := fun a k q => by rw [gAj_ne (by omega), gI_ne (by omega)]
  obtain ⟨h2, g, e2, s2, m2, g1, g2⟩ := k (sA (sI h1 9 r (nI m)) (3 + r) f) (i2.keep fun a k q => by rw [ha1 a k (by unfold cM at q; omega)]; exact s1 a k (Or.inr (by unfold cM at q; omega))) (fun a k q => by rw [ha1 a k (by omega)]; exact s1 a k (Or.inr q))
  have ha2 : ∀ a k, ¬ (a = 68 ∨ a = 69) → gI (sA (sI h2 68 r (nI m)) 69 g) a k = gI h2 a k := fun a k q => by rw [gAj_ne (by omega), gI_ne (by omega)]
  have key : ∀ a k, irr a k = true → ¬ (a = 9 ∨ a = 3 + r) → ¬ (a = 68 ∨ a = 69) → gI (sA (sI h2 68 r (nI m)) 69 g) a k = gI h a k := by
    intro a k q q1 q2
    rw [ha2 a k q2, s2.1 a k (Or.inl q), ha1 a k q1, s1 a k (Or.inl q)]
  obtain ⟨I1, I2, ⟨m1, m2', m3⟩, -⟩ := I
  have ea : ∀ a, (12 ≤ a ∧ a ≤ 16 ∨ a = 40 ∨ 67 ≤ a ∧ a ≤ 72 ∧ a ≠ 68 ∧ a ≠ 69) → gI (sA (sI h2 68 r (nI m)) 69 g) a = gI h a := fun a ha => funext fun k => key a k (irr_row (by omega)) (by omega) (by omega)
  refine ⟨v, _, _, e1, e2, fun r' hr' => ?_, I2.keep (ea _ (by omega)) (ea _ (by omega)) (fun r hr => ea _ (by omega)) (ea _ (by omega)), ⟨?_, ?_, fun f hf => ?_⟩, PB_oth.mpr ⟨y', Z', w', ?_, ?_, ?_⟩⟩
  · obtain ⟨j1, j2, j3⟩ := I1 r' hr'
    have k9 : gI (sA (sI h2 68 r (nI m)) 69 g) 9 r' = if r' = r then nI m else gI h 9 r' := by
      rw [ha2 9 r' (by omega), s2.1 9 r' (Or.inl (irr_row (by omega))), gAj_ne (by omega), gI_at, s1 9 r' (Or.inl (irr_row (by omega)))]
    have k68 : gI (sA (sI h2 68 r (nI m)) 69 g) 68 r' = if r' = r then nI m else gI h 68 r' := by
      rw [gAj_ne (by decide), gI_at, s2.1 68 r' (Or.inl (irr_row (by omega))), ha1 68 r' (by omega), s1 68 r' (Or.inl (irr_row (by omega)))]
    have k3 : ∀ i, gI (sA (sI h2 68 r (nI m)) 69 g) (3 + r') i = if r' = r then f i else gI h (3 + r') i := by
      intro i
      rw [ha2 _ i (by omega), s2.1 _ i (Or.inl (irr_row (by omega)))]
      by_cases q : r' = r
      · rw [if_pos q, q, gAj_eq]
      · rw [if_neg q, ha1 _ i (by omega), s1 _ i (Or.inl (irr_row (by omega)))]
    have k69 : ∀ i, i < 40 → gI (sA (sI h2 68 r (nI m)) 69 g) 69 (40 * r' + i) = if r' = r then f i else gI h 69 (40 * r' + i) := by
      intro i hi
      rw [gAj_eq]
      by_cases q : r' = r
      · rw [if_pos q, q, g1 i hi]
      · rw [if_neg q, g2 _ (by omega) (by omega), s2.1 69 _ (Or.inl (irr_row (by omega))), ha1 69 _ (by omega), s1 69 _ (Or.inl (irr_row (by omega)))]
    rw [k9, k68]
    by_cases q : r' = r
    · simp only [if_pos q]
      exact ⟨trivial, Or.inr ⟨m, hm, rfl⟩, fun i hi => by rw [k3, k69 i hi, if_pos q, if_pos q]⟩
    · simp only [if_neg q]
      exact ⟨j1, j2, fun i hi => by rw [k3, k69 i hi, if_neg q, if_neg q]; exact j3 i hi⟩
  · rw [key 0 14 rfl (by omega) (by omega), key 66 2 rfl (by omega) (by omega)]; exact m1
  · rw [key 0 15 rfl (by omega) (by omega), key 66 0 rfl (by omega) (by omega)]; exact m2'
  · rw [ea 40 (by omega), ea 67 (by omega)]; exact m3 f hf
  · have hy : y' = 41 ∨ y' = 49 := c1.1
    refine c1.keep (fun a k q => ?_) ?_ ?_ ?_
    · unfold cCy at q
      rw [ha2 a k (by omega), s2.1 a k (Or.inr (by omega)), ha1 a k (by omega)]
    all_goals
      show gR h2 _ _ = _
      rw [s2.2]
      rfl
  · exact m2.keep fun a k q => ha2 a k (by unfold cM at q; omega)
  · exact SI.keep d1 (fun a h1 h2 => funext fun k => by rw [ha2 a k (by omega), s2.1 a k (Or.inr (by omega)), ha1 a k (by omega)])
end CORER
theorem alN_s {m : Nat} {f : Nat → Bool} : alN (m + 1) f = (alN m f && f m) := by
  unfold alN
  rw [List.range_succ, List.all_append]
  simp
theorem alN_no {f : Nat → Bool} {k m : Nat} (h : alN k f = false) (hk : k ≤ m) : alN m f = false := by
  cases e : alN m f with
  | false => rfl
  | true =>
    have : alN k f = true := List.all_eq_true.mpr (fun x hx => alN_get e (by have := List.mem_range.mp hx; omega))
    rw [this] at h
    cases h
theorem alN_no1 {f : Nat → Bool} {k m : Nat} (h : f k = false) (hk : k < m) : alN m f = false := by
  cases e : alN m f with
  | false => rfl
  | true =>
    have := alN_get e hk
    rw [this] at h
    cases h
section CSCAN
variable {y : Nat} {Y : YS} {h : Hp} {F t op s0 B : Nat} {e : Ent}
theorem stand_ev {p : Nat} (G : SG Y t op s0 B h) (W : YW Y) (hl : LD p h) (he : (bfin Y t op s0)[p]? = some e) : f_X3_stand (nI p) h = some (nI e.1) := by
  have g := (G.get W hl he).1
  obtain ⟨tl, l1, l2, l3⟩ := hl
  unfold f_X3_stand
  rw [i_neg (by omega), l1, if_neg (nle_k (by omega) l2), ld_24 (by omega), g]; rfl
theorem depth_ev {p : Nat} (G : SG Y t op s0 B h) (W : YW Y) (hl : LD p h) (he : (bfin Y t op s0)[p]? = some e) : f_X3_depth (nI p) h = some (nI e.2.1) := by
  have g := (G.get W hl he).2.1
  obtain ⟨tl, l1, l2, l3⟩ := hl
  unfold f_X3_depth
  rw [i_neg (by omega), l1, if_neg (nle_k (by omega) l2), ld_25 (by omega), g]; rfl
theorem SG.keep {h' : Hp} (G : SG Y t op s0 B h) (e : ∀ a k, 23 ≤ a ∧ a ≤ 30 → gI h' a k = gI h a k) : SG Y t op s0 B h' := by
  obtain ⟨hd, T, u, g1, g2, g3, g4, g5, g6, g7, Q, S⟩ := G
  refine ⟨hd, T, u, g1, ?_, g3, g4, g5.keep (funext fun k => e 29 k (by omega)) (funext fun k => e 30 k (by omega)), ?_, g7, Q.keep fun a k q => e a k (by omega), S⟩
  · rw [e 23 11 (by omega)]; exact g2
  · rw [e 23 5 (by omega)]; exact g6
theorem LD.keep {p : Nat} {h' : Hp} (l : LD p h) (e : gI h' 23 6 = gI h 23 6) : LD p h' := by
  obtain ⟨tl, l1, l2⟩ := l
  exact ⟨tl, e.trans l1, l2⟩
theorem cscan_n {P : Nat → Bool} {N : Int32} {BODY : Int32 → Hp → (Int32 × Hp → Option (Int32 × Hp)) → Option (Int32 × Hp)} {RES : Nat → Hp → Option (Int32 × Hp)} (C : CX y Y t op h) (W : YW Y) (ho : op < 16) (G : SG Y t op s0 B h) (hb : ∀ (p : Nat) (e : Ent) (g : Hp) (self : Int32 × Hp → Option (Int32 × Hp)), SG Y t op s0 B g → Eo sSe h g → LD p g → (bfin Y t op s0)[p]? = some e → BODY (nI p) g self = if P e.1 = true then RES p g else self (nI p + 1, g)) (hD : ∀ (j : Nat) (e : Ent), (bfin Y t op s0)[j]? = some e → P e.1 = false) (hF : 11880 < F) : ∃ g, SG Y t op s0 B g ∧ Eo sSe h g ∧ fix (fun (self : Int32 × Hp → Option (Int32 × Hp)) s => if (11880 : Int32) ≤ s.1 then some (N, s.2) else (f_X3_finds F s.1 s.2).bind fun v5 => if v5.1 = 0 then some (N, v5.2) else BODY s.1 v5.2 self) F (0, h) = some (N, g) := by
  have hlen := (bfin_ok (t := t) (op := op) W G.sw).2.2
  refine fix_post (fun r => ∃ g, SG Y t op s0 B g ∧ Eo sSe h g ∧ r = some (N, g)) (fun (k : Nat) (z : Int32 × Hp) => z.1 = nI k ∧ SG Y t op s0 B z.2 ∧ Eo sSe h z.2) (bfin Y t op s0).length ?_ (by omega) ?_ ?_
  · exact ⟨rfl, G, Eo.refl⟩
  · rintro k ⟨z1, g⟩ hk ⟨rfl, Gg, eo⟩ self hself
    simp only at Gg eo ⊢
    have Cg : CX y Y t op g := C.keep eo (fun a k q => by unfold sSe at q; omega)
    obtain ⟨g2, f1, f2, f3, f4⟩ := finds_ev Cg W ho Gg (show k < 11880 by omega) hF
    obtain ⟨e, he⟩ := lt_get hk
    rw [lit_11880, if_neg (nle_k (by decide) (by omega)), f1, Ib, decide_eq_true hk]
    show ∃ g, _ ∧ _ ∧ (if bz true = 0 then _ else _) = _
    rw [i_bz0, if_pos rfl, hb k e g2 self f3 (eo.trans f2) (f4 k (Nat.le_refl _) hk) he, if_neg (by rw [hD k e he]; decide), n_add1]
    exact hself _ ⟨rfl, f3, eo.trans f2⟩
  · rintro ⟨z1, g⟩ ⟨rfl, Gg, eo⟩ self
    simp only at Gg eo ⊢
    rw [lit_11880, i_le (by decide) (by omega)]
    by_cases q : 11880 ≤ (bfin Y t op s0).length
    · rw [if_pos q]
      exact ⟨g, Gg, eo, rfl⟩
    · have Cg : CX y Y t op g := C.keep eo (fun a k q => by unfold sSe at q; omega)
      obtain ⟨g2, f1, f2, f3, f4⟩ := finds_ev Cg W ho Gg (show (bfin Y t op s0).length < 11880 by omega) hF
      rw [if_neg q, f1, Ib, decide_eq_false (Nat.lt_irrefl _)]
      exact ⟨g2, f3, eo.trans f2, rfl⟩
theorem cscan_y {P : Nat → Bool} {N : Int32} {BODY : Int32 → Hp → (Int32 × Hp → Option (Int32 × Hp)) → Option (Int32 × Hp)} {RES : Nat → Hp → Option (Int32 × Hp)} {p0 : Nat} {e0 : Ent} (C : CX y Y t op h) (W : YW Y) (ho : op < 16) (G : SG Y t op s0 B h) (hb : ∀ (p : Nat) (e : Ent) (g : Hp) (self : Int32 × Hp → Option (Int32 × Hp)), SG Y t op s0 B g → Eo sSe h g → LD p g → (bfin Y t op s0)[p]? = some e → BODY (nI p) g self = if P e.1 = true then RES p g else self (nI p + 1, g)) (he0 : (bfin Y t op s0)[p0]? = some e0) (hP : P e0.1 = true) (hD : ∀ (j : Nat) (e : Ent), j < p0 → (bfin Y t op s0)[j]? = some e → P e.1 = false) (hF : 11880 < F) : ∃ g, SG Y t op s0 B g ∧ Eo sSe h g ∧ LD p0 g ∧ fix (fun (self : Int32 × Hp → Option (Int32 × Hp)) s => if (11880 : Int32) ≤ s.1 then some (N, s.2) else (f_X3_finds F s.1 s.2).bind fun v5 => if v5.1 = 0 then some (N, v5.2) else BODY s.1 v5.2 self) F (0, h) = RES p0 g := by
  have hlen := (bfin_ok (t := t) (op := op) W G.sw).2.2
  have hp0 := get_lt he0
  refine fix_post (fun r => ∃ g, SG Y t op s0 B g ∧ Eo sSe h g ∧ LD p0 g ∧ r = RES p0 g) (fun (k : Nat) (z : Int32 × Hp) => z.1 = nI k ∧ SG Y t op s0 B z.2 ∧ Eo sSe h z.2) p0 ?_ (by omega) ?_ ?_
  · exact ⟨rfl, G, Eo.refl⟩
  · rintro k ⟨z1, g⟩ hk ⟨rfl, Gg, eo⟩ self hself
    simp only at Gg eo ⊢
    have Cg : CX y Y t op g := C.keep eo (fun a k q => by unfold sSe at q; omega)
    obtain ⟨g2, f1, f2, f3, f4⟩ := finds_ev Cg W ho Gg (show k < 11880 by omega) hF
    have hk2 : k < (bfin Y t op s0).length := by omega
    obtain ⟨e, he⟩ := lt_get hk2
    rw [lit_11880, if_neg (nle_k (by decide) (by omega)), f1, Ib, decide_eq_true hk2]
    show ∃ g, _ ∧ _ ∧ _ ∧ (if bz true = 0 then _ else _) = _
    rw [i_bz0, if_pos rfl, hb k e g2 self f3 (eo.trans f2) (f4 k (Nat.le_refl _) hk2) he, if_neg (by rw [hD k e hk he]; decide), n_add1]
    exact hself _ ⟨rfl, f3, eo.trans f2⟩
  · rintro ⟨z1, g⟩ ⟨rfl, Gg, eo⟩ self
    simp only at Gg eo ⊢
    have Cg : CX y Y t op g := C.keep eo (fun a k q => by unfold sSe at q; omega)
    obtain ⟨g2, f1, f2, f3, f4⟩ := finds_ev Cg W ho Gg (show p0 < 11880 by omega) hF
    rw [lit_11880, if_neg (nle_k (by decide) (by omega)), f1, Ib, decide_eq_true hp0]
    show ∃ g, _ ∧ _ ∧ _ ∧ (if bz true = 0 then _ else _) = _
    rw [i_bz0, if_pos rfl, hb p0 e0 g2 self f3 (eo.trans f2) (f4 p0 (Nat.le_refl _) hp0) he0, if_pos hP]
    exact ⟨g2, f3, eo.trans f2, f4 p0 (Nat.le_refl _) hp0, rfl⟩
theorem ME.of82 {E : List Ent} {h' : Hp} (Q : ME Y E h) (e : Eo s82 h h') : ME Y E h' := Q.keep fun a k z => e.1 a k (by unfold s82; omega)
theorem mscan_n {E : List Ent} {P : Nat → Bool} {N : Int32} {BODY : Int32 → Hp → (Int32 × Hp → Option (Int32 × Hp)) → Option (Int32 × Hp)} {RES : Nat → Hp → Option (Int32 × Hp)} (M : MY Y h) (W : YW Y) (hE : ME Y E h) (hS : ∀ e, e ∈ E → SW Y e.1) (hlen : E.length ≤ 11880) (hb : ∀ (p : Nat) (e : Ent) (g : Hp) (self : Int32 × Hp → Option (Int32 × Hp)), ME Y E g → Eo s82 h g → LK Y e.1 g → E[p]? = some e → BODY (nI p) g self = if P e.1 = true then RES p g else self (nI p + 1, g)) (hD : ∀ (j : Nat) (e : Ent), E[j]? = some e → P e.1 = false) (hF : 11880 < F) : ∃ g, Eo s82 h g ∧ fix (fun (self : Int32 × Hp → Option (Int32 × Hp)) s => if gI s.2 66 42 ≤ s.1 then some (N, s.2) else (ldI s.2 92 s.1).bind fun v => (f_X8_lookAt F v s.2).bind fun g => BODY s.1 g self) F (0, h) = some (N, g) := by
  refine fix_post (fun r => ∃ g, Eo s82 h g ∧ r = some (N, g)) (fun (k : Nat) (z : Int32 × Hp) => z.1 = nI k ∧ Eo s82 h z.2) E.length ?_ (by omega) ?_ ?_
  · exact ⟨rfl, Eo.refl⟩
  · rintro k ⟨z1, g⟩ hk ⟨rfl, eo⟩ self hself
    simp only at eo ⊢
    obtain ⟨e, he⟩ := lt_get hk
    have me := hE.of82 eo
    have se := hS e (List.mem_of_getElem? he)
    obtain ⟨g2, a1, a2, a3⟩ := lookAt_ev (M.keep eo (fun a k q => by unfold s82 at q; omega)) W se.1 (F := F) (by omega)
    rw [me.1, if_neg (nle_k (by omega) hk), ld_92 (by omega), (me.2.1 k e he).1, Ib, a1, Ib, hb k e g2 self (me.of82 a3) (eo.trans a3) a2 he, if_neg (by rw [hD k e he]; decide), n_add1]
    exact hself _ ⟨rfl, eo.trans a3⟩
  · rintro ⟨z1, g⟩ ⟨rfl, eo⟩ self
    simp only at eo ⊢
    rw [(hE.of82 eo).1, if_pos (rf_le (by omega))]
    exact ⟨g, eo, rfl⟩
theorem mscan_y {E : List Ent} {P : Nat → Bool} {N : Int32} {BODY : Int32 → Hp → (Int32 × Hp → Option (Int32 × Hp)) → Option (Int32 × Hp)} {RES : Nat → Hp → Option (Int32 × Hp)} {p0 : Nat} {e0 : Ent} (M : MY Y h) (W : YW Y) (hE : ME Y E h) (hS : ∀ e, e ∈ E → SW Y e.1) (hlen : E.length ≤ 11880) (hb : ∀ (p : Nat) (e : Ent) (g : Hp) (self : Int32 × Hp → Option (Int32 × Hp)), ME Y E g → Eo s82 h g → LK Y e.1 g → E[p]? = some e → BODY (nI p) g self = if P e.1 = true then RES p g else self (nI p + 1, g)) (he0 : E[p0]? = some e0) (hP : P e0.1 = true) (hD : ∀ (j : Nat) (e : Ent), j < p0 → E[j]? = some e → P e.1 = false) (hF : 11880 < F) : ∃ g, Eo s82 h g ∧ fix (fun (self : Int32 × Hp → Option (Int32 × Hp)) s => if gI s.2 66 42 ≤ s.1 then some (N, s.2) else (ldI s.2 92 s.1).bind fun v => (f_X8_lookAt F v s.2).bind fun g => BODY s.1 g self) F (0, h) = RES p0 g := by
  have hp0 := get_lt he0
  have one : ∀ (k : Nat) (e : Ent) (g : Hp) (self : Int32 × Hp → Option (Int32 × Hp)), E[k]? = some e → Eo s82 h g → ∃ g2, Eo s82 h g2 ∧ (if gI g 66 42 ≤ nI k then some (N, g) else (ldI g 92 (nI k)).bind fun v => (f_X8_lookAt F v g).bind fun g => BODY (nI k) g self) = if P e.1 = true then RES k g2 else self (nI k + 1, g2) := by
    intro k e g self he eo
    have hk := get_lt he
    have me := hE.of82 eo
    have se := hS e (List.mem_of_getElem? he)
    obtain ⟨g2, a1, a2, a3⟩ := lookAt_ev (M.keep eo (fun a k q => by unfold s82 at q; omega)) W se.1 (F := F) (by omega)
    refine ⟨g2, eo.trans a3, ?_⟩
    rw [me.1, if_neg (nle_k (by omega) hk), ld_92 (by omega), (me.2.1 k e he).1, Ib, a1, Ib, hb k e g2 self (me.of82 a3) (eo.trans a3) a2 he]
  refine fix_post (fun r => ∃ g, Eo s82 h g ∧ r = RES p0 g) (fun (k : Nat) (z : Int32 × Hp) => z.1 = nI k ∧ Eo s82 h z.2) p0 ?_ (by omega) ?_ ?_
  · exact ⟨rfl, Eo.refl⟩
  · rintro k ⟨z1, g⟩ hk ⟨rfl, eo⟩ self hself
    obtain ⟨e, he⟩ := lt_get (show k < E.length by omega)
    obtain ⟨g2, e1, e2⟩ := one k e g self he eo
    show ∃ g', _ ∧ (if gI g 66 42 ≤ nI k then _ else _) = _
    rw [e2, if_neg (by rw [hD k e hk he]; decide), n_add1]
    exact hself _ ⟨rfl, e1⟩
  · rintro ⟨z1, g⟩ ⟨rfl, eo⟩ self
    obtain ⟨g2, e1, e2⟩ := one p0 e0 g self he0 eo
    refine ⟨g2, e1, ?_⟩
    show (if gI g 66 42 ≤ nI p0 then _ else _) = _
    rw [e2, if_pos hP]
end CSCAN
