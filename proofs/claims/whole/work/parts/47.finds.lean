/-! the class's search goes on: expand, finds, begin -/
def SGh (Y : YS) (t op s0 B hd : Nat) (h : Hp) : Prop := ∃ T u, T ≤ B ∧ gI h 23 11 = nI u ∧ 0 < u ∧ u ≤ 97921 ∧ Lcache Y t op u h ∧ gI h 23 5 = nI hd ∧ hd ≤ (brun Y t op s0 hd).length ∧ QE (brun Y t op s0 hd) T h ∧ SW Y s0
def SG (Y : YS) (t op s0 B : Nat) (h : Hp) : Prop := ∃ hd, SGh Y t op s0 B hd h
def LD (p : Nat) (h : Hp) : Prop := ∃ tl, gI h 23 6 = nI tl ∧ p < tl ∧ tl ≤ 11880
theorem Lcache.keep {Y : YS} {t op u : Nat} {h h' : Hp} (L : Lcache Y t op u h) (e29 : gI h' 29 = gI h 29) (e30 : gI h' 30 = gI h 30) : Lcache Y t op u h' := by
  unfold Lcache at L ⊢
  rw [e29, e30]
  exact L
theorem Eo.row {S : Nat → Nat → Prop} {h h' : Hp} (e : Eo S h h') {a : Nat} (q : ∀ k, ¬ S a k) : gI h' a = gI h a := funext fun k => e.1 a k (q k)
section EXP
variable {y : Nat} {Y : YS} {h : Hp} {F t op s0 B T u hd : Nat} {e : Ent}
theorem expand_ev (C : CX y Y t op h) (W : YW Y) (ho : op < 16) (S : SW Y s0) (L : Lcache Y t op u h) (hu : gI h 23 11 = nI u) (h0 : 0 < u) (hu2 : u ≤ 97921) (Q : QE (brun Y t op s0 hd) T h) (he : (brun Y t op s0 hd)[hd]? = some e) (hF : 16 < F) : ∃ h' u', f_X3_expand F (nI hd) h = some h' ∧ Eo sX h h' ∧ gI h' 23 11 = nI u' ∧ 0 < u' ∧ u' ≤ 97921 ∧ Lcache Y t op u' h' ∧ QE (brun Y t op s0 (hd + 1)) T h' := by
  obtain ⟨bk, -, -⟩ := brun_ok (t := t) (op := op) W S hd
  have hlen := bk.len W
  have hhd := get_lt he
  obtain ⟨se, -⟩ := bk.1 e (List.mem_of_getElem? he)
  obtain ⟨r1, r2, -⟩ := Q.2.2.1 hd e he
  have l16 := lds_16 (Y := Y) (t := t) (op := op) (s := e.1)
  obtain ⟨h1, b, u1, x1, x2, x3, x4, x5, x6, x7, x8, x9⟩ : ∃ h1 b u1, (Option.bind (α := Hp) (if gI h 29 e.1 = 0 then ((f_X3_learn F (nI e.1) h).bind fun h5 => some h5) else some h) fun t3 => some t3) = some h1 ∧ Eo sLn h h1 ∧ gI h1 23 11 = nI u1 ∧ u1 ≤ 97921 ∧ Lcache Y t op u1 h1 ∧ 1 ≤ b ∧ b + (lds Y t op e.1).length ≤ u1 ∧ gI h1 29 e.1 = nI (32 * b + (lds Y t op e.1).length) ∧ ∀ j q, (lds Y t op e.1)[j]? = some q → gI h1 30 (b + j) = nI (64 * q.1 + q.2) := by
    by_cases z : gI h 29 e.1 = 0
    · obtain ⟨h1, y1, y2, y3, y4, y5, y6⟩ := learn_ev C W ho se L hu z hF
      refine ⟨h1, u, u + (lds Y t op e.1).length, ?_, y2, y3, learn_room W se L z, y4, h0, Nat.le_refl _, y5, y6⟩
      rw [if_pos z, y1]; rfl
    · rcases L.1 e.1 se.1 with z1 | ⟨-, b, z2, z3, z4, z5⟩
      · exact absurd z1 z
      · exact ⟨h, b, u, by rw [if_neg z]; rfl, Eo.refl, hu, hu2, L, z2, z3, z4, z5⟩
  have Q1 : QE (brun Y t op s0 hd) T h1 := Q.keep fun a k q => x2.1 a k (fun z => by unfold sLn at z; omega)
  unfold f_X3_expand
  rw [ld_24 (by omega), r1, Ib, ld_29 se.1, Ib]
  have x1' : (if gI h 29 e.1 = 0 then ((f_X3_learn F (nI e.1) h).bind fun h5 => some h5) else some h) = some h1 := by
    rw [← x1]
    cases (if gI h 29 e.1 = 0 then ((f_X3_learn F (nI e.1) h).bind fun h5 => some h5) else some h) <;> rfl
  rw [x1', Ib, ld_29 se.1, x8, Ib, Ib]
  simp only [nm]
  rw [lit_32, pk_div (by omega) (by decide) (by decide), rem_n (by omega) (by decide) (by decide), show (32 * b + (lds Y t op e.1).length) / 32 = b by omega, show (32 * b + (lds Y t op e.1).length) % 32 = (lds Y t op e.1).length by omega, nI_add]
  have bexp_e : brun Y t op s0 (hd + 1) = (lds Y t op e.1).foldl (bad1 hd e.2.1) (brun Y t op s0 hd) := by rw [brun_s, bexp_y he]
  refine fix_post (fun r => ∃ h' u', r = some h' ∧ Eo sX h h' ∧ gI h' 23 11 = nI u' ∧ 0 < u' ∧ u' ≤ 97921 ∧ Lcache Y t op u' h' ∧ QE (brun Y t op s0 (hd + 1)) T h') (fun (k : Nat) (z : Int32 × Hp) => z.1 = nI (b + k) ∧ Eo sQs h1 z.2 ∧ QE (((lds Y t op e.1).take k).foldl (bad1 hd e.2.1) (brun Y t op s0 hd)) T z.2) (lds Y t op e.1).length ?_ (by omega) ?_ ?_
  · exact ⟨rfl, Eo.refl, Q1⟩
  · rintro k ⟨z1, g⟩ hk ⟨rfl, eo, qe⟩ self hself
    simp only at eo qe ⊢
    obtain ⟨q, hq⟩ := lt_get hk
    obtain ⟨sq1, sq2⟩ := lds_mem W se (List.mem_of_getElem? hq)
    have q2 : q.1 < 20736 := sq1.1
    obtain ⟨Lp, hLp⟩ := badf_pre hd e.2.1 ((lds Y t op e.1).take k) (brun Y t op s0 hd)
    have hcur : (((lds Y t op e.1).take k).foldl (bad1 hd e.2.1) (brun Y t op s0 hd))[hd]? = some e := by rw [hLp]; exact app_get he
    have bcur : Bok Y s0 (((lds Y t op e.1).take k).foldl (bad1 hd e.2.1) (brun Y t op s0 hd)) := Bok.fold _ _ bk he (fun r hr => lds_mem W se (List.mem_of_mem_take hr))
    rw [if_neg (nle_k (by omega) (by omega)), ld_30 (by omega), eo.1 30 _ (by unfold sQs; omega), x9 k q hq, Ib, Ib, ld_25 (by omega), (qe.2.2.1 hd e hcur).2.1, Ib, lit_64, pk_div (by omega) (by decide) (by decide), rem_n (by omega) (by decide) (by decide), show (64 * q.1 + q.2) / 64 = q.1 by omega, show (64 * q.1 + q.2) % 64 = q.2 by omega, n_add1, n_add1]
    obtain ⟨h2, a1, a2, a3⟩ := arr_ev (j := hd) (dp := e.2.1) (q := q) qe q2 (fun hno => by
      have := (bcur.add hcur ⟨sq1, sq2⟩).len W
      rw [bad1_n hno, List.length_append] at this
      have h1 : ([(q.1, e.2.1 + 1, hd, q.2)] : List Ent).length = 1 := rfl
      omega)
    rw [a1, Ib]
    refine hself _ ⟨rfl, eo.trans a3, ?_⟩
    rw [List.take_add_one, hq, List.foldl_append]
    exact a2
  · rintro ⟨z1, g⟩ ⟨rfl, eo, qe⟩ self
    simp only at eo qe ⊢
    rw [if_pos (rf_le (by omega))]
    rw [List.take_length] at qe
    refine ⟨g, u1, rfl, (x2.mono (fun a k q => ?_)).trans (eo.mono (fun a k q => ?_)), ?_, by omega, x4, x5.keep (eo.row fun k => ?_) (eo.row fun k => ?_), ?_⟩
    · unfold sLn at q; unfold sX; omega
    · unfold sQs at q; unfold sX; omega
    · rw [eo.1 23 11 (by unfold sQs; omega)]; exact x3
    · unfold sQs; omega
    · unfold sQs; omega
    · rw [bexp_e]; exact qe
theorem SGh.len {hd : Nat} (G : SGh Y t op s0 B hd h) (W : YW Y) : (brun Y t op s0 hd).length ≤ 11880 := by
  obtain ⟨T, u, -, -, -, -, -, -, -, -, S⟩ := G
  exact (brun_ok (t := t) (op := op) W S hd).1.len W
theorem SGh.tl {hd : Nat} (G : SGh Y t op s0 B hd h) : gI h 23 6 = nI (brun Y t op s0 hd).length := by
  obtain ⟨T, u, -, -, -, -, -, -, -, Q, -⟩ := G
  exact Q.1
theorem SG.sw (G : SG Y t op s0 B h) : SW Y s0 := by
  obtain ⟨hd, T, u, -, -, -, -, -, -, -, -, S⟩ := G
  exact S
theorem SG.get (G : SG Y t op s0 B h) (W : YW Y) {p : Nat} (hl : LD p h) (he : (bfin Y t op s0)[p]? = some e) : gI h 24 p = nI e.1 ∧ gI h 25 p = nI e.2.1 ∧ (0 < p → gI h 26 p = nI e.2.2.1 ∧ gI h 27 p = nI e.2.2.2) := by
  obtain ⟨hd, G⟩ := G
  have h1 := G.len W
  have h2 := G.tl
  obtain ⟨tl, l1, l2, l3⟩ := hl
  rw [h2, n_eq (by omega) (by omega)] at l1
  obtain ⟨T, u, -, -, -, -, -, -, -, Q, S⟩ := G
  obtain ⟨L, hL⟩ := bfin_pre (t := t) (op := op) W S hd
  rw [hL, pre_get (by omega)] at he
  exact Q.2.2.1 p e he
theorem LD.mono {p q : Nat} (hl : LD p h) (hq : q ≤ p) : LD q h := by
  obtain ⟨tl, l1, l2, l3⟩ := hl
  exact ⟨tl, l1, by omega, l3⟩
theorem SG.si (G : SG Y t op s0 B h) (W : YW Y) : SI Y t op B h := by
  obtain ⟨hd, G⟩ := G
  have h1 := G.len W
  obtain ⟨T, u, g1, g2, g3, g4, g5, g6, g7, Q, S⟩ := G
  exact ⟨T, u, _, g1, Q.2.1, g2, Q.1, Q.2.2.2.2, fun z => by omega, fun _ => g5, g4, h1, fun _ => ⟨s0, hd, S, g7, g6, rfl, Q.2.2.1, Q.2.2.2.1⟩⟩
theorem finds_ev {p : Nat} (C : CX y Y t op h) (W : YW Y) (ho : op < 16) (G : SG Y t op s0 B h) (hp : p < 11880) (hF : 11880 < F) : ∃ h', f_X3_finds F (nI p) h = some (bz (decide (p < (bfin Y t op s0).length)), h') ∧ Eo sSe h h' ∧ SG Y t op s0 B h' ∧ ∀ j, j ≤ p → j < (bfin Y t op s0).length → LD j h' := by
  obtain ⟨hd0, G⟩ := G
  have hd1 : hd0 ≤ 11880 := by
    have := G.len W
    obtain ⟨T, u, -, -, -, -, -, -, g7, -, -⟩ := G
    omega
  have fin : ∀ (g : Hp) (hd : Nat), SGh Y t op s0 B hd g → Eo sSe h g → (p < (brun Y t op s0 hd).length ∨ (brun Y t op s0 hd).length ≤ hd) → ∃ h', (Option.bind (α := Int32) (if nI p < (0 : Int32) then some (0 : Int32) else (if gI g 23 6 ≤ nI p then some (0 : Int32) else some (1 : Int32))) fun t7 => (ckZ t7).bind fun z => some (z, g)) = some (bz (decide (p < (bfin Y t op s0).length)), h') ∧ Eo sSe h h' ∧ SG Y t op s0 B h' ∧ ∀ j, j ≤ p → j < (bfin Y t op s0).length → LD j h' := by
    intro g hd Gg eo hc
    have l1 := Gg.len W
    have l2 := Gg.tl
    have S : SW Y s0 := SG.sw ⟨hd, Gg⟩
    obtain ⟨L, hL⟩ := bfin_pre (t := t) (op := op) W S hd
    have hlen : (bfin Y t op s0).length = (brun Y t op s0 hd).length + L.length := by rw [hL, List.length_append]
    refine ⟨g, ?_, eo, ⟨hd, Gg⟩, ?_⟩
    · rw [i_neg (by omega), l2, i_le (by omega) (by omega)]
      rcases hc with q | q
      · rw [if_neg (by omega), decide_eq_true (show p < (bfin Y t op s0).length by omega)]; rfl
      · rw [bfin_end W S q]
        by_cases q2 : (brun Y t op s0 hd).length ≤ p
        · rw [if_pos q2, decide_eq_false (by omega)]; rfl
        · rw [if_neg q2, decide_eq_true (by omega)]; rfl
    · intro j hj hj2
      rcases hc with q | q
      · exact ⟨_, l2, by omega, l1⟩
      · rw [bfin_end W S q] at hj2
        exact ⟨_, l2, hj2, l1⟩
  unfold f_X3_finds
  refine fix_post (fun r => ∃ h', r = some (bz (decide (p < (bfin Y t op s0).length)), h') ∧ Eo sSe h h' ∧ SG Y t op s0 B h' ∧ ∀ j, j ≤ p → j < (bfin Y t op s0).length → LD j h') (fun (k : Nat) (z : Hp) => SGh Y t op s0 B (hd0 + k) z ∧ Eo sSe h z) (11880 - hd0) ?_ (by omega) ?_ ?_
  · exact ⟨G, Eo.refl⟩
  · rintro k g hk ⟨Gg, eo⟩ self hself
    have l1 := Gg.len W
    have l2 := Gg.tl
    have Gg0 := Gg
    obtain ⟨T, u, g1, g2, g3, g4, g5, g6, g7, Q, S⟩ := Gg0
    simp only [nm, jn]
    rw [l2, i_lt (by omega) (by omega)]
    by_cases q : p < (brun Y t op s0 (hd0 + k)).length
    · rw [if_pos q]
      have := fin g _ Gg eo (Or.inl q)
      rw [l2] at this
      exact this
    · rw [if_neg q, g6, i_le (by omega) (by omega)]
      by_cases q2 : (brun Y t op s0 (hd0 + k)).length ≤ hd0 + k
      · rw [if_pos q2]
        have := fin g _ Gg eo (Or.inr q2)
        rw [l2] at this
        exact this
      · rw [if_neg q2, lit_11880, if_neg (nle_k (by decide) (by omega))]
        obtain ⟨e, he⟩ := lt_get (show hd0 + k < (brun Y t op s0 (hd0 + k)).length by omega)
        have Cg : CX y Y t op g := C.keep eo (fun a k q => by unfold sSe at q; omega)
        obtain ⟨h1, u', e1, e2, e3, e4, e5, e6, e7⟩ := expand_ev (F := F) Cg W ho S g5 g2 g3 g4 Q he (by omega)
        rw [e1, Ib, e2.1 23 5 (by unfold sX; omega), g6, n_add1]
        refine hself _ ⟨⟨T, u', g1, ?_, e4, e5, e6.keep (gf_ne (by decide)) (gf_ne (by decide)), gI_eq, ?_, e7.keep fun a j q => ?_, S⟩, eo.trans ((e2.mono fun a j q => ?_).sI ?_)⟩
        · rw [gI_nk (by decide)]; exact e3
        · obtain ⟨L, hL⟩ := brun_pre (Y := Y) (t := t) (op := op) (s0 := s0) 1 (hd0 + k)
          show hd0 + k + 1 ≤ (brun Y t op s0 (hd0 + k + 1)).length
          rw [hL, List.length_append]
          omega
        · rw [gI_sI, if_neg (by omega)]
        · unfold sX at q; unfold sSe; omega
        · unfold sSe; omega
  · rintro g ⟨Gg, eo⟩ self
    have l1 := Gg.len W
    have l2 := Gg.tl
    rw [show hd0 + (11880 - hd0) = 11880 by omega] at Gg l1 l2
    have Gg0 := Gg
    obtain ⟨T, u, g1, g2, g3, g4, g5, g6, g7, Q, S⟩ := Gg0
    simp only [nm, jn]
    rw [l2, i_lt (by omega) (by omega)]
    by_cases q : p < (brun Y t op s0 11880).length
    · rw [if_pos q]
      have := fin g _ Gg eo (Or.inl q)
      rw [l2] at this
      exact this
    · rw [if_neg q, g6, i_le (by omega) (by omega), if_pos l1]
      have := fin g _ Gg eo (Or.inr l1)
      rw [l2] at this
      exact this
theorem begin_ev (I : SI Y t op B h) (W : YW Y) (S : SW Y s0) (hB : B < 2000000000) (hF : 20736 < F) : ∃ h', f_X3_begin F (nI s0) h = some h' ∧ SG Y t op s0 (B + 1) h' ∧ Eo sSe h h' := by
  obtain ⟨T, u, tl, i1, i2, i3, i4, i5, i6, i7, i8, i9, i10⟩ := I
  obtain ⟨h1, u1, x1, x2, x3, x4, x5, x6⟩ : ∃ h1 u1, (if gI h 23 11 = 0 then ((f_J7_fill_53178 F 29 (0 : Int32) h).bind fun h3 => nm (sI h3 23 11 (1 : Int32)) fun h4 => some h4) else some h) = some h1 ∧ Eo (fun a k => a = 29 ∨ a = 23 ∧ k = 11) h h1 ∧ gI h1 23 11 = nI u1 ∧ 0 < u1 ∧ u1 ≤ 97921 ∧ Lcache Y t op u1 h1 := by
    by_cases z : u = 0
    · refine ⟨sI (sA h 29 (fil (gI h 29) 0 20736 0)) 23 11 1, 1, ?_, (Eo.refl.sA (fun k => Or.inl rfl)).sI (Or.inr ⟨rfl, rfl⟩), gI_eq, by decide, by decide, ?_⟩
      · rw [i3, z, if_pos (by decide), fill_all (m := 20736) rfl (by decide) hF]; rfl
      · have z29 : ∀ s, s < 20736 → gI (sI (sA h 29 (fil (gI h 29) 0 20736 0)) 23 11 1) 29 s = 0 := by
          intro s hs
          rw [gI_ne (by decide), gAj_eq]
          unfold fil
          rw [if_pos (by omega)]
        refine ⟨fun s hs => Or.inl (z29 s hs), ?_⟩
        rw [sumN_0 (fun s hs => by rw [if_pos (z29 s hs)])]
    · have z0 : 0 < u := by omega
      exact ⟨h, u, by rw [i3, if_neg (n_nz (by omega) z0)], Eo.refl, i3, z0, i8, i7 z0⟩
  have e6 : gI h1 23 6 = nI tl := by rw [x2.1 23 6 (by omega)]; exact i4
  have e8 : gI h1 23 8 = nI T := by rw [x2.1 23 8 (by omega)]; exact i2
  have e24 : gI h1 24 = gI h 24 := x2.row fun k => by omega
  have e28 : gI h1 28 = gI h 28 := x2.row fun k => by omega
  have xe : Eo sSe h h1 := x2.mono fun a k q => by unfold sSe; omega
  have neu : ∃ h', (Option.bind (f_X3_arrive (nI s0) (-9) (-9) 0 (sI (sI (sI h1 23 8 (gI h1 23 8 + 1)) 23 5 0) 23 6 0)) fun h12 => some h12) = some h' ∧ SG Y t op s0 (B + 1) h' ∧ Eo sSe h h' := by
    obtain ⟨v, v1, v2⟩ := i5 s0 S.1
    have g6 : gI (sI (sI (sI h1 23 8 (gI h1 23 8 + 1)) 23 5 0) 23 6 0) 23 6 = nI 0 := gI_eq
    have g8 : gI (sI (sI (sI h1 23 8 (gI h1 23 8 + 1)) 23 5 0) 23 6 0) 23 8 = nI (T + 1) := by rw [gI_nk (by decide), gI_nk (by decide), gI_eq, e8, n_add1]
    have g28 : ∀ s, gI (sI (sI (sI h1 23 8 (gI h1 23 8 + 1)) 23 5 0) 23 6 0) 28 s = gI h 28 s := fun s => by rw [gI_ne (by decide), gI_ne (by decide), gI_ne (by decide), e28]
    have g5 : gI (sI (sI (sI h1 23 8 (gI h1 23 8 + 1)) 23 5 0) 23 6 0) 23 5 = nI 0 := by rw [gI_nk (by decide), gI_eq]; rfl
    have g11 : gI (sI (sI (sI h1 23 8 (gI h1 23 8 + 1)) 23 5 0) 23 6 0) 23 11 = nI u1 := by rw [gI_nk (by decide), gI_nk (by decide), gI_nk (by decide)]; exact x3
    have g29 : ∀ a, a ≠ 23 → gI (sI (sI (sI h1 23 8 (gI h1 23 8 + 1)) 23 5 0) 23 6 0) a = gI h1 a := fun a q => by rw [gf_ne q, gf_ne q, gf_ne q]
    have geo : Eo sSe h (sI (sI (sI h1 23 8 (gI h1 23 8 + 1)) 23 5 0) 23 6 0) := ((xe.sI ⟨by omega, by omega⟩).sI ⟨by omega, by omega⟩).sI ⟨by omega, by omega⟩
    generalize sI (sI (sI h1 23 8 (gI h1 23 8 + 1)) 23 5 0) 23 6 0 = g at *
    unfold f_X3_arrive
    rw [ld_28 S.1, Ib, g8, g28, v2, if_neg (by rw [n_eq (by omega) (by omega)]; omega), g6, if_neg (by decide), st_28 S.1, Ib]
    simp (disch := decide) only [gI_ne, g6, nm]
    rw [st_24 (by decide), Ib]
    simp (disch := decide) only [gI_ne, g6]
    rw [st_25 (by decide), Ib]
    simp (disch := decide) only [gI_ne, g6]
    rw [st_26 (by decide), Ib]
    simp (disch := decide) only [gI_ne, g6]
    rw [st_27 (by decide), Ib]
    simp (disch := decide) only [gI_ne, g6]
    rw [Ib, n_add1, Ib]
    refine ⟨_, rfl, ⟨0, T + 1, u1, by omega, ?_, x4, x5, x6.keep ?_ ?_, ?_, Nat.zero_le _, ⟨?_, ?_, fun i x hx => ?_, fun s hs => ?_, fun s hs => ?_⟩, S⟩, (((((geo.sI ⟨by omega, by omega⟩).sI ⟨by omega, by omega⟩).sI ⟨by omega, by omega⟩).sI ⟨by omega, by omega⟩).sI ⟨by omega, by omega⟩).sI ⟨by omega, by omega⟩⟩
    · simp (disch := decide) only [gI_ne, gI_nk]; exact g11
    · simp (disch := decide) only [gf_ne]; exact g29 29 (by decide)
    · simp (disch := decide) only [gf_ne]; exact g29 30 (by decide)
    · simp (disch := decide) only [gI_ne, gI_nk]; exact g5
    · exact gI_eq
    · simp (disch := decide) only [gI_ne, gI_nk]; exact g8
    · have hi := get_lt hx
      have hi0 : i = 0 := by
        have : (brun Y t op s0 0).length = 1 := rfl
        omega
      subst hi0
      have hx2 : x = (s0, 0, 0, 0) := by
        have : some (s0, 0, 0, 0) = some x := hx
        cases this; rfl
      subst hx2
      refine ⟨?_, ?_, fun z => absurd z (by decide)⟩
      · simp (disch := decide) only [gI_ne, gI_eq]
      · simp (disch := decide) only [gI_ne, gI_eq]; rfl
    · simp (disch := decide) only [gI_ne]
      rw [gI_at]
      by_cases q : s = s0
      · rw [if_pos q]
        exact ⟨fun _ => ⟨_, List.mem_cons_self, q.symm⟩, fun _ => rfl⟩
      · rw [if_neg q, g28]
        obtain ⟨w, w1, w2⟩ := i5 s hs
        rw [w2, n_eq (by omega) (by omega)]
        constructor
        · intro z; omega
        · rintro ⟨x, z1, z2⟩
          have : x = (s0, 0, 0, 0) := List.mem_singleton.mp z1
          rw [this] at z2
          exact absurd z2.symm q
    · simp (disch := decide) only [gI_ne]
      rw [gI_at]
      by_cases q : s = s0
      · rw [if_pos q]; exact ⟨T + 1, Nat.le_refl _, rfl⟩
      · rw [if_neg q, g28]
        obtain ⟨w, w1, w2⟩ := i5 s hs
        exact ⟨w, by omega, w2⟩
  unfold f_X3_begin
  rw [x1, Ib]
  simp only [nm, jn] at neu ⊢
  rw [e6, lit_0, i_le (by omega) (by decide)]
  by_cases q : tl ≤ 0
  · rw [if_pos q]; exact neu
  · rw [if_neg q, ld_24 (by decide), Ib]
    obtain ⟨s1, hd, q1, q2, q3, q4, q5, q6⟩ := i10 (by omega)
    obtain ⟨b1, -, -⟩ := brun_ok (t := t) (op := op) W q1 hd
    have f0 := (q5 0 _ b1.2.2.1).1
    rw [e24, f0, i_eq (by have := q1.1; omega) (by have := S.1; omega)]
    by_cases q7 : s1 = s0
    · rw [if_pos q7]
      subst q7
      refine ⟨h1, rfl, ⟨hd, T, u1, by omega, x3, x4, x5, x6, ?_, by omega, QE.keep ⟨by rw [q4]; exact i4, i2, q5, q6, i5⟩ (fun a k z => x2.1 a k (by omega)), q1⟩, xe⟩
      rw [x2.1 23 5 (by omega)]; exact q3
    · rw [if_neg q7]; exact neu
end EXP
