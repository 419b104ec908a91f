/-! the model's search -/
def cod (n s : Nat) : Nat := s / 12 ^ (4 - n)
def wup (k : Nat) : Nat := 12 ^ (4 - k)
theorem cod_le {n s : Nat} : cod n s ≤ s := Nat.div_le_self _ _
theorem i5 {n : Nat} (h : n ≤ 4) : n = 0 ∨ n = 1 ∨ n = 2 ∨ n = 3 ∨ n = 4 := by omega
theorem c_0 : 12 ^ (4 - 0) = 20736 := rfl
theorem c_1 : 12 ^ (4 - 1) = 1728 := rfl
theorem c_2 : 12 ^ (4 - 2) = 144 := rfl
theorem c_3 : 12 ^ (4 - 3) = 12 := rfl
theorem c_4 : 12 ^ (4 - 4) = 1 := rfl
/-- figures beyond n are noughts: then s is cod n s and noughts -/
theorem cod_mul {n s : Nat} (hn : n ≤ 4) (hs : s < 20736) (hz : ∀ i, i < 4 → n ≤ i → dg s i = 0) : s = cod n s * 12 ^ (4 - n) := by
  have h0 := hz 0 (by decide)
  have h1 := hz 1 (by decide)
  have h2 := hz 2 (by decide)
  have h3 := hz 3 (by decide)
  unfold dg at h0 h1 h2 h3
  simp only [wg_0, wg_1, wg_2, wg_3] at h0 h1 h2 h3
  unfold cod
  rcases i5 hn with rfl | rfl | rfl | rfl | rfl <;> simp only [c_0, c_1, c_2, c_3, c_4] <;> omega
theorem cod_inj {Y : YS} {s s' : Nat} (W : YW Y) (S : SW Y s) (S' : SW Y s') (h : cod (yn Y) s = cod (yn Y) s') : s = s' := by
  rw [cod_mul W.2.2.1 S.1 S.2.1, cod_mul W.2.2.1 S'.1 S'.2.1, h]
theorem cod_lt {Y : YS} {s s' : Nat} (W : YW Y) (S : SW Y s) (S' : SW Y s') : (cod (yn Y) s < cod (yn Y) s') = (s < s') := by
  have h1 := cod_mul W.2.2.1 S.1 S.2.1
  have h2 := cod_mul W.2.2.1 S'.1 S'.2.1
  have hp : 0 < 12 ^ (4 - yn Y) := Nat.pow_pos (by decide)
  apply propext
  constructor
  · intro h
    rw [h1, h2]
    exact Nat.mul_lt_mul_of_pos_right h hp
  · intro h
    rcases Nat.lt_or_ge (cod (yn Y) s) (cod (yn Y) s') with q | q
    · exact q
    · have := Nat.mul_le_mul_right (12 ^ (4 - yn Y)) q
      omega
theorem cod_s {s k : Nat} (hk : k < 4) : 12 * (s / 12 ^ (4 - k)) + dg s k = s / 12 ^ (4 - (k + 1)) := by
  unfold dg
  rcases i4 hk with rfl | rfl | rfl | rfl <;> simp only [wg_0, wg_1, wg_2, wg_3, c_0, c_1, c_2, c_3, c_4, Nat.zero_add, show (1 : Nat) + 1 = 2 from rfl, show (2 : Nat) + 1 = 3 from rfl, show (3 : Nat) + 1 = 4 from rfl] <;> omega
theorem cod_d {n s k : Nat} (hn : n ≤ 4) (hk : k < n) : s / 12 ^ (4 - n + k) % 12 = dg s (n - 1 - k) ∧ s / 12 ^ (4 - n + k) / 12 = s / 12 ^ (4 - n + (k + 1)) := by
  constructor
  · unfold dg wgt
    rw [show 3 - (n - 1 - k) = 4 - n + k by omega]
  · rw [Nat.div_div_eq_div_mul, ← Nat.pow_succ]
    rfl
def s82a (a _k : Nat) : Prop := a = 82
section MSE
variable {Y : YS} {h : Hp} {F t op s s0 : Nat}
theorem code_ev (M : MY Y h) (W : YW Y) (L : LK Y s h) (hs : s < 20736) (hF : 4 < F) : f_X8_codeOf F h = some (nI (cod (yn Y) s)) := by
  have hn := W.2.2.1
  unfold f_X8_codeOf
  refine fix_seq (fun k => (nI (s / 12 ^ (4 - k)), nI k)) (yn Y) ?_ (fun k hk self => ?_) (fun self => ?_) (by omega)
  · show (nI (s / 12 ^ (4 - 0)), nI 0) = _
    rw [c_0, Nat.div_eq_of_lt hs]; rfl
  · simp only [M.2.2.1, nm]
    rw [if_neg (nle_k (by omega) hk), ld_82 (by omega), L k hk, Ib, lit_12, pk_mul, nI_add, n_add1, cod_s (by omega)]
  · simp only [M.2.2.1]
    rw [if_pos (rf_le (by omega))]
    rfl
theorem zsub {a b : Nat} : zI ((a : Int) - (b : Int)) = nI a - nI b := by rw [zn, zn, z_sub]
theorem lookAt_ev (M : MY Y h) (W : YW Y) (hs : s < 20736) (hF : 5 < F) : ∃ h', f_X8_lookAt F (nI (cod (yn Y) s)) h = some h' ∧ LK Y s h' ∧ Eo s82 h h' := by
  have hn := W.2.2.1
  unfold f_X8_lookAt
  simp only [nm]
  refine fix_post (fun r => ∃ h', r = some h' ∧ LK Y s h' ∧ Eo s82 h h') (fun (k : Nat) (z : Int32 × Int32 × Hp) => z.1 = nI (s / 12 ^ (4 - yn Y + k)) ∧ z.2.1 = zI ((yn Y : Int) - 1 - k) ∧ Eo s82 h z.2.2 ∧ ∀ i, i < yn Y → yn Y - k ≤ i → gI z.2.2 82 i = nI (dg s i)) (yn Y) ?_ (by omega) ?_ ?_
  · refine ⟨rfl, ?_, Eo.refl, fun i hi h2 => absurd h2 (by omega)⟩
    · show gI h 66 10 - 1 = _
      rw [M.2.2.1, zn, z_1, z_sub]
      congr 1
      omega
  · rintro k ⟨z1, z2, g⟩ hk ⟨rfl, rfl, eo, hl⟩ self hself
    simp only at eo hl ⊢
    obtain ⟨d1, d2⟩ := cod_d (s := s) hn hk
    have b1 : s / 12 ^ (4 - yn Y + k) ≤ s := Nat.div_le_self _ _
    have e1 : zI ((yn Y : Int) - 1 - k) = nI (yn Y - 1 - k) := by rw [zn]; congr 1; omega
    rw [e1, i_neg (by omega), lit_12, rem_n (by omega) (by decide) (by decide), d1, st_82 (by omega), Ib, pk_div (by omega) (by decide) (by decide), d2]
    refine hself _ ⟨rfl, ?_, eo.sI rfl, fun i hi h2 => ?_⟩
    · show nI (yn Y - 1 - k) + -1 = _
      rw [zn, z_m1, z_add]
      congr 1
      omega
    · show gI (sI g 82 (yn Y - 1 - k) _) 82 i = _
      rw [gI_at]
      by_cases q : i = yn Y - 1 - k
      · rw [if_pos q, q]
      · rw [if_neg q]; exact hl i hi (by omega)
  · rintro ⟨z1, z2, g⟩ ⟨rfl, rfl, eo, hl⟩ self
    simp only at eo hl ⊢
    rw [if_pos (by rw [z_0, z_lt (by omega) (by omega) (by omega) (by omega)]; omega)]
    exact ⟨g, rfl, fun i hi => hl i hi (by omega), eo⟩
def ME (Y : YS) (E : List Ent) (h : Hp) : Prop := gI h 66 42 = nI E.length ∧ (∀ j e, E[j]? = some e → gI h 92 j = nI (cod (yn Y) e.1) ∧ gI h 93 (cod (yn Y) e.1) = nI e.2.1 ∧ (0 < j → gI h 95 (cod (yn Y) e.1) = nI e.2.2.2 ∧ ∃ o, E[e.2.2.1]? = some o ∧ gI h 94 (cod (yn Y) e.1) = nI (cod (yn Y) o.1))) ∧ (∀ c, c < 20736 → gI h 93 c = -9 ∨ ∃ e, e ∈ E ∧ cod (yn Y) e.1 = c)
def sMq (a k : Nat) : Prop := 92 ≤ a ∧ a ≤ 95 ∨ a = 66 ∧ k = 42
def sML (a k : Nat) : Prop := a = 82 ∨ 92 ≤ a ∧ a ≤ 95 ∨ a = 66 ∧ (k = 31 ∨ k = 42)
theorem ME.keep {E : List Ent} {h' : Hp} (Q : ME Y E h) (e : ∀ a k, (92 ≤ a ∧ a ≤ 95 ∨ a = 66 ∧ k = 42) → gI h' a k = gI h a k) : ME Y E h' := by
  obtain ⟨q1, q2, q3⟩ := Q
  refine ⟨?_, fun j x hx => ⟨?_, ?_, fun hj => ⟨?_, ?_⟩⟩, fun c hc => ?_⟩
  · rw [e 66 42 (by omega)]; exact q1
  · rw [e 92 j (by omega)]; exact (q2 j x hx).1
  · rw [e 93 _ (by omega)]; exact (q2 j x hx).2.1
  · rw [e 95 _ (by omega)]; exact ((q2 j x hx).2.2 hj).1
  · rw [e 94 _ (by omega)]; exact ((q2 j x hx).2.2 hj).2
  · rw [e 93 c (by omega)]; exact q3 c hc
theorem meetsS_ev {E : List Ent} {j : Nat} {ej : Ent} {q : Nat × Nat} (Q : ME Y E h) (Bk : Bok Y s0 E) (W : YW Y) (M : MY Y h) (L : LK Y q.1 h) (hj : E[j]? = some ej) (hq : SW Y q.1) (hF : 4 < F) : ∃ h', f_X8_meetsStand F (nI (cod (yn Y) ej.1)) (nI q.2) h = some h' ∧ ME Y (bad1 j ej.2.1 E q) h' ∧ Eo sMq h h' := by
  have Q0 := Q
  obtain ⟨q1, q2, q3⟩ := Q
  have sj := (Bk.1 ej (List.mem_of_getElem? hj)).1
  have c1 : cod (yn Y) q.1 < 20736 := Nat.lt_of_le_of_lt cod_le hq.1
  have c2 : cod (yn Y) ej.1 < 20736 := Nat.lt_of_le_of_lt cod_le sj.1
  have hl := Bk.len W
  unfold f_X8_meetsStand
  rw [code_ev M W L hq.1 hF, Ib, ld_93 c1, Ib]
  by_cases p : ∃ e, e ∈ E ∧ e.1 = q.1
  · obtain ⟨e, h1, h2⟩ := p
    obtain ⟨i, hi⟩ := List.mem_iff_getElem?.mp h1
    have hd := Bk.dep i e hi
    have hil := get_lt hi
    have hf := (q2 i e hi).2.1
    rw [h2] at hf
    rw [hf, i_m9 (by omega), Ib, bad1_y ⟨e, h1, h2⟩]
    exact ⟨h, rfl, Q0, Eo.refl⟩
  · have nf : gI h 93 (cod (yn Y) q.1) = -9 := by
      rcases q3 _ c1 with z | ⟨e, h1, h2⟩
      · exact z
      · exact absurd ⟨e, h1, cod_inj W (Bk.1 e h1).1 hq h2⟩ p
    have nc : ∀ e, e ∈ E → cod (yn Y) e.1 ≠ cod (yn Y) q.1 := fun e he z => p ⟨e, he, cod_inj W (Bk.1 e he).1 hq z⟩
    rw [nf, if_pos rfl, ld_93 c2, (q2 j ej hj).2.1, Ib, n_add1, st_93 c1, Ib, st_94 c1, Ib, st_95 c1, Ib]
    simp (disch := decide) only [gI_ne, q1, nm]
    rw [st_92 (by omega), Ib]
    simp (disch := decide) only [gI_ne, q1]
    rw [Ib, n_add1, bad1_n p]
    refine ⟨_, rfl, ⟨?_, fun i e he => ?_, fun c hc => ?_⟩, ((((Eo.refl.sI (Or.inl ⟨by omega, by omega⟩)).sI (Or.inl ⟨by omega, by omega⟩)).sI (Or.inl ⟨by omega, by omega⟩)).sI (Or.inl ⟨by omega, by omega⟩)).sI (Or.inr ⟨rfl, rfl⟩)⟩
    · rw [gI_eq, List.length_append]; rfl
    · rcases snoc_get he with he | ⟨rfl, rfl⟩
      · have hi := get_lt he
        obtain ⟨r1, r2, r3⟩ := q2 i e he
        have ne := nc e (List.mem_of_getElem? he)
        refine ⟨?_, ?_, fun h0 => ⟨?_, ?_⟩⟩
        · simp (disch := decide) only [gI_ne]
          rw [gI_nk (by omega)]
          simp (disch := decide) only [gI_ne]
          exact r1
        · simp (disch := decide) only [gI_ne]
          rw [gI_nk ne]; exact r2
        · simp (disch := decide) only [gI_ne]
          rw [gI_nk ne]
          simp (disch := decide) only [gI_ne]
          exact (r3 h0).1
        · obtain ⟨o, o1, o2⟩ := (r3 h0).2
          refine ⟨o, app_get o1, ?_⟩
          simp (disch := decide) only [gI_ne]
          rw [gI_nk ne]
          simp (disch := decide) only [gI_ne]
          exact o2
      · refine ⟨?_, ?_, fun h0 => ⟨?_, ej, app_get hj, ?_⟩⟩
        · simp (disch := decide) only [gI_ne, gI_eq]
        · simp (disch := decide) only [gI_ne, gI_eq]
        · simp (disch := decide) only [gI_ne, gI_eq]
        · simp (disch := decide) only [gI_ne, gI_eq]
    · simp (disch := decide) only [gI_ne]
      rw [gI_at]
      by_cases z : c = cod (yn Y) q.1
      · exact Or.inr ⟨_, List.mem_append_right _ List.mem_cons_self, z.symm⟩
      · rw [if_neg z]
        rcases q3 c hc with z2 | ⟨e, h1, h2⟩
        · exact Or.inl z2
        · exact Or.inr ⟨e, List.mem_append_left _ h1, h2⟩
theorem ldp_end (W : YW Y) : ldp Y t op s (4 * yn Y) = lds Y t op s := by
  have hn := W.2.2.1
  have key : ∀ d, 4 * yn Y + d ≤ 16 → ldp Y t op s (4 * yn Y + d) = ldp Y t op s (4 * yn Y) := by
    intro d
    induction d with
    | zero => intro _; rfl
    | succ d ih =>
      intro hd
      rw [← Nat.add_assoc, ldp_s, ih (by omega)]
      have : lgf Y t op s (4 * yn Y + d) = none := by
        unfold lgf
        rw [if_neg (by omega)]
      rw [this]
      simp
  have := key (16 - 4 * yn Y) (by omega)
  rw [show 4 * yn Y + (16 - 4 * yn Y) = 16 by omega, ldp_16] at this
  exact this.symm
theorem MY.ofML {h' : Hp} (M : MY Y h) (e : Eo sML h h') : MY Y h' := M.keep e (fun a k q => by unfold sML at q; omega)
theorem MT.ofML {h' : Hp} (M : MT Y t op h) (e : Eo sML h h') : MT Y t op h' := M.keep e (fun a k q => by unfold sML at q; omega)
theorem ldp_memS {k : Nat} {q : Nat × Nat} (W : YW Y) (S : SW Y s) (hk : k ≤ 16) (h : q ∈ ldp Y t op s k) : SW Y q.1 ∧ q.2 < 64 := by
  obtain ⟨L, hL⟩ := ldp_pre (Y := Y) (t := t) (op := op) (s := s) (16 - k) k
  rw [show k + (16 - k) = 16 by omega, ldp_16] at hL
  exact lds_mem W S (by rw [hL]; exact List.mem_append_left _ h)
theorem layS_ev (M : MY Y h) (T : MT Y t op h) (W : YW Y) (S : SW Y s0) (ht : t ≤ 3) (hF : 20736 < F) : ∃ h', f_X8_layStands F (nI (cod (yn Y) s0)) h = some h' ∧ ME Y (bfin Y t op s0) h' ∧ Eo sML h h' := by
  have hn := W.2.2.1
  have c1 : cod (yn Y) s0 < 20736 := Nat.lt_of_le_of_lt cod_le S.1
  unfold f_X8_layStands
  refine fix_post (fun r => ∃ h', r = some h' ∧ ME Y (bfin Y t op s0) h' ∧ Eo sML h h') (fun (k : Nat) (z : Int32 × Hp) => z.1 = nI k ∧ Eo sML h z.2 ∧ ∀ c, c < k → gI z.2 93 c = -9) 20736 ?_ hF ?_ ?_
  · exact ⟨rfl, Eo.refl, fun c hc => absurd hc (Nat.not_lt_zero c)⟩
  · rintro k ⟨z1, g⟩ hk ⟨rfl, eo, hc⟩ self hself
    simp only at eo hc ⊢
    rw [lit_20736, if_neg (nle_k (by decide) hk), st_93 hk, Ib, n_add1]
    refine hself _ ⟨rfl, eo.sI (Or.inr (Or.inl ⟨by omega, by omega⟩)), fun c hc2 => ?_⟩
    show gI (sI g 93 k (-9)) 93 c = -9
    rw [gI_at]
    by_cases q : c = k
    · rw [if_pos q]
    · rw [if_neg q]; exact hc c (by omega)
  · rintro ⟨z1, g⟩ ⟨rfl, eo, hc⟩ self
    simp only at eo hc ⊢
    rw [lit_20736, if_pos (rf_le (by decide)), show (0 : Int32) = nI 0 from rfl, st_92 (by decide), Ib, st_93 c1, Ib]
    simp only [nm]
    have eo1 : Eo sML h (sI (sI (sI g 92 0 (nI (cod (yn Y) s0))) 93 (cod (yn Y) s0) (nI 0)) 66 42 1) := ((eo.sI (Or.inr (Or.inl ⟨by omega, by omega⟩))).sI (Or.inr (Or.inl ⟨by omega, by omega⟩))).sI (Or.inr (Or.inr ⟨rfl, Or.inr rfl⟩))
    have me1 : ME Y (brun Y t op s0 0) (sI (sI (sI g 92 0 (nI (cod (yn Y) s0))) 93 (cod (yn Y) s0) (nI 0)) 66 42 1) := by
      refine ⟨gI_eq, fun j e he => ?_, fun c hc2 => ?_⟩
      · have hj := get_lt he
        have hj0 : j = 0 := by
          have : (brun Y t op s0 0).length = 1 := rfl
          omega
        subst hj0
        have hx2 : e = (s0, 0, 0, 0) := by
          have : some (s0, 0, 0, 0) = some e := he
          cases this; rfl
        subst hx2
        refine ⟨?_, ?_, fun z => absurd z (by decide)⟩
        · simp (disch := decide) only [gI_ne, gI_eq]
        · simp (disch := decide) only [gI_ne, gI_eq]
      · rw [gI_ne (by decide), gI_at]
        by_cases q : c = cod (yn Y) s0
        · exact Or.inr ⟨_, List.mem_cons_self, q.symm⟩
        · rw [if_neg q, gI_ne (by decide)]; exact Or.inl (hc c hc2)
    generalize sI (sI (sI g 92 0 (nI (cod (yn Y) s0))) 93 (cod (yn Y) s0) (nI 0)) 66 42 1 = g1 at *
    refine fix_post (fun r => ∃ h', r = some h' ∧ ME Y (bfin Y t op s0) h' ∧ Eo sML h h') (fun (q : Nat) (z : Int32 × Hp) => z.1 = nI q ∧ Eo sML h z.2 ∧ ME Y (brun Y t op s0 q) z.2) 11880 ?_ (by omega) ?_ ?_
    · exact ⟨rfl, eo1, me1⟩
    · rintro q ⟨z1, g2⟩ hq ⟨rfl, eo2, me2⟩ self8 hself8
      simp only at eo2 me2 ⊢
      obtain ⟨bk, -, -⟩ := brun_ok (t := t) (op := op) W S q
      have hlen := bk.len W
      rw [me2.1, i_le (by omega) (by omega)]
      by_cases p : (brun Y t op s0 q).length ≤ q
      · rw [if_pos p]
        exact ⟨g2, rfl, by rw [bfin_end W S p]; exact me2, eo2⟩
      · rw [if_neg p]
        obtain ⟨e, he⟩ := lt_get (show q < (brun Y t op s0 q).length by omega)
        have se := (bk.1 e (List.mem_of_getElem? he)).1
        have bexp_e : brun Y t op s0 (q + 1) = (lds Y t op e.1).foldl (bad1 q e.2.1) (brun Y t op s0 q) := by rw [brun_s, bexp_y he]
        refine fix_post (fun r => ∃ h', r = some h' ∧ ME Y (bfin Y t op s0) h' ∧ Eo sML h h') (fun (i : Nat) (z : Int32 × Hp) => z.1 = nI i ∧ Eo sML h z.2 ∧ ME Y ((ldp Y t op e.1 (4 * i)).foldl (bad1 q e.2.1) (brun Y t op s0 q)) z.2) (yn Y) ?_ (by omega) ?_ ?_
        · exact ⟨rfl, eo2, me2⟩
        · rintro i ⟨z1, g3⟩ hi ⟨rfl, eo3, me3⟩ self11 hself11
          simp only at eo3 me3 ⊢
          rw [(M.ofML eo3).2.2.1, if_neg (nle_k (by omega) hi)]
          refine fix_post (fun r => ∃ h', r = some h' ∧ ME Y (bfin Y t op s0) h' ∧ Eo sML h h') (fun (d : Nat) (z : Int32 × Hp) => z.1 = nI d ∧ Eo sML h z.2 ∧ ME Y ((ldp Y t op e.1 (4 * i + d)).foldl (bad1 q e.2.1) (brun Y t op s0 q)) z.2) 4 ?_ (by omega) ?_ ?_
          · exact ⟨rfl, eo3, me3⟩
          · rintro d ⟨z1, g4⟩ hd ⟨rfl, eo4, me4⟩ self14 hself14
            simp only at eo4 me4 ⊢
            obtain ⟨Lp, hLp⟩ := badf_pre q e.2.1 (ldp Y t op e.1 (4 * i + d)) (brun Y t op s0 q)
            have hcur : ((ldp Y t op e.1 (4 * i + d)).foldl (bad1 q e.2.1) (brun Y t op s0 q))[q]? = some e := by rw [hLp]; exact app_get he
            have bcur : Bok Y s0 ((ldp Y t op e.1 (4 * i + d)).foldl (bad1 q e.2.1) (brun Y t op s0 q)) := Bok.fold _ _ bk he (fun r hr => ldp_memS W se (by omega) hr)
            have q92 := (me4.2.1 q e hcur).1
            have M4 := M.ofML eo4
            have T4 := T.ofML eo4
            obtain ⟨h5, a1, a2, a3⟩ := lookAt_ev M4 W se.1 (F := F) (by omega)
            have eo5 : Eo sML h h5 := eo4.trans (a3.mono fun a k z => by unfold s82 at z; unfold sML; omega)
            have M5 := M.ofML eo5
            have T5 := T.ofML eo5
            obtain ⟨h6, b1, b2, b3⟩ := steps_ev M5 T5 W a2 se.1 hi hd ht se.2.2.1 (F := F) (by omega)
            have eo6 : Eo sML h h6 := eo5.trans (b3.mono fun a k z => by unfold sSt at z; unfold sML; omega)
            have me6 : ME Y ((ldp Y t op e.1 (4 * i + d)).foldl (bad1 q e.2.1) (brun Y t op s0 q)) h6 := (me4.keep fun a k z => a3.1 a k (by unfold s82; omega)).keep fun a k z => b3.1 a k (by unfold sSt; omega)
            rw [lit_4, if_neg (nle_k (by decide) hd), ld_92 (by omega), q92, Ib, a1, Ib, b1, Ib, n_add1]
            have lg : lgf Y t op e.1 (4 * i + d) = (aft Y t op e.1 i d).map (fun s' => (s', 10 * i + d)) := by
              unfold lgf
              rw [show (4 * i + d) / 4 = i by omega, show (4 * i + d) % 4 = d by omega, if_pos hi]
            cases ha : aft Y t op e.1 i d with
            | none =>
              rw [ha] at lg
              show ∃ h', (Option.bind (if bz false = 0 then _ else _) _) = _ ∧ _
              rw [i_bz0, if_neg (by decide), Ib]
              refine hself14 _ ⟨rfl, eo6, ?_⟩
              show ME Y ((ldp Y t op e.1 (4 * i + d + 1)).foldl (bad1 q e.2.1) (brun Y t op s0 q)) h6
              rw [ldp_s, lg]
              simpa using me6
            | some s' =>
              rw [ha] at lg b2
              have ss := aft_SW W se hi hd ha
              have q92' := (me6.2.1 q e hcur).1
              obtain ⟨h7, c1, c2, c3⟩ := meetsS_ev (q := (s', 10 * i + d)) me6 bcur W (M.ofML eo6) b2 hcur ss (F := F) (by omega)
              show ∃ h', (Option.bind (if bz true = 0 then _ else _) _) = _ ∧ _
              rw [i_bz0, if_pos rfl, ld_92 (by omega), q92', Ib, lit_10, pk_mul, nI_add, c1, Ib, Ib]
              refine hself14 _ ⟨rfl, eo6.trans (c3.mono fun a k z => ?_), ?_⟩
              · unfold sMq at z; unfold sML; omega
              · show ME Y ((ldp Y t op e.1 (4 * i + d + 1)).foldl (bad1 q e.2.1) (brun Y t op s0 q)) h7
                rw [ldp_s, lg, List.foldl_append]
                exact c2
          · rintro ⟨z1, g4⟩ ⟨rfl, eo4, me4⟩ self14
            simp only at eo4 me4 ⊢
            rw [lit_4, if_pos (rf_le (by decide)), n_add1]
            exact hself11 _ ⟨rfl, eo4, by rw [Nat.mul_add]; exact me4⟩
        · rintro ⟨z1, g3⟩ ⟨rfl, eo3, me3⟩ self11
          simp only at eo3 me3 ⊢
          rw [(M.ofML eo3).2.2.1, if_pos (rf_le (by omega)), n_add1]
          rw [ldp_end W, ← bexp_e] at me3
          exact hself8 _ ⟨rfl, eo3, me3⟩
    · rintro ⟨z1, g2⟩ ⟨rfl, eo2, me2⟩ self8
      simp only at eo2 me2 ⊢
      have hlen := (bfin_ok (t := t) (op := op) W S).2.2
      have me3 : ME Y (bfin Y t op s0) g2 := me2
      rw [me3.1, if_pos (by rw [n_le (by omega) (by decide)]; exact hlen)]
      exact ⟨g2, rfl, me3, eo2⟩
end MSE
theorem layNow_ev {Z : SS} {h : Hp} {F : Nat} (M : MI Z h) (w : SWf Z) (hF : 20736 < F) : ∃ h', f_X8_layFromNow F h = some h' ∧ ME (sY Z) (bfin (sY Z) (ct (sC Z)) (co (sC Z)) (cs (sC Z))) h' ∧ Eo sML h h' := by
  obtain ⟨W, cw, -⟩ := w
  obtain ⟨h1, e1, l1, eo⟩ := look_ev M W (F := F) (by omega)
  have M1 := M.of82 eo
  obtain ⟨h2, a1, a2, a3⟩ := layS_ev M1.my M1.mt W cw.1 cw.2.1 hF
  refine ⟨h2, ?_, a2, (eo.mono fun a k z => ?_).trans a3⟩
  · unfold f_X8_layFromNow
    rw [e1, Ib, code_ev M1.my W l1 cw.1.1 (by omega), Ib, a1]; rfl
  · unfold s82 at z; unfold sML; omega
theorem MI.ofML {Z : SS} {h h' : Hp} (M : MI Z h) (e : Eo sML h h') : MI Z h' := M.keep fun a k q => e.1 a k (fun z => by unfold cM at q; unfold sML at z; omega)
theorem Sm2.ofML {h h' : Hp} (e : Eo sML h h') : Sm2 h h' := ⟨fun a k q => e.1 a k (fun z => by unfold sML at z; rw [irr_iff] at q; omega), by show h'.2.1 = h.2.1; rw [e.2]⟩
theorem CI.ofSe {y : Nat} {Z : SS} {h h' : Hp} (I : CI y Z h) (e : Eo sSe h h') : CI y Z h' := by
  have hy : y = 41 ∨ y = 49 := I.1
  have r : gR h' = gR h := by show h'.2.1 = h.2.1; rw [e.2]
  exact I.keep (fun a k q => e.1 a k (fun z => by unfold cCy at q; unfold sSe at z; omega)) (by rw [r]) (by rw [r]) (by rw [r])
theorem Sm1.ofSe {h h' : Hp} (e : Eo sSe h h') : Sm1 h h' := fun a k q => e.1 a k (fun z => by unfold sSe at z; rw [irr_iff] at q; omega)
