/-! rows read with men in mind; the way back through the search -/
noncomputable def pB (p : Prop) : Bool := @decide p (Classical.propDecidable p)
theorem pB_y {p : Prop} (h : p) : pB p = true := @decide_eq_true p (Classical.propDecidable p) h
theorem pB_n {p : Prop} (h : ¬ p) : pB p = false := @decide_eq_false p (Classical.propDecidable p) h
theorem pB_t {p : Prop} : (pB p = true) = p := by
  apply propext
  constructor
  · intro h
    rcases Classical.em p with q | q
    · exact q
    · rw [pB_n q] at h; cases h
  · exact pB_y
theorem alN_t {m : Nat} {f : Nat → Bool} : (alN m f = true) = (∀ j, j < m → f j = true) := by
  apply propext
  constructor
  · intro h j hj; exact alN_get h hj
  · intro h
    exact List.all_eq_true.mpr (fun x hx => h x (List.mem_range.mp hx))
/-- a flag that falls once and for all -/
theorem flag_loop {ρ : Type} {F m : Nat} {c : Nat → Bool} (K : Int32 → Option ρ) (bd : Int32) (T : Int32 → Option Int32) (hbd : bd = nI m) (hm : m < 100000) (hT : ∀ k, k < m → alN k c = true → T (nI k) = some (bz (c k))) (hF : m < F) : fix (fun (self : Int32 × Int32 → Option ρ) s => if bd ≤ s.2 then K s.1 else (Option.bind (if s.1 = 0 then some (0 : Int32) else T s.2) fun t => self (t, s.2 + 1))) F (1, 0) = K (bz (alN m c)) := by
  subst hbd
  refine fix_seq (fun k => (bz (alN k c), nI k)) m rfl (fun k hk self => ?_) (fun self => ?_) hF
  · simp only
    rw [if_neg (nle_k (by omega) hk), i_bz0, n_add1, alN_s]
    by_cases q : alN k c = true
    · rw [if_pos q, hT k hk q, Ib, q, Bool.true_and]
    · rw [if_neg q, Ib, show alN k c = false by simpa using q, Bool.false_and]; rfl
  · simp only
    rw [if_pos (rf_le (by omega))]
theorem fl1 {ρ : Type} {b c : Bool} {T : Option Int32} {self : Int32 → Option ρ} (hT : b = true → T = some (bz c)) : (Option.bind (if bz b = 0 then some (0 : Int32) else T) self) = self (bz (b && c)) := by
  rw [i_bz0]
  cases b with
  | true => rw [if_pos rfl, hT rfl, Ib, Bool.true_and]
  | false => rw [if_neg (by decide), Ib, Bool.false_and]; rfl
section RWM
variable {y : Nat} {Z : SS} {h : Hp} {F r q m : Nat}
theorem rwm_bad {r q : Int32} (hr : ¬ inR r 6 ∨ ¬ inR q 6) : f_X7_refusedWithMen r q h = some (-1, h) := by
  unfold f_X7_refusedWithMen
  by_cases h1 : inR r 6
  · obtain ⟨a, ha, rfl⟩ := h1
    rw [knows_yes shf_rows ha, Ib, i10, knows_no shf_rows (hr.resolve_left (fun z => z ⟨a, ha, rfl⟩)), Ib, i00]
  · rw [knows_no shf_rows h1, Ib, i00]
theorem rwm_st (ci : CI y Z h) (hr : r < 6) (hq : q < 6) (q0 : yn (sY Z) = 0) : f_X7_refusedWithMen (nI r) (nI q) h = some (-4, h) := by
  unfold f_X7_refusedWithMen
  rw [knows_yes shf_rows hr, Ib, i10, knows_yes shf_rows hq, Ib, i10, ci.o, Ib, ci.n, q0, if_pos (by decide)]
theorem rwm_no (ci : CI y Z h) (W : YW (sY Z)) (hr : r < 6) (hq : q < 6) (q0 : ¬ yn (sY Z) = 0) (i2 : gI h 9 r = -1) : f_X7_refusedWithMen (nI r) (nI q) h = f_X7_found (nI 1) h := by
  have hn := W.2.2.1
  unfold f_X7_refusedWithMen
  rw [knows_yes shf_rows hr, Ib, i10, knows_yes shf_rows hq, Ib, i10, ci.o, Ib, ci.n, if_neg (n_nz (by omega) (by omega)), holds_yes shf_rows hr, i2, if_pos (by decide), Ib, i00, bindself, bindself]; rfl
theorem rwm_ok (ci : CI y Z h) (W : YW (sY Z)) (hr : r < 6) (hq : q < 6) (q0 : ¬ yn (sY Z) = 0) (hm : m ≤ 40) (i2 : gI h 9 r = nI m) : f_X7_refusedWithMen (nI r) (nI q) h = some (0, h) := by
  have hn := W.2.2.1
  unfold f_X7_refusedWithMen
  rw [knows_yes shf_rows hr, Ib, i10, knows_yes shf_rows hq, Ib, i10, ci.o, Ib, ci.n, if_neg (n_nz (by omega) (by omega)), holds_yes shf_rows hr, i2, if_neg (nI_pos (by omega)), Ib, i10]; rfl
def okA (cl : Nat) (x : Int32) : Prop := x = -9 ∨ inR x cl
theorem aim_sz (ci : CI y Z h) (W : YW (sY Z)) (hr : r < 6) (hq : q < 6) (q0 : ¬ yn (sY Z) = 0) (hm : m ≤ 40) (i2 : gI h 9 r = nI m) (hs : m ≠ yn (sY Z)) : f_X7_refusedAim F (nI r) (nI q) h = f_X7_found (nI 5) h := by
  have hn := W.2.2.1
  unfold f_X7_refusedAim
  rw [rwm_ok ci W hr hq q0 hm i2, Ib, if_pos rfl, size_yes shf_rows hr, i2, Ib, ci.o, Ib, ci.n, i_eq (by omega) (by omega), if_neg hs, bindself]; rfl
theorem aim_no (ci : CI y Z h) (W : YW (sY Z)) (hr : r < 6) (hq : q < 6) (q0 : ¬ yn (sY Z) = 0) (i2 : gI h 9 r = nI (yn (sY Z))) (hno : ¬ ∀ i, i < yn (sY Z) → okA (ycl (sY Z)) (gI h (3 + r) i)) (hF : 4 < F) : f_X7_refusedAim F (nI r) (nI q) h = f_X7_found (nI 3) h := by
  have hn := W.2.2.1
  unfold f_X7_refusedAim
  rw [rwm_ok ci W hr hq q0 (by omega) i2, Ib, if_pos rfl, size_yes shf_rows hr, i2, Ib, ci.o, Ib, ci.n, if_pos rfl]
  refine fix_inv (fun k z => z = nI k ∧ ∀ j, j < k → okA (ycl (sY Z)) (gI h (3 + r) j)) (yn (sY Z)) ⟨rfl, fun j hj => absurd hj (Nat.not_lt_zero j)⟩ (by omega) ?_ ?_
  · rintro k z hk ⟨rfl, hz⟩ self hself
    simp only [ci.o, Ib, ci.n]
    rw [if_neg (nle_k (by omega) hk), get_in shf_rows hr i2 (by omega) hk, Ib, Ib, n_add1]
    have nxt : okA (ycl (sY Z)) (gI h (3 + r) k) → self (nI (k + 1)) = f_X7_found (nI 3) h := fun ok => hself _ ⟨rfl, fun j hj => by
      by_cases e : j = k
      · rw [e]; exact ok
      · exact hz j (by omega)⟩
    by_cases q1 : gI h (3 + r) k = -9
    · rw [if_pos q1]
      exact nxt (Or.inl q1)
    · rw [if_neg q1]
      by_cases q2 : inR (gI h (3 + r) k) (ycl (sY Z))
      · rw [ccell_y ci W q2, Ib, i10]
        exact nxt (Or.inr q2)
      · rw [ccell_n ci W q2, Ib, i00, bindself]; rfl
  · rintro z ⟨rfl, hz⟩ self
    exact absurd hz hno
theorem aim_ok (ci : CI y Z h) (W : YW (sY Z)) (hr : r < 6) (hq : q < 6) (q0 : ¬ yn (sY Z) = 0) (i2 : gI h 9 r = nI (yn (sY Z))) (hok : ∀ i, i < yn (sY Z) → okA (ycl (sY Z)) (gI h (3 + r) i)) (hF : 4 < F) : f_X7_refusedAim F (nI r) (nI q) h = some (0, h) := by
  have hn := W.2.2.1
  unfold f_X7_refusedAim
  rw [rwm_ok ci W hr hq q0 (by omega) i2, Ib, if_pos rfl, size_yes shf_rows hr, i2, Ib, ci.o, Ib, ci.n, if_pos rfl]
  refine fix_seq (fun k => nI k) (yn (sY Z)) rfl (fun k hk self => ?_) (fun self => ?_) (by omega)
  · simp only [ci.o, Ib, ci.n]
    rw [if_neg (nle_k (by omega) hk), get_in shf_rows hr i2 (by omega) hk, Ib, Ib, n_add1]
    by_cases q1 : gI h (3 + r) k = -9
    · rw [if_pos q1]
    · rw [if_neg q1, ccell_y ci W ((hok k hk).resolve_left q1), Ib, i10]
  · simp only [ci.o, Ib, ci.n]
    rw [if_pos (rf_le (by omega))]
noncomputable def lkf (v : Nat → Int32) (n s : Nat) : Bool := alN n (fun i => decide (v i = -9) || decide (v i = nI (dg s i)))
theorem like_ev {s : Nat} (ci : CI y Z h) (W : YW (sY Z)) (hr : r < 6) (i2 : gI h 9 r = nI (yn (sY Z))) (hs : s < 20736) (hF : 4 < F) : f_X7_isLike F (nI s) (nI r) h = some (bz (lkf (gI h (3 + r)) (yn (sY Z)) s)) := by
  have hn := W.2.2.1
  unfold f_X7_isLike lkf
  refine fix_inv (fun k z => z = nI k ∧ alN k (fun i => decide (gI h (3 + r) i = -9) || decide (gI h (3 + r) i = nI (dg s i))) = true) (yn (sY Z)) ⟨rfl, rfl⟩ (by omega) ?_ ?_
  · rintro k z hk ⟨rfl, hz⟩ self hself
    simp only [ci.o, Ib, ci.n]
    rw [if_neg (nle_k (by omega) hk), get_in shf_rows hr i2 (by omega) hk, Ib, cell_ev (by omega) (by omega), Ib, n_add1]
    by_cases q1 : gI h (3 + r) k = -9
    · rw [if_pos q1]
      exact hself _ ⟨rfl, by rw [alN_s, hz, decide_eq_true q1]; rfl⟩
    · rw [if_neg q1]
      by_cases q2 : gI h (3 + r) k = nI (dg s k)
      · rw [if_pos q2]
        exact hself _ ⟨rfl, by rw [alN_s, hz, decide_eq_true q2, Bool.or_true]; rfl⟩
      · rw [if_neg q2, alN_no1 (k := k) (by rw [decide_eq_false q1, decide_eq_false q2]; rfl) hk]; rfl
  · rintro z ⟨rfl, hz⟩ self
    simp only [ci.o, Ib, ci.n]
    rw [if_pos (rf_le (by omega)), hz]; rfl
end RWM
/-! the way back -/
def ent (E : List Ent) (p : Nat) : Ent := (E[p]?).getD (0, 0, 0, 0)
def upE (E : List Ent) (p : Nat) : Nat → Nat
  | 0 => p
  | k + 1 => (ent E (upE E p k)).2.2.1
def stp (E : List Ent) (p k : Nat) : Nat := (ent E (upE E p k)).2.2.2
theorem ent_g {E : List Ent} {p : Nat} {e : Ent} (h : E[p]? = some e) : ent E p = e := by
  unfold ent
  rw [h]; rfl
theorem up_ok {Y : YS} {s0 p : Nat} {E : List Ent} {e : Ent} (B : Bok Y s0 E) (he : E[p]? = some e) : ∀ k, k ≤ e.2.1 → upE E p k ≤ p ∧ ∃ ek, E[upE E p k]? = some ek ∧ ek.2.1 = e.2.1 - k ∧ (k < e.2.1 → 0 < upE E p k)
  | 0, _ => ⟨Nat.le_refl _, e, he, by omega, fun h0 => by
    rcases Nat.eq_zero_or_pos p with z | z
    · subst z
      rw [B.2.2.1] at he
      cases he
      exact absurd h0 (Nat.lt_irrefl _)
    · exact z⟩
  | k + 1, hk => by
    obtain ⟨u1, ek, u2, u3, u4⟩ := up_ok B he k (by omega)
    obtain ⟨o, o1, o2, o3⟩ := B.2.2.2 _ ek (u4 (by omega)) u2
    have e1 : upE E p (k + 1) = ek.2.2.1 := by
      show (ent E (upE E p k)).2.2.1 = _
      rw [ent_g u2]
    rw [e1]
    refine ⟨by omega, o, o2, by omega, fun h0 => ?_⟩
    rcases Nat.eq_zero_or_pos ek.2.2.1 with z | z
    · rw [z, B.2.2.1] at o2
      cases o2
      have o3' : ek.2.1 = 0 + 1 := o3
      omega
    · exact z
def fsp (E : List Ent) (p : Nat) (d : Nat) : Int32 := if d = 0 then -9 else nI (stp E p (d - 1))
section TRACE
variable {Y : YS} {h : Hp} {F t op s0 B p : Nat} {e : Ent}
theorem set_no9 {i v : Int32} : f_X4_set 1 (-9) i v h = some h := set_row_no shf_rows (by
  rintro ⟨j, hj, e⟩
  exact n_m9 (show j < 2147483648 by omega) e.symm)
theorem trace_noE {E : List Ent} (bk : Bok Y s0 E) (hlen : E.length ≤ 11880) (dep : f_X3_depth (nI p) h = some (nI e.2.1)) (get : ∀ (q : Nat) (eq : Ent), q ≤ p → E[q]? = some eq → gI h 24 q = nI eq.1 ∧ gI h 25 q = nI eq.2.1 ∧ (0 < q → gI h 26 q = nI eq.2.2.1 ∧ gI h 27 q = nI eq.2.2.2)) (he : E[p]? = some e) (hF : 11880 < F) : f_X3_trace F (nI p) 1 (-9) h = some (fsp E p e.2.1, h) := by
  have hd := bk.dep p e he
  have hp := get_lt he
  unfold f_X3_trace
  rw [dep, Ib]
  refine fix_inv (fun k z => z.1 = fsp E p k ∧ z.2.1 = nI (upE E p k) ∧ z.2.2.1 = zI ((e.2.1 : Int) - 1 - k) ∧ z.2.2.2 = h) e.2.1 ⟨rfl, rfl, ?_, rfl⟩ (by omega) ?_ ?_
  · show nI e.2.1 - 1 = _
    rw [zn, z_1, z_sub]
    exact congrArg zI (by omega)
  · rintro k ⟨z1, z2, z3, g⟩ hk ⟨rfl, rfl, rfl, rfl⟩ self hself
    obtain ⟨u1, ek, u2, u3, u4⟩ := up_ok bk he k (by omega)
    have gg := get _ _ u1 u2
    simp only
    rw [if_neg (by rw [z_0, z_lt (by omega) (by omega) (by omega) (by omega)]; omega), ld_27 (by omega), (gg.2.2 (u4 hk)).2, Ib, set_no9, Ib, ld_26 (by omega), (gg.2.2 (u4 hk)).1, Ib]
    refine hself _ ⟨?_, ?_, ?_, rfl⟩
    · show nI ek.2.2.2 = _
      unfold fsp stp
      rw [if_neg (by omega), Nat.add_sub_cancel, ent_g u2]
    · show nI ek.2.2.1 = nI (ent _ (upE _ p k)).2.2.1
      rw [ent_g u2]
    · rw [z_m1, z_add]
      exact congrArg zI (by omega)
  · rintro ⟨z1, z2, z3, g⟩ ⟨rfl, rfl, rfl, rfl⟩ self
    simp only
    rw [if_pos (by rw [z_0, z_lt (by omega) (by omega) (by omega) (by omega)]; omega)]
theorem trace_no (G : SG Y t op s0 B h) (W : YW Y) (hl : LD p h) (he : (bfin Y t op s0)[p]? = some e) (hF : 11880 < F) : f_X3_trace F (nI p) 1 (-9) h = some (fsp (bfin Y t op s0) p e.2.1, h) := by
  obtain ⟨bk, -, hlen⟩ := bfin_ok (t := t) (op := op) W G.sw
  exact trace_noE bk hlen (depth_ev G W hl he) (fun q eq hq hq2 => G.get W (hl.mono hq) hq2) he hF
def trw (E : List Ent) (p d : Nat) (f : Nat → Int32) (k : Nat) : Nat → Int32 := fun j => if d - k ≤ j ∧ j < d then nI (stp E p (d - 1 - j)) else f j
theorem trace_toE {E : List Ent} {r : Nat} (bk : Bok Y s0 E) (hlen : E.length ≤ 11880) (dep : f_X3_depth (nI p) h = some (nI e.2.1)) (get : ∀ (q : Nat) (eq : Ent), q ≤ p → E[q]? = some eq → gI h 24 q = nI eq.1 ∧ gI h 25 q = nI eq.2.1 ∧ (0 < q → gI h 26 q = nI eq.2.2.1 ∧ gI h 27 q = nI eq.2.2.2)) (he : E[p]? = some e) (hr : r < 6) (hz : gI h 9 r = nI e.2.1) (hd40 : e.2.1 ≤ 40) (hF : 11880 < F) : ∃ v, f_X3_trace F (nI p) 1 (nI r) h = some (v, sA h (3 + r) (trw E p e.2.1 (gI h (3 + r)) e.2.1)) := by
  have hd := bk.dep p e he
  have hp := get_lt he
  unfold f_X3_trace
  rw [dep, Ib]
  refine fix_post (fun x => ∃ v, x = some (v, sA h (3 + r) (trw E p e.2.1 (gI h (3 + r)) e.2.1))) (fun (k : Nat) (z : Int32 × Int32 × Int32 × Hp) => z.2.1 = nI (upE E p k) ∧ z.2.2.1 = zI ((e.2.1 : Int) - 1 - k) ∧ z.2.2.2 = sA h (3 + r) (trw E p e.2.1 (gI h (3 + r)) k)) e.2.1 ?_ (by omega) ?_ ?_
  · refine ⟨rfl, ?_, ?_⟩
    · show nI e.2.1 - 1 = _
      rw [zn, z_1, z_sub]
      exact congrArg zI (by omega)
    · refine (sA_self fun j => ?_).symm
      unfold trw
      rw [if_neg (by omega)]
  · rintro k ⟨z1, z2, z3, g⟩ hk ⟨rfl, rfl, rfl⟩ self hself
    obtain ⟨u1, ek, u2, u3, u4⟩ := up_ok bk he k (by omega)
    have gg := get _ _ u1 u2
    have e1 : zI ((e.2.1 : Int) - 1 - k) = nI (e.2.1 - 1 - k) := by rw [zn]; exact congrArg zI (by omega)
    simp only
    rw [e1, i_neg (by omega), ld_27 (by omega), gAj_ne (by omega), (gg.2.2 (u4 hk)).2, Ib, set_in (m := e.2.1) shf_rows hr (by rw [gAj_ne (by omega)]; exact hz) hd40 (by omega), Ib, sI_sA, ld_26 (by omega), gAj_ne (by omega), (gg.2.2 (u4 hk)).1, Ib]
    refine hself _ ⟨?_, ?_, ?_⟩
    · show nI ek.2.2.1 = nI (ent _ (upE _ p k)).2.2.1
      rw [ent_g u2]
    · show nI (e.2.1 - 1 - k) + -1 = _
      rw [zn, z_m1, z_add]
      exact congrArg zI (by omega)
    · show sA h (3 + r) _ = sA h (3 + r) _
      congr 1
      funext j
      unfold upd trw
      by_cases q : j = e.2.1 - 1 - k
      · rw [if_pos q, if_pos (by omega), q, show e.2.1 - 1 - (e.2.1 - 1 - k) = k by omega]
        unfold stp
        rw [ent_g u2]
      · rw [if_neg q]
        by_cases q2 : e.2.1 - k ≤ j ∧ j < e.2.1
        · rw [if_pos q2, if_pos (by omega)]
        · rw [if_neg q2, if_neg (by omega)]
  · rintro ⟨z1, z2, z3, g⟩ ⟨rfl, rfl, rfl⟩ self
    simp only
    rw [if_pos (by rw [z_0, z_lt (by omega) (by omega) (by omega) (by omega)]; omega)]
    exact ⟨_, rfl⟩
theorem trace_to {r : Nat} (G : SG Y t op s0 B h) (W : YW Y) (hl : LD p h) (he : (bfin Y t op s0)[p]? = some e) (hr : r < 6) (hz : gI h 9 r = nI e.2.1) (hd40 : e.2.1 ≤ 40) (hF : 11880 < F) : ∃ v, f_X3_trace F (nI p) 1 (nI r) h = some (v, sA h (3 + r) (trw (bfin Y t op s0) p e.2.1 (gI h (3 + r)) e.2.1)) := by
  obtain ⟨bk, -, hlen⟩ := bfin_ok (t := t) (op := op) W G.sw
  exact trace_toE bk hlen (depth_ev G W hl he) (fun q eq hq hq2 => G.get W (hl.mono hq) hq2) he hr hz hd40 hF
theorem mfirst_ev {E : List Ent} (Q : ME Y E h) (bk : Bok Y s0 E) (W : YW Y) (he : E[p]? = some e) (hF : 11880 < F) : f_X8_firstStep F (nI (cod (yn Y) e.1)) h = some (fsp E p e.2.1) := by
  have hlen := bk.len W
  have hd := bk.dep p e he
  have hp := get_lt he
  unfold f_X8_firstStep
  refine fix_inv (fun k z => z.2 = fsp E p k ∧ ∃ ek, E[upE E p k]? = some ek ∧ z.1 = nI (cod (yn Y) ek.1)) e.2.1 ⟨rfl, e, he, rfl⟩ (by omega) ?_ ?_
  · rintro k ⟨z1, z2⟩ hk ⟨rfl, ek, u2, rfl⟩ self hself
    obtain ⟨u1, ek', u2', u3, u4⟩ := up_ok bk he k (by omega)
    rw [u2] at u2'
    cases u2'
    have c1 : cod (yn Y) ek.1 < 20736 := Nat.lt_of_le_of_lt cod_le (bk.1 ek (List.mem_of_getElem? u2)).1.1
    obtain ⟨q1, q2, q3⟩ := Q.2.1 _ ek u2
    obtain ⟨q4, o, q5, q6⟩ := q3 (u4 hk)
    simp only
    rw [ld_93 c1, q2, Ib, lit_0, i_le (by omega) (by decide), if_neg (by omega), ld_95 c1, q4, Ib, ld_94 c1, q6, Ib]
    refine hself _ ⟨?_, o, ?_, rfl⟩
    · show nI ek.2.2.2 = _
      unfold fsp stp
      rw [if_neg (by omega), Nat.add_sub_cancel, ent_g u2]
    · show E[(ent E (upE E p k)).2.2.1]? = some o
      rw [ent_g u2]; exact q5
  · rintro ⟨z1, z2⟩ ⟨rfl, ek, u2, rfl⟩ self
    obtain ⟨u1, ek', u2', u3, u4⟩ := up_ok bk he e.2.1 (Nat.le_refl _)
    rw [u2] at u2'
    cases u2'
    have c1 : cod (yn Y) ek.1 < 20736 := Nat.lt_of_le_of_lt cod_le (bk.1 ek (List.mem_of_getElem? u2)).1.1
    simp only
    rw [ld_93 c1, (Q.2.1 _ ek u2).2.1, Ib, lit_0, i_le (by omega) (by decide), if_pos (by omega)]
end TRACE
