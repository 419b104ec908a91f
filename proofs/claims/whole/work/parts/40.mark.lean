/-! loops once more: with an end that is only known to be there; adding up -/
theorem fix_exG {σ ρ : Type} {b : (σ → Option ρ) → σ → Option ρ} {K : σ → Option ρ} (I : Nat → σ → Prop) (n : Nat) (hs : ∀ k s, k < n → I k s → ∃ s', I (k + 1) s' ∧ ∀ self, b self s = self s') (he : ∀ s, I n s → ∀ self, b self s = K s) : ∀ (d k F : Nat) (s : σ), k + d = n → d < F → I k s → ∃ s', I n s' ∧ fix b F s = K s'
  | 0, k, F + 1, s, hk, _, h => by
    have : k = n := by omega
    subst this
    exact ⟨s, h, he s h _⟩
  | d + 1, k, F + 1, s, hk, hF, h => by
    obtain ⟨s', h1, h2⟩ := hs k s (by omega) h
    obtain ⟨s'', h3, h4⟩ := fix_exG I n hs he d (k + 1) F s' (by omega) (by omega) h1
    exact ⟨s'', h3, (h2 _).trans h4⟩
theorem fix_ex {σ ρ : Type} {b : (σ → Option ρ) → σ → Option ρ} {F : Nat} {s0 : σ} (K : σ → Option ρ) (I : Nat → σ → Prop) (n : Nat) (h0 : I 0 s0) (hF : n < F) (hs : ∀ k s, k < n → I k s → ∃ s', I (k + 1) s' ∧ ∀ self, b self s = self s') (he : ∀ s, I n s → ∀ self, b self s = K s) : ∃ s', I n s' ∧ fix b F s0 = K s' := fix_exG I n hs he n 0 F s0 (by omega) hF h0
theorem add_loop {ρ : Type} {F m b : Nat} {p : Nat → Bool} (K : Int32 → Option ρ) (bd : Int32) (E : Int32 → Option Int32) (hbd : bd = nI m) (hm : m < 100000) (hE : ∀ k, k < m → E (nI k) = some (bz (p k))) (hF : m < F) : fix (fun (self : Int32 × Int32 → Option ρ) s => if bd ≤ s.2 then K s.1 else (E s.2).bind fun t => self (s.1 + t, s.2 + 1)) F (nI b, 0) = K (nI (b + cnt p m)) := by
  subst hbd
  refine fix_seq (fun k => (nI (b + cnt p k), nI k)) m rfl (fun k hk self => ?_) (fun self => ?_) hF
  · simp only
    rw [if_neg (nle_k (by omega) hk), hE k hk, Ib, n_add1]
    cases q : p k with
    | true =>
      rw [cnt_s1 q]
      show self (nI (b + cnt p k) + 1, _) = _
      rw [n_add1]
      rfl
    | false =>
      rw [cnt_s0 q]
      show self (nI (b + cnt p k) + 0, _) = _
      rw [Int32.add_zero]
  · simp only
    rw [if_pos (rf_le (by omega))]
theorem sum_loop {ρ : Type} {F m b : Nat} {f : Nat → Nat} (K : Int32 → Option ρ) (bd : Int32) (E : Int32 → Option Int32) (hbd : bd = nI m) (hm : m < 100000) (hE : ∀ k, k < m → E (nI k) = some (nI (f k))) (hF : m < F) : fix (fun (self : Int32 × Int32 → Option ρ) s => if bd ≤ s.2 then K s.1 else (E s.2).bind fun t => self (s.1 + t, s.2 + 1)) F (nI b, 0) = K (nI (b + sumN f m)) := by
  subst hbd
  refine fix_seq (fun k => (nI (b + sumN f k), nI k)) m rfl (fun k hk self => ?_) (fun self => ?_) hF
  · simp only
    rw [if_neg (nle_k (by omega) hk), hE k hk, Ib, n_add1, nI_add]
    rw [Nat.add_assoc]; rfl
  · simp only
    rw [if_pos (rf_le (by omega))]
/-! what a kind is besides itself -/
def par (x : Nat) : Nat := ([0, 0, 0, 0, 2, 3] : List Nat).getD x 0
def anc (x : Nat) : Nat → Nat
  | 0 => x
  | k + 1 => par (anc x k)
def isk (x q : Nat) : Bool := decide (x = q) || decide (q = 2 ∧ x = 4) || decide (q = 3 ∧ x = 5)
theorem isk_fin : alN 6 (fun x => alN 6 fun q => decide (q = 0) || (alN 6 (fun k => decide (anc x k < 6) && (!decide (anc x k = q) || isk x q)) && (!isk x q || !alN 6 (fun k => !decide (anc x k = q))))) = true := by decide +kernel
theorem par_ev {x : Nat} (hx : x < 6) : ldT 1 (nI x) = some (nI (par x)) := by
  rw [ldT_n (n := 6) rfl hx (by decide)]
  exact congrArg some ((show ∀ x, x < 6 → stv 1 x = nI (par x) by decide) x hx)
section MARK
variable {y : Nat} {Z : SS} {h : Hp} {F i q : Nat}
theorem is_ev (I : CI y Z h) (w : SWf Z) (hi : i < yn (sY Z)) (hq : q < 6) (hq0 : 0 < q) (hF : 6 < F) : f_X6_is F y (nI i) (nI q) h = some (bz (isk (yk (sY Z) i) q)) := by
  have hn := w.1.2.2.1
  have k6 := w.1.2.2.2.2.2.1 i hi
  have fin := alN_get (alN_get isk_fin k6) hq
  rw [decide_eq_false (show ¬ q = 0 by omega), Bool.false_or, Bool.and_eq_true] at fin
  have f1 : ∀ k, k < 6 → anc (yk (sY Z) i) k < 6 ∧ (anc (yk (sY Z) i) k = q → isk (yk (sY Z) i) q = true) := by
    intro k hk
    have := alN_get fin.1 hk
    simp only [Bool.and_eq_true, Bool.or_eq_true, Bool.not_eq_true', decide_eq_true_eq, decide_eq_false_iff_not] at this
    exact ⟨this.1, fun e => this.2.resolve_left (fun z => z e)⟩
  unfold f_X6_is
  rw [y_rf7 I.1, y_ld1 I.1 (by omega), I.yc.2.2.2.2.2.2.1 i hi, Ib]
  refine fix_inv (fun k z => z = (nI (anc (yk (sY Z) i) k), nI k) ∧ ∀ j, j < k → anc (yk (sY Z) i) j ≠ q) 6 ⟨rfl, fun j hj => absurd hj (Nat.not_lt_zero j)⟩ hF ?_ ?_
  · rintro k z hk ⟨rfl, hz⟩ self hself
    have a6 := (f1 k hk).1
    simp only
    rw [lit_6, if_neg (nle_k (by decide) hk), i_eq (by omega) (by omega), par_ev a6, Ib, n_add1]
    by_cases e : anc (yk (sY Z) i) k = q
    · rw [if_pos e, (f1 k hk).2 e]; rfl
    · rw [if_neg e]
      exact hself _ ⟨rfl, fun j hj => by
        by_cases e2 : j = k
        · rw [e2]; exact e
        · exact hz j (by omega)⟩
  · rintro z ⟨rfl, hz⟩ self
    simp only
    rw [lit_6, if_pos (rf_le (by decide))]
    have : isk (yk (sY Z) i) q = false := by
      cases e : isk (yk (sY Z) i) q with
      | false => rfl
      | true =>
        have f2 := fin.2
        rw [e, Bool.not_true, Bool.false_or, Bool.not_eq_true'] at f2
        have : alN 6 (fun k => !decide (anc (yk (sY Z) i) k = q)) = true := by
          unfold alN
          rw [List.all_eq_true]
          intro j hj
          simpa using hz j (List.mem_range.mp hj)
        rw [this] at f2
        cases f2
    rw [this]; rfl
def knm (Y : YS) (q : Nat) : Nat := bts (fun j => decide (yk Y j = q)) (yn Y)
theorem len_fin : alN 5 (fun n => alN 2 fun r => alN n fun i => alN 16 fun B => alN 16 fun A => decide ((slv n (chn n (decide (r = 1))) i B A).length = (msl n (chn n (decide (r = 1))) i B A n).length)) = true := by decide +kernel
theorem knm_tb {Y : YS} {q j : Nat} (hj : j < yn Y) : (knm Y q).testBit j = decide (yk Y j = q) := by
  unfold knm
  rw [bts_tb]
  simp [hj]
theorem clo_tb {op c k : Nat} (hk : k < c) : (clo op c).testBit k = !op.testBit k := by
  unfold clo
  rw [bts_tb]
  simp [hk]
theorem cto_ev (I : CI y Z h) (w : SWf Z) (hi : i < yn (sY Z)) (hq : q < 6) (hF : 4 < F) : f_X7_chainedTo F (nI i) (nI q) h = some (nI (slv (yn (sY Z)) (yc (sY Z)) i (clo (co (sC Z)) (yc (sY Z))) (knm (sY Z) q)).length) := by
  have W := w.1
  have hn := W.2.2.1
  have hc := yc_le W
  have o16 := op16 w.1 w.2.1.2.2.1
  unfold f_X7_chainedTo
  refine fix_seq (fun k => (nI (slv (yn (sY Z)) k i (clo (co (sC Z)) (yc (sY Z))) (knm (sY Z) q)).length, nI k)) (yc (sY Z)) rfl (fun k hk self => ?_) (fun self => ?_) (by omega)
  · have hk2 := chn_2 hk
    simp only [I.o, Ib, I.c]
    rw [if_neg (nle_k (by omega) hk), lit_4, pk_mul, nI_add, y_rf13 I.1, y_ld7 I.1 (by omega), I.yc.2.2.2.2.2.2.2.2.2.2.2 k hk i (by omega), Ib, I.now.2.2.1, i_tb0 (by omega) (by omega), n_add1, n_add1, y_rf7 I.1, slv_s, List.length_append]
    have stay : sl1 (yn (sY Z)) i (clo (co (sC Z)) (yc (sY Z))) (knm (sY Z) q) k = none → self (nI (slv (yn (sY Z)) k i (clo (co (sC Z)) (yc (sY Z))) (knm (sY Z) q)).length, nI (k + 1)) = self (nI ((slv (yn (sY Z)) k i (clo (co (sC Z)) (yc (sY Z))) (knm (sY Z) q)).length + (sl1 (yn (sY Z)) i (clo (co (sC Z)) (yc (sY Z))) (knm (sY Z) q) k).toList.length), nI (k + 1)) := by
      intro e
      rw [e]
      rfl
    by_cases q1 : (co (sC Z)).testBit k = true
    · rw [if_pos q1, Ib]
      exact stay (by unfold sl1; rw [clo_tb hk, q1]; rfl)
    · have q1f : (co (sC Z)).testBit k = false := by simpa using q1
      rw [if_neg q1]
      cases ho : prt (yn (sY Z)) k i with
      | none =>
        show Option.bind (if (-9 : Int32) = -9 then _ else _) _ = _
        rw [if_pos rfl, Ib]
        exact stay (by unfold sl1; rw [clo_tb hk, q1f, ho]; rfl)
      | some o =>
        have ho2 := prt_lt hk2.2 ho
        have k6 := W.2.2.2.2.2.1 o ho2
        show Option.bind (if nI o = -9 then _ else ((ldI h (y + 1) (nI o)).bind _)) _ = _
        rw [i_m9 (by omega), y_ld1 I.1 (by omega), I.yc.2.2.2.2.2.2.1 o ho2, Ib, i_eq (by omega) (by omega)]
        by_cases q2 : yk (sY Z) o = q
        · have e : sl1 (yn (sY Z)) i (clo (co (sC Z)) (yc (sY Z))) (knm (sY Z) q) k = some o := by
            unfold sl1
            rw [clo_tb hk, q1f, ho]
            simp only [Bool.not_false, if_true]
            rw [knm_tb ho2, if_pos (by simpa using q2)]
          rw [if_pos q2, Ib, e]
          rfl
        · rw [if_neg q2, Ib]
          exact stay (by
            unfold sl1
            rw [clo_tb hk, q1f, ho]
            simp only [Bool.not_false, if_true]
            rw [knm_tb ho2, if_neg (by simpa using q2)])
  · simp only [I.o, Ib, I.c]
    rw [if_pos (rf_le (by omega))]
theorem mto_ev (M : MI Z h) (w : SWf Z) (hi : i < yn (sY Z)) (hq : q < 6) (hF : 4 < F) : f_X8_chainedTo F (nI i) (nI q) h = some (nI (msl (yn (sY Z)) (yc (sY Z)) i (clo (co (sC Z)) (yc (sY Z))) (knm (sY Z) q) (yn (sY Z))).length) := by
  have W := w.1
  have hn := W.2.2.1
  have hc := yc_le W
  unfold f_X8_chainedTo
  refine fix_seq (fun j => (nI (msl (yn (sY Z)) (yc (sY Z)) i (clo (co (sC Z)) (yc (sY Z))) (knm (sY Z) q) j).length, nI j)) (yn (sY Z)) rfl (fun j hj self => ?_) (fun self => ?_) (by omega)
  · simp only [M.my.2.2.1]
    rw [if_neg (nle_k (by omega) hj)]
    refine fix_seq (fun k => (nI ((msl (yn (sY Z)) (yc (sY Z)) i (clo (co (sC Z)) (yc (sY Z))) (knm (sY Z) q) j).length + (msr (yn (sY Z)) i (clo (co (sC Z)) (yc (sY Z))) (knm (sY Z) q) j k).length), nI k)) (yc (sY Z)) rfl (fun k hk self2 => ?_) (fun self2 => ?_) (by omega)
    · have k6 := W.2.2.2.2.2.1 j hj
      simp only [M.my.2.2.2.1]
      rw [if_neg (nle_k (by omega) hk), ld_74 (by omega), M.my.2.2.2.2.2.1 j hj, Ib, i_eq (by omega) (by omega), isCh_ev M.my M.mt W hk hi hj, Ib, i_bz0, n_add1, msr_s, List.length_append, ← Nat.add_assoc]
      by_cases q1 : yk (sY Z) j = q
      · rw [if_pos q1]
        by_cases q2 : (!(co (sC Z)).testBit k && chd (yn (sY Z)) k i j) = true
        · have e : ms1 (yn (sY Z)) i (clo (co (sC Z)) (yc (sY Z))) (knm (sY Z) q) j k = some j := by
            unfold ms1
            rw [if_pos]
            rw [clo_tb hk, knm_tb hj]
            simp only [Bool.and_eq_true] at q2 ⊢
            exact ⟨⟨by simpa using q1, q2.2⟩, q2.1⟩
          rw [if_pos q2, Ib, e, n_add1]
          rfl
        · have e : ms1 (yn (sY Z)) i (clo (co (sC Z)) (yc (sY Z))) (knm (sY Z) q) j k = none := by
            unfold ms1
            rw [if_neg]
            rw [clo_tb hk]
            simp only [Bool.and_eq_true] at q2 ⊢
            exact fun z => q2 ⟨z.2, z.1.2⟩
          rw [if_neg q2, Ib, e, Int32.add_zero]
          rfl
      · have e : ms1 (yn (sY Z)) i (clo (co (sC Z)) (yc (sY Z))) (knm (sY Z) q) j k = none := by
          unfold ms1
          rw [if_neg]
          rw [knm_tb hj]
          simp [q1]
        rw [if_neg q1, Ib, e, Int32.add_zero]
        rfl
    · simp only [M.my.2.2.2.1]
      rw [if_pos (rf_le (by omega)), n_add1, msl_s, List.length_append]
  · simp only [M.my.2.2.1]
    rw [if_pos (rf_le (by omega))]
theorem to_eq (w : SWf Z) (hi : i < yn (sY Z)) : (slv (yn (sY Z)) (yc (sY Z)) i (clo (co (sC Z)) (yc (sY Z))) (knm (sY Z) q)).length = (msl (yn (sY Z)) (yc (sY Z)) i (clo (co (sC Z)) (yc (sY Z))) (knm (sY Z) q) (yn (sY Z))).length := by
  have hn := w.1.2.2.1
  have t16 : clo (co (sC Z)) (yc (sY Z)) < 16 := bt16 (bts_lt _ _) (yc_le w.1)
  have a16 : knm (sY Z) q < 16 := bt16 (bts_lt _ _) (by omega)
  have fin := of_decide_eq_true (alN_get (alN_get (alN_get (alN_get (alN_get len_fin (show yn (sY Z) < 5 by omega)) (show (if yr (sY Z) = true then 1 else 0) < 2 by split <;> decide)) hi) t16) a16)
  have cr : chn (yn (sY Z)) (decide ((if yr (sY Z) = true then 1 else 0) = 1)) = yc (sY Z) := by
    unfold yc
    congr 1
    cases yr (sY Z) <;> rfl
  rw [cr] at fin
  exact fin
theorem cfar_ev (I : CI y Z h) (w : SWf Z) (hi : i < yn (sY Z)) (hF : 4 < F) : f_X7_fartherThanTwo F (nI i) h = some (nI (cnt (fun j => decide (2 < dst (yw (sY Z)) (dg (cs (sC Z)) i) (dg (cs (sC Z)) j))) (yn (sY Z)))) := by
  have W := w.1
  have hn := W.2.2.1
  have s0 := w.2.1.1
  unfold f_X7_fartherThanTwo
  refine fix_seq (fun k => (nI (cnt (fun j => decide (2 < dst (yw (sY Z)) (dg (cs (sC Z)) i) (dg (cs (sC Z)) j))) k), nI k)) (yn (sY Z)) rfl (fun k hk self => ?_) (fun self => ?_) (by omega)
  · have r2 : dst (yw (sY Z)) (dg (cs (sC Z)) i) (dg (cs (sC Z)) k) < 100 := dst_lt (dg_lt _ _) (dg_lt _ _)
    simp only [I.o, Ib, I.n]
    rw [if_neg (nle_k (by omega) hk), I.now.1, apart_ev I.yc W I.1 I.2.1 (by have := s0.1; omega) (by omega) (by omega) (s0.2.2.1 i hi) (s0.2.2.1 k hk), Ib, lit_2, i_le (by omega) (by decide), n_add1, n_add1]
    by_cases q : dst (yw (sY Z)) (dg (cs (sC Z)) i) (dg (cs (sC Z)) k) ≤ 2
    · rw [if_pos q, Ib, cnt_s0 (by simpa using q)]
    · rw [if_neg q, Ib, cnt_s1 (by simpa using q)]
  · simp only [I.o, Ib, I.n]
    rw [if_pos (rf_le (by omega))]
theorem mfar_ev (M : MI Z h) (w : SWf Z) (hi : i < yn (sY Z)) (hF : 4 < F) : f_X8_farFrom F (nI i) h = some (nI (cnt (fun j => decide (2 < dst (yw (sY Z)) (dg (cs (sC Z)) i) (dg (cs (sC Z)) j))) (yn (sY Z)))) := by
  have W := w.1
  have hn := W.2.2.1
  unfold f_X8_farFrom
  refine fix_seq (fun k => (nI (cnt (fun j => decide (2 < dst (yw (sY Z)) (dg (cs (sC Z)) i) (dg (cs (sC Z)) j))) k), nI k)) (yn (sY Z)) rfl (fun k hk self => ?_) (fun self => ?_) (by omega)
  · have r2 : dst (yw (sY Z)) (dg (cs (sC Z)) i) (dg (cs (sC Z)) k) < 100 := dst_lt (dg_lt _ _) (dg_lt _ _)
    simp only [M.my.2.2.1]
    rw [if_neg (nle_k (by omega) hk), ld_75 (by omega), M.p hi, Ib, ld_75 (by omega), M.p hk, Ib, M.my.2.1, farIn_ev (dg_lt _ _) (dg_lt _ _) (yw_pos W (by omega)).1 W.1, Ib, lit_2, i_le (by omega) (by decide), n_add1]
    by_cases q : dst (yw (sY Z)) (dg (cs (sC Z)) i) (dg (cs (sC Z)) k) ≤ 2
    · rw [if_pos q, Ib, cnt_s0 (by simpa using q), Int32.add_zero]
    · rw [if_neg q, Ib, cnt_s1 (by simpa using q), n_add1]
  · simp only [M.my.2.2.1]
    rw [if_pos (rf_le (by omega))]
def lrk (Y : YS) (i : Nat) : Nat → Option Nat
  | 0 => none
  | k + 1 => if own (yn Y) i k = true then (match lrk Y i k with
    | none => some (rch Y k)
    | some m => if m ≤ rch Y k then some m else some (rch Y k)) else lrk Y i k
theorem lrk_lt {Y : YS} {i : Nat} (W : YW Y) : ∀ k, k ≤ yc Y → ∀ m, lrk Y i k = some m → m < 20
  | 0, _, m, h => by cases h
  | k + 1, hk, m, h => by
    have ih := lrk_lt (i := i) W k (by omega)
    have r := rch_lt W (show k < yc Y by omega)
    unfold lrk at h
    split at h
    · cases e : lrk Y i k with
      | none => rw [e] at h; cases h; exact r
      | some m' =>
        rw [e] at h
        simp only at h
        split at h
        · cases h; exact ih m e
        · cases h; exact r
    · exact ih m h
theorem clr_ev (I : CI y Z h) (w : SWf Z) (hi : i < yn (sY Z)) (hF : 4 < F) : f_X7_leastReach F (nI i) h = some (oI (lrk (sY Z) i (yc (sY Z)))) := by
  have W := w.1
  have hn := W.2.2.1
  have hc := yc_le W
  unfold f_X7_leastReach
  refine fix_seq (fun k => (oI (lrk (sY Z) i k), nI k)) (yc (sY Z)) rfl (fun k hk self => ?_) (fun self => ?_) (by omega)
  · have hk2 := chn_2 hk
    have r := rch_lt W hk
    simp only [I.o, Ib, I.c]
    rw [if_neg (nle_k (by omega) hk), lit_4, pk_mul, nI_add, y_rf13 I.1, y_ld7 I.1 (by omega), I.yc.2.2.2.2.2.2.2.2.2.2.2 k hk i (by omega), Ib, y_rf10 I.1, y_ld4 I.1 (by omega), I.yc.2.2.2.2.2.2.2.2.1 k hk, Ib, n_add1]
    have hu : lrk (sY Z) i (k + 1) = if own (yn (sY Z)) i k = true then (match lrk (sY Z) i k with
      | none => some (rch (sY Z) k)
      | some m => if m ≤ rch (sY Z) k then some m else some (rch (sY Z) k)) else lrk (sY Z) i k := rfl
    rw [hu, ← prt_own]
    cases ho : prt (yn (sY Z)) k i with
    | none =>
      show Option.bind (if (-9 : Int32) = -9 then _ else _) _ = _
      rw [if_pos rfl, Ib]
      rfl
    | some o =>
      have := prt_lt hk2.2 ho
      show Option.bind (if nI o = -9 then _ else _) _ = _
      rw [i_m9 (by omega)]
      simp only [Option.isSome_some, if_true]
      cases hl : lrk (sY Z) i k with
      | none =>
        show Option.bind (if (-9 : Int32) = -9 then _ else _) _ = _
        rw [if_pos rfl, Ib]
        rfl
      | some m =>
        have m20 := lrk_lt W k (by omega) m hl
        show Option.bind (if nI m = -9 then _ else if nI m ≤ nI (rch (sY Z) k) then _ else _) _ = _
        rw [i_m9 (by omega), i_le (by omega) (by omega)]
        by_cases q : m ≤ rch (sY Z) k
        · simp only [if_pos q, Ib]
        · simp only [if_neg q, Ib]; rfl
  · simp only [I.o, Ib, I.c]
    rw [if_pos (rf_le (by omega))]
theorem mlr_ev (M : MI Z h) (w : SWf Z) (hi : i < yn (sY Z)) (hF : 4 < F) : f_X8_leastReach F (nI i) h = some (oI (lrk (sY Z) i (yc (sY Z)))) := by
  have W := w.1
  have hn := W.2.2.1
  have hc := yc_le W
  unfold f_X8_leastReach
  refine fix_seq (fun k => (oI (lrk (sY Z) i k), nI k)) (yc (sY Z)) rfl (fun k hk self => ?_) (fun self => ?_) (by omega)
  · have hk2 := chn_2 hk
    have hs2 : sec (yn (sY Z)) k < yn (sY Z) := sec_lt (by omega)
    have r := rch_lt W hk
    simp only [M.my.2.2.2.1, jn]
    rw [if_neg (nle_k (by omega) hk), i_eq (by omega) (by omega), other_ev M.my W hk2.2, Ib, i_eq (by omega) (by omega), reachOf_ev M.my W hk, Ib, Ib, n_add1]
    have hu : lrk (sY Z) i (k + 1) = if own (yn (sY Z)) i k = true then (match lrk (sY Z) i k with
      | none => some (rch (sY Z) k)
      | some m => if m ≤ rch (sY Z) k then some m else some (rch (sY Z) k)) else lrk (sY Z) i k := rfl
    have ow : (if k = i then some (1 : Int32) else if sec (yn (sY Z)) k = i then some 1 else some 0) = some (bz (own (yn (sY Z)) i k)) := by
      unfold own
      by_cases e1 : k = i
      · rw [if_pos e1, decide_eq_true e1]; rfl
      · rw [if_neg e1, decide_eq_false e1]
        by_cases e2 : sec (yn (sY Z)) k = i
        · rw [if_pos e2, decide_eq_true e2]; rfl
        · rw [if_neg e2, decide_eq_false e2]; rfl
    rw [hu, ow, Ib, i_bz0]
    by_cases q0 : own (yn (sY Z)) i k = true
    · rw [if_pos q0, if_pos q0]
      cases hl : lrk (sY Z) i k with
      | none =>
        show Option.bind (if (-9 : Int32) = -9 then _ else _) _ = _
        rw [if_pos rfl, Ib]
        rfl
      | some m =>
        have m20 := lrk_lt W k (by omega) m hl
        show Option.bind (if nI m = -9 then _ else if nI m ≤ nI (rch (sY Z) k) then _ else _) _ = _
        rw [i_m9 (by omega), i_le (by omega) (by omega)]
        by_cases q : m ≤ rch (sY Z) k
        · simp only [if_pos q, Ib]
        · simp only [if_neg q, Ib]; rfl
    · rw [if_neg q0, if_neg q0, Ib]
  · simp only [M.my.2.2.2.1]
    rw [if_pos (rf_le (by omega))]
end MARK
