/-! counting, copying loops -/
def cnt (p : Nat → Bool) : Nat → Nat
  | 0 => 0
  | m + 1 => cnt p m + (if p m = true then 1 else 0)
theorem cnt_le (p : Nat → Bool) : ∀ m, cnt p m ≤ m
  | 0 => Nat.le_refl _
  | m + 1 => by
    have := cnt_le p m
    unfold cnt
    split <;> omega
theorem cnt_s1 {p : Nat → Bool} {k : Nat} (h : p k = true) : cnt p (k + 1) = cnt p k + 1 := by
  show cnt p k + (if p k = true then 1 else 0) = _
  rw [if_pos h]
theorem cnt_s0 {p : Nat → Bool} {k : Nat} (h : p k = false) : cnt p (k + 1) = cnt p k := by
  show cnt p k + (if p k = true then 1 else 0) = _
  rw [if_neg (by rw [h]; decide), Nat.add_zero]
theorem cnt_congr {p q : Nat → Bool} : ∀ {m : Nat}, (∀ j, j < m → p j = q j) → cnt p m = cnt q m
  | 0, _ => rfl
  | m + 1, h => by
    unfold cnt
    rw [h m (by omega), cnt_congr (fun j hj => h j (by omega))]
theorem cnt_pad {p : Nat → Bool} {c : Nat} : ∀ d, cnt (fun j => decide (j < c) && p j) (c + d) = cnt p c
  | 0 => cnt_congr (fun j hj => by simp; intro h; omega)
  | d + 1 => by
    show cnt _ ((c + d) + 1) = _
    rw [cnt_s0 (by simp only [show ¬ (c + d < c) by omega, decide_false, Bool.false_and]), cnt_pad d]
def pcn (x : Nat) : Nat := cnt (fun j => x.testBit j) 8
theorem pcn_bts {p : Nat → Bool} {c : Nat} (hc : c ≤ 8) : pcn (bts p c) = cnt p c := by
  unfold pcn
  rw [cnt_congr (q := fun j => decide (j < c) && p j) (fun j _ => bts_tb p c j), show 8 = c + (8 - c) by omega]
  exact cnt_pad _
theorem bts_and {p q : Nat → Bool} {c : Nat} : bts p c &&& bts q c = bts (fun k => p k && q k) c := by
  apply tb_ext (k := c) (Nat.lt_of_le_of_lt Nat.and_le_left (bts_lt p c)) (bts_lt _ c)
  intro j hj
  rw [Nat.testBit_and, bts_tb, bts_tb, bts_tb]
  simp [hj]
theorem bitc_fin : alN 256 (fun x => decide (f_J6_bitCount_0f7a4 (nI x) h00 = some (nI (pcn x)))) = true := by decide +kernel
theorem bitc_ev {x : Nat} {h : Hp} (hx : x < 256) : f_J6_bitCount_0f7a4 (nI x) h = some (nI (pcn x)) := by
  have e : f_J6_bitCount_0f7a4 (nI x) h = f_J6_bitCount_0f7a4 (nI x) h00 := rfl
  rw [e]
  exact of_decide_eq_true (alN_get bitc_fin hx)
def clrb (x : Nat) : Nat → Nat
  | 0 => x
  | k + 1 => clrb x k &&& (clrb x k - 1)
theorem bits_fin : alN 256 (fun x => decide (clrb x (pcn x) = 0) && alN (pcn x) (fun k => decide (0 < clrb x k))) = true := by decide +kernel
theorem clrb_le (x : Nat) : ∀ k, clrb x k ≤ x
  | 0 => Nat.le_refl _
  | k + 1 => Nat.le_trans Nat.and_le_left (clrb_le x k)
theorem bits_ev {x F : Nat} {h : Hp} (hx : x < 256) (hF : 8 < F) : f_X8_bits F (nI x) h = some (nI (pcn x)) := by
  have hf := alN_get bits_fin hx
  rw [Bool.and_eq_true, decide_eq_true_eq] at hf
  have h8 : pcn x ≤ 8 := cnt_le _ _
  unfold f_X8_bits
  refine fix_seq (fun k => (nI k, nI (clrb x k))) (pcn x) rfl (fun k hk self => ?_) (fun self => ?_) (by omega)
  · have q := of_decide_eq_true (alN_get hf.2 hk)
    have q2 := clrb_le x k
    simp only [nm]
    rw [if_neg (n_nz (by omega) q), n_add1, lit_1, pk_sub (by omega), n_and (by omega) (by omega)]
    rfl
  · simp only
    rw [hf.1]
    exact if_pos rfl
theorem cpy_loop {ρ : Type} {F a b na nb sp dp n : Nat} {h : Hp} (K : Hp → Option ρ) (bd : Hp → Int32) (ia ib : Hp → Int32 → Int32) (hab : a ≠ b) (ha : (sh a).2.2 = na) (hb : (sh b).2.2 = nb) (h1 : sp + n ≤ na) (h2 : dp + n ≤ nb) (h3 : na < 200000) (h4 : nb < 200000) (hbd : ∀ f, bd (sA h b f) = nI n) (hia : ∀ f k, k < n → ia (sA h b f) (nI k) = nI (sp + k)) (hib : ∀ f k, k < n → ib (sA h b f) (nI k) = nI (dp + k)) (hF : n < F) : fix (fun (self : Int32 × Hp → Option ρ) s => if bd s.2 ≤ s.1 then K s.2 else (ldI s.2 a (ia s.2 s.1)).bind fun v => (stI s.2 b (ib s.2 s.1) v).bind fun h1 => self (s.1 + 1, h1)) F (0, h) = K (sA h b (va_cpy (gI h a) (gI h b) sp dp n)) := by
  refine fix_seq (fun k => (nI k, sA h b (va_cpy (gI h a) (gI h b) sp dp k))) n ?_ (fun k hk self => ?_) (fun self => ?_) hF
  · refine Prod.ext rfl (sA_self fun j => ?_)
    rw [pk_cpy_out (by omega)]
  · simp only [hbd]
    rw [if_neg (nle_k (by omega) hk), hia _ k hk, hib _ k hk, ld_n ha (by omega) h3, Ib, st_n hb (by omega) h4, Ib, sI_sA, gAj_ne hab, n_add1]
    congr 3
    funext j
    unfold upd
    by_cases q : j = dp + k
    · rw [if_pos q, pk_cpy_in (by omega) (by omega)]
      congr 1
      omega
    · rw [if_neg q]
      by_cases q2 : dp ≤ j ∧ j < dp + k
      · rw [pk_cpy_in q2.1 q2.2, pk_cpy_in q2.1 (by omega)]
      · rw [pk_cpy_out (by omega), pk_cpy_out (by omega)]
  · simp only [hbd]
    rw [if_pos (rf_le (by omega))]
def s82 (a _k : Nat) : Prop := a = 82
theorem look_ev {Z : SS} {h : Hp} {F : Nat} (M : MI Z h) (W : YW (sY Z)) (hF : 4 < F) : ∃ h', f_X8_lookAtNow F h = some h' ∧ LK (sY Z) (cs (sC Z)) h' ∧ Eo s82 h h' := by
  have hn := W.2.2.1
  refine ⟨sA h 82 (va_cpy (gI h 75) (gI h 82) 0 0 (yn (sY Z))), ?_, fun i hi => ?_, Eo.refl.sA (fun k => rfl)⟩
  · unfold f_X8_lookAtNow
    refine cpy_loop (na := 4) (nb := 4) (fun h => some h) (fun h => gI h 66 10) (fun _ x => x) (fun _ x => x) (by decide) rfl rfl (by omega) (by omega) (by decide) (by decide) (fun f => ?_) (fun f k hk => by rw [Nat.zero_add]) (fun f k hk => by rw [Nat.zero_add]) (by omega)
    rw [gAj_ne (by decide)]
    exact M.my.2.2.1
  · rw [gAj_eq, pk_cpy_in (by omega) (by omega), Nat.sub_zero, Nat.zero_add]
    exact M.p hi
theorem MI.of82 {Z : SS} {h h' : Hp} (M : MI Z h) (e : Eo s82 h h') : MI Z h' := M.keep fun a k q => e.1 a k (fun z => by unfold cM at q; unfold s82 at z; omega)
theorem MI.ofS {Z : SS} {h h' : Hp} (M : MI Z h) (e : Eo sSt h h') : MI Z h' := M.keep fun a k q => e.1 a k (fun z => by unfold cM at q; unfold sSt at z; omega)
theorem Sm2.of82 {h h' : Hp} (e : Eo s82 h h') : Sm2 h h' := ⟨fun a k q => e.1 a k (fun z => by unfold s82 at z; rw [irr_iff] at q; omega), by show h'.2.1 = h.2.1; rw [e.2]⟩
theorem Sm2.ofS {h h' : Hp} (e : Eo sSt h h') : Sm2 h h' := ⟨fun a k q => e.1 a k (fun z => by unfold sSt at z; rw [irr_iff] at q; omega), by show h'.2.1 = h.2.1; rw [e.2]⟩
theorem Eo.to {h h' : Hp} (e : Eo s82 h h') : Eo sSt h h' := e.mono (fun a k q => Or.inl q)
/-! which ways are open to a man -/
def wys (Y : YS) (t op s i : Nat) : Nat := bts (fun d => (aft Y t op s i d).isSome) 4
theorem aft_lt {Y : YS} {t op s i d s' : Nat} (W : YW Y) (hs : s < 20736) (hi : i < yn Y) (hd : d < 4) (hg : dg s i < ycl Y) (h : aft Y t op s i d = some s') : s' < 20736 := by
  have hn := W.2.2.1
  have hcl := ycl_le W
  unfold aft at h
  split at h
  · cases hb : nxc Y (dg s i) d with
    | none => rw [hb] at h; cases h
    | some b =>
      rw [hb] at h
      have hb2 := (nxc_lt W hg hd hb).1
      have s1 := pt_lt hs (show i < 4 by omega) (show b < 12 by omega)
      simp only at h
      split at h
      · cases h
      · split at h
        · cases h; exact s1
        · split at h
          · have hL := fun o (ho : o ∈ slv (yn Y) (yc Y) i (trn Y op (pt s i b)) (asl Y)) => (slv_mem (n := yn Y) (c := yc Y) chn_le ho).1
            generalize slv (yn Y) (yc Y) i (trn Y op (pt s i b)) (asl Y) = L at *
            match L, hL, h with
            | [], _, h => cases h
            | _ :: _ :: _, _, h => cases h
            | [o], hL, h =>
              have := hL o List.mem_cons_self
              unfold alg at h
              simp only at h
              split at h
              · cases h
              · split at h
                · cases h; exact pt_lt s1 (by omega) (dg_lt _ _)
                · cases h
          · cases h
  · cases h
section WAYS
variable {y : Nat} {Z : SS} {h : Hp} {F i : Nat}
theorem op16 {Y : YS} {op : Nat} (W : YW Y) (h : op < 2 ^ yc Y) : op < 16 := bt16 h (yc_le W)
theorem cways_ev (I : CI y Z h) (w : SWf Z) (hi : i < yn (sY Z)) (hF : 4 < F) : f_X7_waysOpenTo F (nI i) h = some (nI (wys (sY Z) (ct (sC Z)) (co (sC Z)) (cs (sC Z)) i)) := by
  obtain ⟨W, cw, -⟩ := w
  have o16 := op16 W cw.2.2.1
  unfold f_X7_waysOpenTo
  refine fix_seq (fun k => (nI (bts (fun d => (aft (sY Z) (ct (sC Z)) (co (sC Z)) (cs (sC Z)) i d).isSome) k), nI k)) 4 rfl (fun k hk self => ?_) (fun self => ?_) (by omega)
  · have b4 := bt16 (bts_lt (fun d => (aft (sY Z) (ct (sC Z)) (co (sC Z)) (cs (sC Z)) i d).isSome) k) (by omega)
    have p1 : 2 ^ k < 16 := bt16 (pow_lt (show k < 4 by omega)) (by omega)
    simp only [nm]
    rw [lit_4, if_neg (nle_k (by decide) hk), I.now.1, after_ev I.yc W I.1 I.rc cw.1.1 hi hk o16 cw.1.2.2.1 hF, Ib, n_add1]
    cases ha : aft (sY Z) (ct (sC Z)) (co (sC Z)) (cs (sC Z)) i k with
    | none =>
      rw [bts_s0 (by rw [ha]; rfl)]
      rfl
    | some s' =>
      have := aft_lt W cw.1.1 hi hk (cw.1.2.2.1 i hi) ha
      rw [bts_s1 (by rw [ha]; rfl)]
      show Option.bind (if nI s' = -9 then _ else _) _ = _
      rw [i_m9 (by omega), n_shl (by omega), n_or (by omega) (by omega), Ib]
  · simp only
    rw [lit_4, if_pos (rf_le (by decide))]
    rfl
theorem mways_ev (M : MI Z h) (w : SWf Z) (hi : i < yn (sY Z)) (hF : 4 < F) : ∃ h', f_X8_waysOf F (nI i) h = some (nI (wys (sY Z) (ct (sC Z)) (co (sC Z)) (cs (sC Z)) i), h') ∧ Eo sSt h h' := by
  obtain ⟨W, cw, -⟩ := w
  have hx : ∀ h0, MI Z h0 → ∀ d, d < 4 → ∃ h1 h', f_X8_lookAtNow F h0 = some h1 ∧ f_X8_steps F (nI i) (nI d) h1 = some (bz (aft (sY Z) (ct (sC Z)) (co (sC Z)) (cs (sC Z)) i d).isSome, h') ∧ Eo sSt h0 h' := by
    intro h0 M0 d hd
    obtain ⟨h1, e1, l1, eo⟩ := look_ev M0 W hF
    have M1 := M0.of82 eo
    obtain ⟨h', e2, -, eo2⟩ := steps_ev M1.my M1.mt W l1 cw.1.1 hi hd cw.2.1 cw.1.2.2.1 hF
    exact ⟨h1, h', e1, e2, eo.to.trans eo2⟩
  obtain ⟨a0, b0, x0, z0, E0⟩ := hx h M 0 (by decide)
  obtain ⟨a1, b1, x1, z1, E1⟩ := hx b0 (M.ofS E0) 1 (by decide)
  obtain ⟨a2, b2, x2, z2, E2⟩ := hx b1 ((M.ofS E0).ofS E1) 2 (by decide)
  obtain ⟨a3, b3, x3, z3, E3⟩ := hx b2 (((M.ofS E0).ofS E1).ofS E2) 3 (by decide)
  refine ⟨b3, ?_, ((E0.trans E1).trans E2).trans E3⟩
  unfold f_X8_waysOf
  have stp : ∀ (k : Nat) (hk : k < 4) (g0 g1 g2 : Hp), f_X8_lookAtNow F g0 = some g1 → f_X8_steps F (nI i) (nI k) g1 = some (bz (aft (sY Z) (ct (sC Z)) (co (sC Z)) (cs (sC Z)) i k).isSome, g2) → ∀ self : Int32 × Int32 × Hp → Option (Int32 × Hp), (if (4 : Int32) ≤ nI k then some (nI (bts (fun d => (aft (sY Z) (ct (sC Z)) (co (sC Z)) (cs (sC Z)) i d).isSome) k), g0) else (f_X8_lookAtNow F g0).bind fun h4 => (f_X8_steps F (nI i) (nI k) h4).bind fun v5 => (Option.bind (if v5.1 = 0 then some (0 : Int32) else some ((1 : Int32) <<< (nI k &&& 31))) fun t6 => self (nI (bts (fun d => (aft (sY Z) (ct (sC Z)) (co (sC Z)) (cs (sC Z)) i d).isSome) k) ||| t6, nI k + 1, v5.2))) = self (nI (bts (fun d => (aft (sY Z) (ct (sC Z)) (co (sC Z)) (cs (sC Z)) i d).isSome) (k + 1)), nI (k + 1), g2) := by
    intro k hk g0 g1 g2 q1 q2 self
    have b4 := bt16 (bts_lt (fun d => (aft (sY Z) (ct (sC Z)) (co (sC Z)) (cs (sC Z)) i d).isSome) k) (by omega)
    have p1 : 2 ^ k < 16 := bt16 (pow_lt (show k < 4 by omega)) (by omega)
    rw [lit_4, if_neg (nle_k (by decide) hk), q1, Ib, q2, Ib, n_add1, i_bz0]
    by_cases q : (aft (sY Z) (ct (sC Z)) (co (sC Z)) (cs (sC Z)) i k).isSome = true
    · rw [if_pos q, Ib, bts_s1 q, n_shl (by omega), n_or (by omega) (by omega)]
    · rw [if_neg q, Ib, bts_s0 (by simpa using q), Int32.or_zero]
  refine fix_seq (fun k => (nI (bts (fun d => (aft (sY Z) (ct (sC Z)) (co (sC Z)) (cs (sC Z)) i d).isSome) k), nI k, if k = 0 then h else if k = 1 then b0 else if k = 2 then b1 else if k = 3 then b2 else b3)) 4 rfl (fun k hk self => ?_) (fun self => ?_) (by omega)
  · rcases i4 hk with rfl | rfl | rfl | rfl
    · exact stp 0 (by decide) h a0 b0 x0 z0 self
    · exact stp 1 (by decide) b0 a1 b1 x1 z1 self
    · exact stp 2 (by decide) b1 a2 b2 x2 z2 self
    · exact stp 3 (by decide) b2 a3 b3 x3 z3 self
  · show (if (4 : Int32) ≤ nI 4 then _ else _) = _
    rw [if_pos (by decide)]
    rfl
end WAYS
