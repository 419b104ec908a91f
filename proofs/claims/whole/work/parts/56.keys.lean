/-! keys, free -/
def opk (k : Nat → Nat) (s : Nat) : Nat → Nat
  | 0 => 0
  | m + 1 => if s.testBit m = true then opk k s m ||| k m else opk k s m
theorem opk_lt {k : Nat → Nat} {s : Nat} : ∀ {m : Nat}, (∀ i, i < m → k i < 16) → opk k s m < 16
  | 0, _ => by show 0 < 16; decide
  | m + 1, h => by
    have ih := opk_lt (k := k) (s := s) (m := m) (fun i hi => h i (by omega))
    unfold opk
    split
    · exact or_lt (k := 4) ih (h m (by omega))
    · exact ih
def bst (k : Nat → Nat) (m due : Nat) : Nat → Option Nat
  | 0 => none
  | s + 1 => if (match bst k m due s with | none => true | some b => decide (pcn s < pcn b)) = true ∧ opk k s m &&& due = due then some s else bst k m due s
theorem bst_lt {k : Nat → Nat} {m due : Nat} : ∀ {s b : Nat}, bst k m due s = some b → b < s
  | 0, b, h => by cases h
  | s + 1, b, h => by
    have h2 : (if (match bst k m due s with | none => true | some b => decide (pcn s < pcn b)) = true ∧ opk k s m &&& due = due then some s else bst k m due s) = some b := h
    by_cases q : (match bst k m due s with | none => true | some b => decide (pcn s < pcn b)) = true ∧ opk k s m &&& due = due
    · rw [if_pos q] at h2
      cases h2; omega
    · rw [if_neg q] at h2
      have := bst_lt (s := s) h2
      omega
theorem due_ev {a d : Nat} (ha : a < 16) (hd : d < 16) : (nI d &&& (nI a ^^^ (-1 : Int32)) = 0) = (a &&& d = d) := propext ((show ∀ a, a < 16 → ∀ d, d < 16 → ((nI d &&& (nI a ^^^ (-1 : Int32)) = 0) ↔ (a &&& d = d)) by decide +kernel) a ha d hd)
section KEYS
variable {y : Nat} {Z : SS} {h : Hp} {F r m : Nat}
theorem rk_no (hr : r < 6) (i2 : gI h 9 r = -1) : f_X7_refusedKeys F (nI r) h = f_X7_found (nI 1) h := by
  unfold f_X7_refusedKeys
  rw [holds_yes shf_rows hr, i2, if_pos (by decide), Ib, i00, bindself]; rfl
theorem rk_sz (hr : r < 6) (hm : m ≤ 40) (i2 : gI h 9 r = nI m) (h8 : ¬ m ≤ 8) : f_X7_refusedKeys F (nI r) h = f_X7_found (nI 5) h := by
  unfold f_X7_refusedKeys
  rw [holds_yes shf_rows hr, i2, if_neg (nI_pos (by omega)), Ib, i10, size_yes shf_rows hr, i2, Ib, lit_8, i_le (by omega) (by decide), if_neg h8, bindself]; rfl
theorem rk_un (ci : CI y Z h) (W : YW (sY Z)) (hr : r < 6) (hm : m ≤ 8) (i2 : gI h 9 r = nI m) (hno : ¬ ∀ i, i < m → inR (gI h (3 + r) i) (2 ^ yc (sY Z))) (hF : 8 < F) : f_X7_refusedKeys F (nI r) h = f_X7_found (nI 3) h := by
  have hc := yc_le W
  have p4 : 2 ^ yc (sY Z) ≤ 16 := Nat.pow_le_pow_right (n := 2) (by decide) hc
  unfold f_X7_refusedKeys
  rw [holds_yes shf_rows hr, i2, if_neg (nI_pos (by omega)), Ib, i10, size_yes shf_rows hr, i2, Ib, lit_8, i_le (by omega) (by decide), if_pos hm]
  simp only [Ib, jn, bindself]
  refine fix_inv (fun k z => z = nI k ∧ ∀ j, j < k → inR (gI h (3 + r) j) (2 ^ yc (sY Z))) m ⟨rfl, fun j hj => absurd hj (Nat.not_lt_zero j)⟩ (by omega) ?_ ?_
  · rintro k z hk ⟨rfl, hz⟩ self hself
    rw [if_neg (nle_k (by omega) hk), get_in shf_rows hr i2 (by omega) hk, Ib]
    by_cases q : inR (gI h (3 + r) k) (2 ^ yc (sY Z))
    · have q' := q
      obtain ⟨c, hc', e⟩ := q
      rw [e, i_neg (by omega), ci.o, Ib, ci.c, n_shl (by omega), i_lt (by omega) (by omega), if_pos hc', n_add1]
      exact hself _ ⟨rfl, fun j hj => by
        by_cases e : j = k
        · rw [e]; exact q'
        · exact hz j (by omega)⟩
    · by_cases q1 : gI h (3 + r) k < 0
      · rw [if_pos q1]; rfl
      · obtain ⟨c, hc', e⟩ := nI_of q1
        rw [if_neg q1, ci.o, Ib, ci.c, n_shl (by omega), e, i_lt hc' (by omega), if_neg (fun z => q ⟨c, z, e⟩)]; rfl
  · rintro z ⟨rfl, hz⟩ self
    exact absurd hz hno
theorem rk_ok {k : Nat → Nat} (ci : CI y Z h) (W : YW (sY Z)) (hr : r < 6) (hm : m ≤ 8) (i2 : gI h 9 r = nI m) (hk : ∀ i, i < m → gI h (3 + r) i = nI (k i) ∧ k i < 2 ^ yc (sY Z)) (hF : 8 < F) : f_X7_refusedKeys F (nI r) h = some (0, h) := by
  have hc := yc_le W
  have p4 : 2 ^ yc (sY Z) ≤ 16 := Nat.pow_le_pow_right (n := 2) (by decide) hc
  unfold f_X7_refusedKeys
  rw [holds_yes shf_rows hr, i2, if_neg (nI_pos (by omega)), Ib, i10, size_yes shf_rows hr, i2, Ib, lit_8, i_le (by omega) (by decide), if_pos hm]
  simp only [Ib, jn, bindself]
  refine fix_seq (fun k => nI k) m rfl (fun j hj self => ?_) (fun self => ?_) (by omega)
  · obtain ⟨e, hc'⟩ := hk j hj
    rw [if_neg (nle_k (by omega) hj), get_in shf_rows hr i2 (by omega) hj, Ib, e, i_neg (by omega), ci.o, Ib, ci.c, n_shl (by omega), i_lt (by omega) (by omega), if_pos hc', n_add1]
  · rw [if_pos (rf_le (by omega))]
theorem opened_ev {k : Nat → Nat} {s : Nat} (hr : r < 6) (hm : m ≤ 8) (i2 : gI h 9 r = nI m) (hk : ∀ i, i < m → gI h (3 + r) i = nI (k i) ∧ k i < 16) (hs : s < 256) (hF : 8 < F) : f_X7_opened F (nI r) (nI s) h = some (nI (opk k s m)) := by
  unfold f_X7_opened
  simp only [size_yes shf_rows hr, i2, Ib]
  refine fix_seq (fun j => (nI (opk k s j), nI j)) m rfl (fun j hj self => ?_) (fun self => ?_) (by omega)
  · obtain ⟨e, hc'⟩ := hk j hj
    have o16 := opk_lt (k := k) (s := s) (m := j) (fun i hi => (hk i (by omega)).2)
    simp only
    rw [if_neg (nle_k (by omega) hj), i_tb1 (by omega) (by omega), get_in shf_rows hr i2 (by omega) hj, e, Ib, n_or (by omega) (by omega), n_add1]
    show _ = self (nI (if s.testBit j = true then opk k s j ||| k j else opk k s j), _)
    by_cases q : s.testBit j = true
    · rw [if_pos q, if_pos q]; rfl
    · rw [if_neg q, if_neg q]; rfl
  · simp only
    rw [if_pos (rf_le (by omega))]
theorem fewK_ev {k : Nat → Nat} {due : Nat} (hr : r < 6) (hm : m ≤ 8) (i2 : gI h 9 r = nI m) (hk : ∀ i, i < m → gI h (3 + r) i = nI (k i) ∧ k i < 16) (hd : due < 16) (hF : 256 < F) : f_X7_fewestKeys F (nI r) (nI due) h = match bst k m due (2 ^ m) with | none => some (-9, h) | some b => some (nI (pcn b), sI h 0 14 (nI b)) := by
  have p8 : 2 ^ m ≤ 256 := Nat.pow_le_pow_right (n := 2) (by decide) hm
  unfold f_X7_fewestKeys
  simp only [size_yes shf_rows hr, i2, Ib, nm]
  rw [n_shl (show m < 31 by omega)]
  refine fix_seq (fun s => (oI (bst k m due s), nI s)) (2 ^ m) rfl (fun s hs self => ?_) (fun self => ?_) (by omega)
  · have o16 := opk_lt (k := k) (s := s) (m := m) (fun i hi => (hk i hi).2)
    simp only
    rw [if_neg (nle_k (by omega) hs), bitc_ev (by omega), Ib, opened_ev hr hm i2 hk (by omega) (by omega), Ib, n_and (by omega) (by omega), i_eq (Nat.lt_of_le_of_lt Nat.and_le_left (by omega)) (by omega), n_add1]
    have goal : ∀ o : Option Nat, (if (match bst k m due s with | none => true | some b => decide (pcn s < pcn b)) = true ∧ opk k s m &&& due = due then some s else bst k m due s) = o → self (oI o, nI (s + 1)) = self (oI (bst k m due (s + 1)), nI (s + 1)) := fun o ho => by rw [← ho]; rfl
    cases hb : bst k m due s with
    | none =>
      rw [hb] at goal
      show (Option.bind (if (-9 : Int32) = -9 then _ else _) _) = _
      rw [if_pos rfl, Ib, i10]
      by_cases q : opk k s m &&& due = due
      · rw [if_pos q, Ib]
        exact goal (some s) (by rw [if_pos ⟨rfl, q⟩])
      · rw [if_neg q, Ib]
        exact goal none (by rw [if_neg (fun z => q z.2)])
    | some b =>
      rw [hb] at goal
      have hbl := bst_lt hb
      have c1 : pcn s ≤ 8 := cnt_le _ _
      have c2 : pcn b ≤ 8 := cnt_le _ _
      show (Option.bind (if nI b = (-9 : Int32) then _ else (f_J6_bitCount_0f7a4 (nI b) h).bind _) _) = _
      rw [i_m9 (by omega), bitc_ev (by omega), Ib, i_le (by omega) (by omega)]
      by_cases q1 : pcn b ≤ pcn s
      · rw [if_pos q1, Ib, i00, Ib]
        exact goal (some b) (by rw [if_neg (fun z => by have := z.1; simp only [decide_eq_true_eq] at this; omega)])
      · rw [if_neg q1, Ib, i10]
        by_cases q : opk k s m &&& due = due
        · rw [if_pos q, Ib]
          exact goal (some s) (by rw [if_pos ⟨decide_eq_true (by omega), q⟩])
        · rw [if_neg q, Ib]
          exact goal (some b) (by rw [if_neg (fun z => q z.2)])
  · simp only
    rw [if_pos (rf_le (by omega))]
    cases hb : bst k m due (2 ^ m) with
    | none => rfl
    | some b =>
      have hbl := bst_lt hb
      show (if nI b = (-9 : Int32) then _ else _) = _
      rw [i_m9 (by omega), show oI (some b) = nI b from rfl, bitc_ev (by omega)]; rfl
theorem nk_no (hr : r < 6) (i2 : gI h 68 r = -1) : f_X8_needKeys F (nI r) h = f_X8_meets (nI 1) h := by
  unfold f_X8_needKeys
  rw [ld_68 hr, i2, Ib, if_neg m1_neg, bindself]; rfl
theorem nk_sz (hr : r < 6) (hm : m ≤ 40) (i2 : gI h 68 r = nI m) (h8 : ¬ m ≤ 8) : f_X8_needKeys F (nI r) h = f_X8_meets (nI 5) h := by
  unfold f_X8_needKeys
  rw [ld_68 hr, i2, Ib, if_pos (n_ge (by omega)), Ib, lit_8, i_le (by omega) (by decide), if_neg h8, bindself]; rfl
theorem nk_ev (mi : MI Z h) (W : YW (sY Z)) (hr : r < 6) (hm : m ≤ 8) (i2 : gI h 68 r = nI m) (hF : 8 < F) : f_X8_needKeys F (nI r) h = if alN m (fun i => pB (inR (gI h 69 (40 * r + i)) (2 ^ yc (sY Z)))) = true then some (0, h) else f_X8_meets (nI 3) h := by
  have hc := yc_le W
  have p4 : 2 ^ yc (sY Z) ≤ 16 := Nat.pow_le_pow_right (n := 2) (by decide) hc
  have p0 : 0 < 2 ^ yc (sY Z) := Nat.two_pow_pos _
  unfold f_X8_needKeys
  rw [ld_68 hr, i2, Ib, if_pos (n_ge (by omega)), Ib, lit_8, i_le (by omega) (by decide), if_pos hm]
  simp only [Ib, mi.my.2.2.2.1]
  rw [n_shl (by omega), lit_1, pk_sub p0]
  refine (flag_loop (c := fun i => pB (inR (gI h 69 (40 * r + i)) (2 ^ yc (sY Z)))) (fun x => (Option.bind (α := Int32 × Hp) (if x = 0 then ((f_X8_meets (3 : Int32) h).bind fun v9 => some (v9.1, v9.2)) else some ((0 : Int32), h)) fun t7 => some (t7.1, t7.2))) _ (fun s => (f_X8_rowAt (nI r) s h).bind fun v13 => (f_X8_in v13 (0 : Int32) (nI (2 ^ yc (sY Z) - 1)) h).bind fun v14 => (if v14 = 0 then some (0 : Int32) else some (1 : Int32))) rfl (by omega) (fun k hk _ => ?_) (by omega)).trans ?_
  · rw [rowAt_n hr (by omega), Ib]
    by_cases q : inR (gI h 69 (40 * r + k)) (2 ^ yc (sY Z))
    · have q' := q
      obtain ⟨c, hc', e⟩ := q
      rw [pB_y q', e, in_yes (by omega) hc', Ib, i10]; rfl
    · rw [pB_n q, in_no (by omega) p0 q, Ib, i00]; rfl
  · by_cases q : alN m (fun i => pB (inR (gI h 69 (40 * r + i)) (2 ^ yc (sY Z)))) = true
    · rw [if_pos q, q]; rfl
    · rw [if_neg q, show alN m (fun i => pB (inR (gI h 69 (40 * r + i)) (2 ^ yc (sY Z)))) = false by simpa using q]
      show (Option.bind (if bz false = 0 then _ else _) _) = _
      rw [i_bz0, if_neg (by decide), bindself, bindself]; rfl
theorem keysFor_ev {k : Nat → Nat} {due : Nat} (hr : r < 6) (hm : m ≤ 8) (i2 : gI h 68 r = nI m) (hk : ∀ i, i < m → gI h 69 (40 * r + i) = nI (k i) ∧ k i < 16) (hd : due < 16) (hF : 256 < F) : f_X8_keysFor F (nI r) (nI due) h = match bst k m due (2 ^ m) with | none => some (-9, h) | some b => some (nI (pcn b), sI h 66 2 (nI b)) := by
  have p8 : 2 ^ m ≤ 256 := Nat.pow_le_pow_right (n := 2) (by decide) hm
  unfold f_X8_keysFor f_X8_tells
  simp only [ld_68 hr, i2, Ib, nm]
  rw [n_shl (show m < 31 by omega)]
  refine fix_seq (fun s => (oI (bst k m due s), nI s)) (2 ^ m) rfl (fun s hs self => ?_) (fun self => ?_) (by omega)
  · simp only
    rw [if_neg (nle_k (by omega) hs)]
    refine fix_seq (fun j => (nI (opk k s j), nI j)) m rfl (fun j hj self11 => ?_) (fun self11 => ?_) (by omega)
    · obtain ⟨e, hc'⟩ := hk j hj
      have o16 := opk_lt (k := k) (s := s) (m := j) (fun i hi => (hk i (by omega)).2)
      simp only
      rw [if_neg (nle_k (by omega) hj), hasb_ev (by omega) (by omega), Ib, i_bz0, rowAt_n hr (by omega), e, Ib, n_add1]
      show _ = self11 (nI (if s.testBit j = true then opk k s j ||| k j else opk k s j), _)
      by_cases q : s.testBit j = true
      · rw [if_pos q, if_pos q, Ib, n_or (by omega) (by omega)]
      · rw [if_neg q, if_neg q, Ib, Int32.or_zero]
    · have o16 := opk_lt (k := k) (s := s) (m := m) (fun i hi => (hk i hi).2)
      have df := due_ev o16 hd
      simp only [df]
      rw [if_pos (rf_le (by omega)), bits_ev (by omega) (by omega), Ib, n_add1]
      have goal : ∀ o : Option Nat, (if (match bst k m due s with | none => true | some b => decide (pcn s < pcn b)) = true ∧ opk k s m &&& due = due then some s else bst k m due s) = o → self (oI o, nI (s + 1)) = self (oI (bst k m due (s + 1)), nI (s + 1)) := fun o ho => by rw [← ho]; rfl
      cases hb : bst k m due s with
      | none =>
        rw [hb] at goal
        by_cases q : opk k s m &&& due = due
        · rw [if_pos q]
          show (Option.bind (if (-9 : Int32) = -9 then _ else _) _) = _
          rw [if_pos rfl, Ib]
          exact goal (some s) (by rw [if_pos ⟨rfl, q⟩])
        · rw [if_neg q, Ib]
          exact goal none (by rw [if_neg (fun z => q z.2)])
      | some b =>
        rw [hb] at goal
        have hbl := bst_lt hb
        have c1 : pcn s ≤ 8 := cnt_le _ _
        have c2 : pcn b ≤ 8 := cnt_le _ _
        by_cases q : opk k s m &&& due = due
        · rw [if_pos q]
          show (Option.bind (if nI b = (-9 : Int32) then _ else (f_X8_bits F (nI b) h).bind _) _) = _
          rw [i_m9 (by omega), bits_ev (by omega) (by omega), Ib, i_le (by omega) (by omega)]
          by_cases q1 : pcn b ≤ pcn s
          · rw [if_pos q1, Ib]
            exact goal (some b) (by rw [if_neg (fun z => by have := z.1; simp only [decide_eq_true_eq] at this; omega)])
          · rw [if_neg q1, Ib]
            exact goal (some s) (by rw [if_pos ⟨decide_eq_true (by omega), q⟩])
        · rw [if_neg q, Ib]
          exact goal (some b) (by rw [if_neg (fun z => q z.2)])
  · simp only
    rw [if_pos (rf_le (by omega))]
    cases hb : bst k m due (2 ^ m) with
    | none => rfl
    | some b =>
      have hbl := bst_lt hb
      show (Option.bind (if nI b = (-9 : Int32) then _ else _) _) = _
      rw [i_m9 (by omega), show oI (some b) = nI b from rfl, bits_ev (by omega) (by omega)]; rfl
theorem shut_ev (mi : MI Z h) (W : YW (sY Z)) (hF : 4 < F) : f_X8_shutSet F h = some (nI (clo (co (sC Z)) (yc (sY Z)))) := by
  have hc := yc_le W
  unfold f_X8_shutSet clo
  rw [mi.my.2.2.2.1]
  refine fix_seq (fun k => (nI (bts (fun k => !(co (sC Z)).testBit k) k), nI k)) (yc (sY Z)) rfl (fun k hk self => ?_) (fun self => ?_) (by omega)
  · have b4 := bt16 (bts_lt (fun k => !(co (sC Z)).testBit k) k) (by omega)
    have p1 : 2 ^ k < 16 := bt16 (pow_lt (show k < 4 by omega)) (by omega)
    simp only
    rw [if_neg (nle_k (by omega) hk), ld_77 (by omega), Ib, mi.mt.2 k hk, i_bz0, n_add1]
    cases q : (co (sC Z)).testBit k with
    | true =>
      rw [if_pos rfl, Ib, Int32.or_zero, bts_s0 (by rw [q]; rfl)]
    | false =>
      rw [if_neg (by decide), Ib, n_shl (by omega), n_or (by omega) (by omega), bts_s1 (by rw [q]; rfl)]
  · simp only
    rw [if_pos (rf_le (by omega))]
theorem clo_lt {op c : Nat} (hc : c ≤ 4) : clo op c < 16 := bt16 (bts_lt _ _) hc
end KEYS
section KEYS2
variable {B F : Nat} {h : Hp}
/-- both look for the fewest keys that open due -/
theorem alk_kf {y r m due : Nat} {Z : SS} {k : Nat → Nat} {A M : Hp → Option (Int32 × Hp)} (I : Inv0 (PB B) h) (ci : CI y Z h) (w : SWf Z) (mi : MI Z h) (si : SIZ Z B h) (hr : r < 6) (hm : m ≤ 8) (i1 : gI h 9 r = gI h 68 r) (i2 : gI h 9 r = nI m) (i3 : ∀ i, i < 40 → gI h (3 + r) i = gI h 69 (40 * r + i)) (hk : ∀ i, i < m → gI h (3 + r) i = nI (k i) ∧ k i < 16) (hd : due < 16) (hA : A h = f_X7_fewestKeys F (nI r) (nI due) h) (hM : ∀ h', MI Z h' → (∀ a k, 66 ≤ a → gI h' a k = gI h a k) → M h' = f_X8_keysFor F (nI r) (nI due) h') (hF : 256 < F) : Alk2 (PB B) (PB B) A M h := by
  have ec := fewK_ev (F := F) hr hm i2 hk hd hF
  have em : ∀ h', (∀ a k, 66 ≤ a → gI h' a k = gI h a k) → f_X8_keysFor F (nI r) (nI due) h' = match bst k m due (2 ^ m) with | none => some (-9, h') | some b => some (nI (pcn b), sI h' 66 2 (nI b)) := fun h' hh => keysFor_ev (F := F) hr hm (by rw [hh 68 r (by decide), ← i1]; exact i2) (fun i hi => by rw [hh 69 _ (by decide), ← i3 i (by omega)]; exact hk i hi) hd hF
  cases hb : bst k m due (2 ^ m) with
  | none =>
    rw [hb] at ec
    refine alk_coreR I mi ⟨-9, h, hA.trans ec, Sm1.refl, y, Z, w, ci, si, fun h' mi' hh => ⟨h', ?_, Sm2.refl, mi'⟩⟩
    rw [hM h' mi' hh, em h' hh, hb]
  | some b =>
    rw [hb] at ec
    refine alk_toldR I mi ⟨nI (pcn b), nI b, h, hA.trans ec, Sm1.refl, y, Z, w, ci, si, fun h' mi' hh => ⟨h', ?_, Sm2.refl, mi'⟩⟩
    rw [hM h' mi' hh, em h' hh, hb]
theorem keyNat {Y : YS} {v : Nat → Int32} {m : Nat} (W : YW Y) (h : ∀ i, i < m → inR (v i) (2 ^ yc Y)) : ∃ k : Nat → Nat, ∀ i, i < m → v i = nI (k i) ∧ k i < 2 ^ yc Y := by
  have p4 : 2 ^ yc Y ≤ 16 := Nat.pow_le_pow_right (n := 2) (by decide) (yc_le W)
  refine ⟨fun i => (v i).toNatClampNeg, fun i hi => ?_⟩
  obtain ⟨c, hc, e⟩ := h i hi
  have : (v i).toNatClampNeg = c := by rw [e]; exact nI_clamp (by omega)
  simp only [this]
  exact ⟨e, hc⟩
theorem alk_keys {x : Int32} (I : Inv0 (PB B) h) (hF : 256 < F) : Alk2 (PB B) (PB B) (f_X7_keys F x) (f_X8_keys F x) h := by
  obtain ⟨y, Z, w, ci, mi, si⟩ := PB_oth.mp I.2.2.2
  have W := w.1
  have hn := W.2.2.1
  have hc := yc_le W
  have p4 : 2 ^ yc (sY Z) ≤ 16 := Nat.pow_le_pow_right (n := 2) (by decide) hc
  by_cases hx : inR x 6
  · obtain ⟨r, hr, rfl⟩ := hx
    by_cases q0 : yn (sY Z) = 0
    · refine alk_two (fun _ q => q) I (v := -4) ?_ ?_
      · unfold f_X7_keys
        rw [knows_yes shf_rows hr, Ib, i10, ci.o, Ib, ci.n, q0, if_pos (by decide), Ib, if_neg nz4]; rfl
      · unfold f_X8_keys
        rw [isRow_yes hr, Ib, i10, mi.my.2.2.1, q0, if_pos (by decide)]
    · obtain ⟨i1, i2, i3⟩ := I.1 r hr
      have pc : ∀ {X : Option (Int32 × Hp)}, f_X7_refusedKeys F (nI r) h = X → f_X7_keys F (nI r) h = (Option.bind X fun t3 => if t3.1 = 0 then ((f_X7_closedChains t3.2).bind fun v9 => f_X7_fewestKeys F (nI r) v9 t3.2) else some (t3.1, t3.2)) := by
        intro X hX
        unfold f_X7_keys
        rw [knows_yes shf_rows hr, Ib, i10, ci.o, Ib, ci.n, if_neg (n_nz (by omega) (by omega)), bindself, hX]
        simp only [bindself]
      have pm : ∀ h', MI Z h' → ∀ {X : Option (Int32 × Hp)}, f_X8_needKeys F (nI r) h' = X → f_X8_keys F (nI r) h' = (Option.bind X fun v2 => if 0 ≤ v2.1 then ((f_X8_shutSet F v2.2).bind fun v5 => f_X8_keysFor F (nI r) v5 v2.2) else some (v2.1, v2.2)) := by
        intro h' mi' X hX
        unfold f_X8_keys
        rw [isRow_yes hr, Ib, i10, mi'.my.2.2.1, if_neg (n_nz (by omega) (by omega)), hX]
        simp only [bindself]
      have mih : ∀ h', (∀ a, 66 ≤ a → gI h' a = gI h a) → MI Z h' := fun h' hh => mi.keep fun a k q => by rw [hh a (by unfold cM at q; omega)]
      rcases i2 with i2 | ⟨m, hm, i2⟩
      · refine (alk_as I (f := 1) (by decide) ?_ (fun h' hh => ?_)).two
        · rw [pc (rk_no hr i2), found_n (by decide), Ib, if_neg nz3]
        · rw [pm h' (mih h' hh) (nk_no hr (by rw [hh 68 (by decide), ← i1]; exact i2)), meets_n (by decide), Ib, if_neg n3_le]
      · by_cases h8 : m ≤ 8
        · by_cases hok : ∀ i, i < m → inR (gI h (3 + r) i) (2 ^ yc (sY Z))
          · obtain ⟨k, hk⟩ := keyNat W hok
            refine alk_kf (due := clo (co (sC Z)) (yc (sY Z))) I ci w mi si hr h8 i1 i2 i3 (fun i hi => ⟨(hk i hi).1, by have := (hk i hi).2; omega⟩) (clo_lt hc) ?_ (fun h' mi' hh => ?_) hF
            · rw [pc (rk_ok ci W hr h8 i2 hk (by omega)), Ib, if_pos rfl, closed_ev ci w, Ib]
            · rw [pm h' mi' (nk_ev mi' W hr h8 (by rw [hh 68 r (by decide), ← i1]; exact i2) (by omega)), if_pos (by
                rw [alN_t]
                exact fun i hi => pB_y (by rw [hh 69 _ (by decide), ← i3 i (by omega)]; exact hok i hi)), Ib, if_pos (show (0 : Int32) ≤ 0 by decide), shut_ev mi' W (by omega), Ib]
          · refine (alk_as I (f := 3) (by decide) ?_ (fun h' hh => ?_)).two
            · rw [pc (rk_un ci W hr h8 i2 hok (by omega)), found_n (by decide), Ib, if_neg nz3]
            · rw [pm h' (mih h' hh) (nk_ev (mih h' hh) W hr h8 (by rw [hh 68 (by decide), ← i1]; exact i2) (by omega)), if_neg (by
                rw [alN_t]
                exact fun z => hok fun i hi => by have := z i hi; rw [pB_t, hh 69 (by decide), ← i3 i (by omega)] at this; exact this), meets_n (by decide), Ib, if_neg n3_le]
        · refine (alk_as I (f := 5) (by decide) ?_ (fun h' hh => ?_)).two
          · rw [pc (rk_sz hr hm i2 h8), found_n (by decide), Ib, if_neg nz3]
          · rw [pm h' (mih h' hh) (nk_sz hr hm (by rw [hh 68 (by decide), ← i1]; exact i2) h8), meets_n (by decide), Ib, if_neg n3_le]
  · refine alk_two (fun _ q => q) I (v := -1) ?_ ?_
    · unfold f_X7_keys
      rw [knows_no shf_rows hx, Ib, i00]
    · unfold f_X8_keys
      rw [isRow_no hx, Ib, i00]
theorem alk_free {x z : Int32} (I : Inv0 (PB B) h) (hF : 256 < F) : Alk2 (PB B) (PB B) (f_X7_free F x z) (f_X8_free F x z) h := by
  obtain ⟨y, Z, w, ci, mi, si⟩ := PB_oth.mp I.2.2.2
  have W := w.1
  have hn := W.2.2.1
  have hc := yc_le W
  have p4 : 2 ^ yc (sY Z) ≤ 16 := Nat.pow_le_pow_right (n := 2) (by decide) hc
  by_cases hm' : inR x (yn (sY Z))
  · have hm0 := hm'
    obtain ⟨i, hi, rfl⟩ := hm'
    by_cases hx : inR z 6
    · obtain ⟨r, hr, rfl⟩ := hx
      obtain ⟨i1, i2, i3⟩ := I.1 r hr
      have pc : ∀ {X : Option (Int32 × Hp)}, f_X7_refusedKeys F (nI r) h = X → f_X7_free F (nI i) (nI r) h = (Option.bind X fun v3 => if v3.1 = 0 then ((f_X7_closedChains v3.2).bind fun v6 => (gO v3.2 0 11 (0, 6, 14)).bind fun y7 => (f_X6_chainsOf F y7 (nI i) v3.2).bind fun v8 => f_X7_fewestKeys F (nI r) (v6 &&& v8) v3.2) else some (v3.1, v3.2)) := by
        intro X hX
        unfold f_X7_free
        rw [cman_y ci W hm0, Ib, i10, knows_yes shf_rows hr, Ib, i10, hX]
        simp only [bindself]
      have pm : ∀ h', MI Z h' → ∀ {X : Option (Int32 × Hp)}, f_X8_needKeys F (nI r) h' = X → f_X8_free F (nI i) (nI r) h' = (Option.bind X fun v3 => if 0 ≤ v3.1 then (fix (σ := Int32 × Int32) (ρ := (Int32 × Hp)) (fun self5 s4 => (if (gI v3.2 66 11) ≤ s4.2 then ((f_X8_shutSet F v3.2).bind fun v7 => f_X8_keysFor F (nI r) (s4.1 &&& v7) v3.2) else ((Option.bind (α := Int32) ((if s4.2 = nI i then some ((1 : Int32) <<< (s4.2 &&& 31)) else ((f_X8_otherEnd s4.2 v3.2).bind fun v11 => (if v11 = nI i then some ((1 : Int32) <<< (s4.2 &&& 31)) else some (0 : Int32))))) fun t9 => self5 ((s4.1 ||| t9), (s4.2 + 1)))))) F ((0 : Int32), (0 : Int32))) else some (v3.1, v3.2)) := by
        intro h' mi' X hX
        unfold f_X8_free
        rw [mman_y mi' W hm0, Ib, i10, isRow_yes hr, Ib, i10, hX]
        simp only [bindself]
      have mih : ∀ h', (∀ a, 66 ≤ a → gI h' a = gI h a) → MI Z h' := fun h' hh => mi.keep fun a k q => by rw [hh a (by unfold cM at q; omega)]
      rcases i2 with i2 | ⟨m, hm, i2⟩
      · refine (alk_as I (f := 1) (by decide) ?_ (fun h' hh => ?_)).two
        · rw [pc (rk_no hr i2), found_n (by decide), Ib, if_neg nz3]
        · rw [pm h' (mih h' hh) (nk_no hr (by rw [hh 68 (by decide), ← i1]; exact i2)), meets_n (by decide), Ib, if_neg n3_le]
      · by_cases h8 : m ≤ 8
        · by_cases hok : ∀ i, i < m → inR (gI h (3 + r) i) (2 ^ yc (sY Z))
          · obtain ⟨k, hk⟩ := keyNat W hok
            have b2 := bt16 (bts_lt (own (yn (sY Z)) i) (yc (sY Z))) hc
            have b1 := clo_lt (op := co (sC Z)) hc
            refine alk_kf (due := clo (co (sC Z)) (yc (sY Z)) &&& bts (own (yn (sY Z)) i) (yc (sY Z))) I ci w mi si hr h8 i1 i2 i3 (fun i hi => ⟨(hk i hi).1, by have := (hk i hi).2; omega⟩) (Nat.lt_of_le_of_lt Nat.and_le_left b1) ?_ (fun h' mi' hh => ?_) hF
            · rw [pc (rk_ok ci W hr h8 i2 hk (by omega)), Ib, if_pos rfl, closed_ev ci w, Ib, ci.o, Ib, chainsOf_ev ci w hi (by omega), Ib, n_and (by omega) (by omega)]
            · rw [pm h' mi' (nk_ev mi' W hr h8 (by rw [hh 68 r (by decide), ← i1]; exact i2) (by omega)), if_pos (by
                rw [alN_t]
                exact fun i hi => pB_y (by rw [hh 69 _ (by decide), ← i3 i (by omega)]; exact hok i hi)), Ib, if_pos (show (0 : Int32) ≤ 0 by decide)]
              refine fix_seq (fun k => (nI (bts (own (yn (sY Z)) i) k), nI k)) (yc (sY Z)) rfl (fun k hk self => ?_) (fun self => ?_) (by omega)
              · have hk2 := chn_2 hk
                have hs2 : sec (yn (sY Z)) k < yn (sY Z) := sec_lt (by omega)
                have b4 := bt16 (bts_lt (own (yn (sY Z)) i) k) (by omega)
                have p1 : 2 ^ k < 16 := bt16 (pow_lt (show k < 4 by omega)) (by omega)
                simp only [mi'.my.2.2.2.1]
                rw [if_neg (nle_k (by omega) hk), i_eq (by omega) (by omega), other_ev mi'.my W hk2.2, Ib, i_eq (by omega) (by omega), n_shl (by omega), n_add1]
                by_cases q1 : k = i
                · rw [if_pos q1, Ib, n_or (by omega) (by omega), bts_s1 (by unfold own; rw [decide_eq_true q1]; rfl)]
                · rw [if_neg q1]
                  by_cases q2 : sec (yn (sY Z)) k = i
                  · rw [if_pos q2, Ib, n_or (by omega) (by omega), bts_s1 (by unfold own; rw [decide_eq_true q2, Bool.or_true])]
                  · rw [if_neg q2, Ib, Int32.or_zero, bts_s0 (by unfold own; rw [decide_eq_false q1, decide_eq_false q2]; rfl)]
              · simp only [mi'.my.2.2.2.1]
                rw [if_pos (rf_le (by omega)), shut_ev mi' W (by omega), Ib, n_and (by omega) (by omega), Nat.and_comm]
          · refine (alk_as I (f := 3) (by decide) ?_ (fun h' hh => ?_)).two
            · rw [pc (rk_un ci W hr h8 i2 hok (by omega)), found_n (by decide), Ib, if_neg nz3]
            · rw [pm h' (mih h' hh) (nk_ev (mih h' hh) W hr h8 (by rw [hh 68 (by decide), ← i1]; exact i2) (by omega)), if_neg (by
                rw [alN_t]
                exact fun z => hok fun i hi => by have := z i hi; rw [pB_t, hh 69 (by decide), ← i3 i (by omega)] at this; exact this), meets_n (by decide), Ib, if_neg n3_le]
        · refine (alk_as I (f := 5) (by decide) ?_ (fun h' hh => ?_)).two
          · rw [pc (rk_sz hr hm i2 h8), found_n (by decide), Ib, if_neg nz3]
          · rw [pm h' (mih h' hh) (nk_sz hr hm (by rw [hh 68 (by decide), ← i1]; exact i2) h8), meets_n (by decide), Ib, if_neg n3_le]
    · refine alk_two (fun _ q => q) I (v := -1) ?_ ?_
      · unfold f_X7_free
        rw [cman_y ci W hm0, Ib, i10, knows_no shf_rows hx, Ib, i00]
      · unfold f_X8_free
        rw [mman_y mi W hm0, Ib, i10, isRow_no hx, Ib, i00]
  · refine alk_two (fun _ q => q) I (v := -1) ?_ ?_
    · unfold f_X7_free
      rw [cman_n ci W hm', Ib, i00]
    · unfold f_X8_free
      rw [mman_n mi W hm', Ib, i00]
end KEYS2
