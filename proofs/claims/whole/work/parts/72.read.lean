/-! the whole reading, plainly and by the class -/
def zS0 (p : Nat) : RS := (p, 0, 0, 0, 0, 0, fun _ => 0, fun _ => 0)
def zR (tx : Nat → Int32) (m : Nat) : RS × Bool := zron tx (m - zsk tx m 0) (zS0 (zsk tx m 0))
def zg (tx : Nat → Int32) (m : Nat) : Bool := decide (tx (zrp (zR tx m).1) = 114)
def zC (tx : Nat → Int32) (m : Nat) : (Nat × (Nat → Nat)) × Bool := zcho tx m (zR tx m).1 (chn (zrn (zR tx m).1) (zg tx m)) 0 (zrp (zR tx m).1 + 1) (fun _ => 0)
def zfault (tx : Nat → Int32) (m : Nat) : Option Nat := if (zR tx m).2 = false then some (zrp (zR tx m).1) else if m ≤ zrp (zR tx m).1 ∨ (tx (zrp (zR tx m).1) ≠ 119 ∧ tx (zrp (zR tx m).1) ≠ 114) then some (zrp (zR tx m).1) else if (zC tx m).2 = false then some (zC tx m).1.1 else if zsk tx (m - (zC tx m).1.1) (zC tx m).1.1 < m then some (zsk tx (m - (zC tx m).1.1) (zC tx m).1.1) else none
def zYd (tx : Nat → Int32) (m : Nat) : YS := zY (zR tx m).1 (zg tx m) (zC tx m).1.2
theorem zS0_W (p : Nat) : ZW (zS0 p) := ⟨fun _ => ⟨rfl, Nat.zero_le _⟩, fun q => absurd q (Nat.lt_irrefl 0), by show 0 ≤ 4; decide, by show 0 ≤ 2; decide, by show 0 ≤ 4; decide, by show 0 ≤ 0 * 0 + 0; decide, by show 0 < 2 ^ (0 * 0 + 0); decide, fun i hi => absurd hi (Nat.not_lt_zero i), fun i hi => absurd hi (Nat.not_lt_zero i), fun i hi => absurd hi (Nat.not_lt_zero i)⟩
section ZREAD
variable {d r m F : Nat} {tx : Nat → Int32} {h h' : Hp} {S : RS} {Y : YS}
theorem zR_p : zsk tx m 0 ≤ m ∧ zrp (zR tx m).1 ≤ m := by
  have h1 : zsk tx m 0 ≤ m := zsk_p m 0 (by omega)
  exact ⟨h1, zron_p _ _ (by show zsk tx m 0 + (m - zsk tx m 0) = m; omega)⟩
theorem zR_F (h : (zR tx m).2 = true) : ZF (zR tx m).1 ∧ zrc (zR tx m).1 = 0 := zron_ok _ _ (zS0_W _) h
theorem chn_lt {n : Nat} {rg : Bool} {k : Nat} (h : k < chn n rg) : k < n := (chn_2 h).2
theorem ZD.keep {T : Nat → Nat → Prop} (D : ZD d S h) (e : Eo T h h') (hT : ∀ a k, T a k → ¬ (a = d ∧ k < 5 ∨ a = d + 1 ∨ a = d + 2)) : ZD d S h' := by
  obtain ⟨d1, d2, d3, d4, d5, d6, d7⟩ := D
  refine ⟨?_, ?_, ?_, ?_, ?_, fun i hi => ?_, fun i hi => ?_⟩
  · rw [e.1 _ _ (fun q => hT _ _ q (by omega))]; exact d1
  · rw [e.1 _ _ (fun q => hT _ _ q (by omega))]; exact d2
  · rw [e.1 _ _ (fun q => hT _ _ q (by omega))]; exact d3
  · rw [e.1 _ _ (fun q => hT _ _ q (by omega))]; exact d4
  · rw [e.1 _ _ (fun q => hT _ _ q (by omega))]; exact d5
  · rw [e.1 _ _ (fun q => hT _ _ q (by omega))]; exact d6 i hi
  · rw [e.1 _ _ (fun q => hT _ _ q (by omega))]; exact d7 i hi
theorem ZL.keep {T : Nat → Nat → Prop} (L : ZL d Y h) (e : Eo T h h') (hT : ∀ a k, T a k → ¬ (a = d ∧ k = 5 ∨ a = d + 5 ∨ a = d + 6 ∨ a = d + 7)) : ZL d Y h' := by
  obtain ⟨l1, l3, l4, l5⟩ := L
  refine ⟨?_, fun a ha b hb => ?_, fun a ha b hb => ?_, fun a ha b hb => ?_⟩
  · rw [e.1 _ _ (fun q => hT _ _ q (by omega))]; exact l1
  · rw [e.1 _ _ (fun q => hT _ _ q (by omega))]; exact l3 a ha b hb
  · rw [e.1 _ _ (fun q => hT _ _ q (by omega))]; exact l4 a ha b hb
  · rw [e.1 _ _ (fun q => hT _ _ q (by omega))]; exact l5 a ha b hb
theorem read_core (X : RX d r m tx h) (hp : gI h 17 3 = nI 0) (D : ∀ p, ZD d (zS0 p) h) (hF : 40 < F) : ∃ h', ((f_X1_skipBlanks F h).bind fun h9 => (f_X1_readCells F h9).bind fun v10 => (if v10.1 = 0 then some ((gI v10.2 17 3), v10.2) else ((f_X1_readForm F v10.2).bind fun v11 => (if v11.1 = 0 then some ((gI v11.2 17 3), v11.2) else ((f_X1_readChains F v11.2).bind fun v12 => (if v12.1 = 0 then some ((gI v12.2 17 3), v12.2) else ((f_X1_skipBlanks F v12.2).bind fun h13 => (Option.bind (α := Int32) (if (gI h13 17 2) ≤ (gI h13 17 3) then some (-9 : Int32) else some (gI h13 17 3)) fun t14 => some (t14, h13))))))))) = some (oI (zfault tx m), h') ∧ Eo (sRd d) h h' ∧ (zfault tx m = none → YC d (zYd tx m) h' ∧ ∀ i, i < yn (zYd tx m) → gI h' (d + 2) i = nI (zrq (zR tx m).1 i)) := by
  have m40 := X.le
  have hd : d = 41 ∨ d = 49 := X.1
  obtain ⟨zp0, zp1⟩ := zR_p (tx := tx) (m := m)
  obtain ⟨h9, e9, o9, p9⟩ := skip_ev (F := F) X hp (Nat.zero_le m) hF
  rw [Nat.sub_zero] at p9
  have o9' : Eo (sRd d) h h9 := o9.mono fun a k q => Or.inl q
  have X9 := X.keep o9'
  have D9 : ZD d (zS0 (zsk tx m 0)) h9 := (D _).keep o9 (fun a k q => by omega)
  obtain ⟨h10, e10, o10, p10, D10⟩ := cells_ev (F := F) X9 D9 (zS0_W _) p9 rfl zp0 hF
  have eR : zron tx (m - zrp (zS0 (zsk tx m 0))) (zS0 (zsk tx m 0)) = zR tx m := rfl
  rw [eR] at e10 p10 D10
  have o10' := o9'.trans o10
  have X10 := X.keep o10'
  rw [e9, Ib, e10, Ib]
  unfold zfault
  by_cases q1 : (zR tx m).2 = false
  · rw [if_pos q1, q1]
    refine ⟨h10, ?_, o10', fun q => by cases q⟩
    show some ((gI h10 17 3), h10) = _
    rw [p10]; rfl
  · have q1' : (zR tx m).2 = true := by simpa using q1
    obtain ⟨W, hc0⟩ := zR_F q1'
    have D10 := D10 q1'
    rw [if_neg q1, q1']
    show ∃ h', ((f_X1_readForm F h10).bind fun v11 => (if v11.1 = 0 then some ((gI v11.2 17 3), v11.2) else ((f_X1_readChains F v11.2).bind fun v12 => (if v12.1 = 0 then some ((gI v12.2 17 3), v12.2) else ((f_X1_skipBlanks F v12.2).bind fun h13 => (Option.bind (α := Int32) (if (gI h13 17 2) ≤ (gI h13 17 3) then some (-9 : Int32) else some (gI h13 17 3)) fun t14 => some (t14, h13))))))) = _ ∧ _
    by_cases q2 : m ≤ zrp (zR tx m).1 ∨ (tx (zrp (zR tx m).1) ≠ 119 ∧ tx (zrp (zR tx m).1) ≠ 114)
    · rw [if_pos q2, form_no X10 p10 zp1 q2]
      refine ⟨h10, ?_, o10', fun q => by cases q⟩
      show some ((gI h10 17 3), h10) = _
      rw [p10]; rfl
    · have q3 : tx (zrp (zR tx m).1) = 119 ∨ tx (zrp (zR tx m).1) = 114 := by
        by_cases a : tx (zrp (zR tx m).1) = 119
        · exact Or.inl a
        · by_cases b : tx (zrp (zR tx m).1) = 114
          · exact Or.inr b
          · exact absurd (Or.inr ⟨a, b⟩) q2
      have q4 : zrp (zR tx m).1 < m := by
        rcases Nat.lt_or_ge (zrp (zR tx m).1) m with a | a
        · exact a
        · exact absurd (Or.inl a) q2
      rw [if_neg q2]
      obtain ⟨h11, e11, o11, p11, r11, L11⟩ := form_ok (F := F) (g := (zC tx m).1.2) X10 W D10 hc0 p10 q4 q3 hF
      have o11' := o10'.trans (o11.mono fun a k q => by unfold sLy at q; unfold sRd; omega)
      have X11 := X.keep o11'
      have D11 : ZD d (zR tx m).1 h11 := D10.keep o11 (fun a k q => by unfold sLy at q; omega)
      obtain ⟨h12, e12, o12, p12, g12⟩ := chains_ev (F := F) (c := chn (zrn (zR tx m).1) (zg tx m)) (p := zrp (zR tx m).1 + 1) X11 W D11 hc0 L11.1 (fun k hk => chn_lt hk) L11.2.1 p11 q4 hF
      have eC : zcho tx m (zR tx m).1 (chn (zrn (zR tx m).1) (zg tx m)) 0 (zrp (zR tx m).1 + 1) (fun _ => 0) = zC tx m := rfl
      rw [eC] at e12 p12 g12
      have o12' := o11'.trans (o12.mono fun a k q => by unfold sCh at q; unfold sRd; omega)
      have X12 := X.keep o12'
      have zp2 : (zC tx m).1.1 ≤ m := zcho_p _ _ _ _ q4
      rw [e11, Ib]
      show ∃ h', ((f_X1_readChains F h11).bind fun v12 => (if v12.1 = 0 then some ((gI v12.2 17 3), v12.2) else ((f_X1_skipBlanks F v12.2).bind fun h13 => (Option.bind (α := Int32) (if (gI h13 17 2) ≤ (gI h13 17 3) then some (-9 : Int32) else some (gI h13 17 3)) fun t14 => some (t14, h13))))) = _ ∧ _
      rw [e12, Ib]
      by_cases q5 : (zC tx m).2 = false
      · rw [if_pos q5, q5]
        refine ⟨h12, ?_, o12', fun q => by cases q⟩
        show some ((gI h12 17 3), h12) = _
        rw [p12]; rfl
      · have q5' : (zC tx m).2 = true := by simpa using q5
        rw [if_neg q5, q5']
        obtain ⟨h13, e13, o13, p13⟩ := skip_ev (F := F) X12 p12 zp2 hF
        have o13' := o12'.trans (o13.mono fun a k q => Or.inl q)
        have X13 := X.keep o13'
        have zp3 : zsk tx (m - (zC tx m).1.1) (zC tx m).1.1 ≤ m := zsk_p _ _ (by omega)
        show ∃ h', ((f_X1_skipBlanks F h12).bind fun h13 => (Option.bind (α := Int32) (if (gI h13 17 2) ≤ (gI h13 17 3) then some (-9 : Int32) else some (gI h13 17 3)) fun t14 => some (t14, h13))) = _ ∧ _
        rw [e13, Ib, X13.sz, p13, i_le (by omega) (by omega)]
        by_cases q6 : zsk tx (m - (zC tx m).1.1) (zC tx m).1.1 < m
        · rw [if_pos q6, if_neg (by omega)]
          exact ⟨h13, rfl, o13', fun q => by cases q⟩
        · rw [if_neg q6, if_pos (by omega)]
          have D13 : ZD d (zR tx m).1 h13 := (D11.keep o12 (fun a k q => by unfold sCh at q; omega)).keep o13 (fun a k q => by omega)
          have L13 : ZL d (zYd tx m) h13 := ZL.keep (ZL.keep (L11 : ZL d (zYd tx m) h11) o12 (fun a k q => by unfold sCh at q; omega)) o13 (fun a k q => by omega)
          have G13 := g12 q5'
          refine ⟨h13, rfl, o13', fun _ => ⟨⟨D13.1, D13.2.1, ?_, D13.2.2.2.1, D13.2.2.2.2.1, L13.1, D13.2.2.2.2.2.1, fun k hk => ?_, fun k hk => ?_, L13.2.1, L13.2.2.1, L13.2.2.2⟩, D13.2.2.2.2.2.2⟩⟩
          · rw [D13.2.2.1]
            unfold zcl
            rw [hc0]; rfl
          · rw [o13.1 _ _ (by omega)]
            exact (G13 k hk).1
          · rw [o13.1 _ _ (by omega)]
            exact (G13 k hk).2
theorem read_ev (hd0 : IsY d) (hr : r < 4) (hm : gI h 16 r = nI m) (m40 : m ≤ 40) (ht : gI h (12 + r) = tx) (hF : 40 < F) : ∃ h', f_X1_read F 10 (nI r) d h = some (oI (zfault tx m), h') ∧ (∀ a k, ¬ (a = 17 ∨ d ≤ a ∧ a ≤ d + 7) → gI h' a k = gI h a k) ∧ (∀ a k, a ≠ 17 → gR h' a k = gR h a k) ∧ (zfault tx m = none → YC d (zYd tx m) h' ∧ ∀ i, i < yn (zYd tx m) → gI h' (d + 2) i = nI (zrq (zR tx m).1 i)) := by
  have hd : d = 41 ∨ d = 49 := hd0
  generalize hh6 : sR (sI (sI (sI (sR h 17 0 (some 10)) 17 1 (nI r)) 17 2 (nI m)) 17 3 (0 : Int32)) 17 4 (some d) = h6
  have r4 : gR h6 17 4 = some d := by rw [← hh6, gR_sR, if_pos ⟨rfl, rfl⟩]
  have r0 : gR h6 17 0 = some 10 := by
    rw [← hh6, gR_sR, if_neg (by omega)]
    show gR (sR h 17 0 (some 10)) 17 0 = _
    rw [gR_sR, if_pos ⟨rfl, rfl⟩]
  have rr : ∀ a k, a ≠ 17 → gR h6 a k = gR h a k := fun a k q => by
    rw [← hh6, gR_sR, if_neg (by omega)]
    show gR (sR h 17 0 (some 10)) a k = _
    rw [gR_sR, if_neg (by omega)]
  have g6 : ∀ a k, a ≠ 17 → gI h6 a k = gI h a k := fun a k q => by
    rw [← hh6, gI_sR, gI_ne q, gI_ne q, gI_ne q, gI_sR]
  have g63 : gI h6 17 3 = nI 0 := by rw [← hh6, gI_sR, gI_eq]; rfl
  have g62 : gI h6 17 2 = nI m := by rw [← hh6, gI_sR, gI_nk (by decide), gI_eq]
  have g61 : gI h6 17 1 = nI r := by rw [← hh6, gI_sR, gI_nk (by decide), gI_nk (by decide), gI_eq]
  generalize hh8 : sI (sI (sI (sI (sI (sI (sI h6 d 0 (0 : Int32)) d 1 (0 : Int32)) d 2 (0 : Int32)) d 3 (0 : Int32)) d 4 (0 : Int32)) d 5 (0 : Int32)) d 6 (0 : Int32) = h8
  have o8 : Eo (fun a _k => a = d) h6 h8 := by
    rw [← hh8]
    have e0 : Eo (fun a _k => a = d) h6 h6 := Eo.refl
    exact ((((((e0.sI rfl).sI rfl).sI rfl).sI rfl).sI rfl).sI rfl).sI rfl
  have X6 : RX d r m tx h6 := ⟨hd0, hr, m40, r0, r4, g61, g62, by rw [g6 _ _ (by decide)]; exact hm, by rw [← ht]; funext k; exact g6 _ _ (by omega)⟩
  have X8 := X6.keep (o8.mono fun a k q => Or.inr (by omega))
  have z8 : ∀ j, j < 7 → gI h8 d j = 0 := fun j hj => by
    rw [← hh8]
    simp only [gI_at]
    repeat' split
    all_goals first | rfl | omega
  obtain ⟨h', e, o, y⟩ := read_core (F := F) X8 (by rw [o8.1 _ _ (by omega)]; exact g63) (fun p => ⟨z8 0 (by decide), z8 1 (by decide), z8 2 (by decide), z8 3 (by decide), z8 4 (by decide), fun i hi => absurd hi (Nat.not_lt_zero i), fun i hi => absurd hi (Nat.not_lt_zero i)⟩) hF
  refine ⟨h', ?_, fun a k q => ?_, fun a k q => ?_, y⟩
  · unfold f_X1_read
    simp only [nm]
    have es : f_X4_size 10 (nI r) (sI (sR h 17 0 (some 10)) 17 1 (nI r)) = some (nI m) := by
      rw [size_yes shf_txts hr, gI_ne (by decide), gI_sR, hm]
    have ec : f_X6_clear d h6 = some h8 := by
      rw [← hh8]; rfl
    rw [es, Ib, hh6, gO_y hd0 r4, Ib, ec, Ib]
    exact e
  · rw [o.1 a k (by unfold sRd; omega), o8.1 a k (by omega), g6 a k (by omega)]
  · have e1 : gR h' = gR h6 := by
      unfold gR
      rw [o.2, o8.2]
    rw [e1]; exact rr a k q
theorem zY_W (h : zfault tx m = none) : YW (zYd tx m) ∧ 0 < yw (zYd tx m) ∧ (∀ i, i < yn (zYd tx m) → zrq (zR tx m).1 i < ycl (zYd tx m)) ∧ (∀ i, i < yn (zYd tx m) → ∀ j, j < yn (zYd tx m) → i ≠ j → zrq (zR tx m).1 i ≠ zrq (zR tx m).1 j) := by
  unfold zfault at h
  by_cases q1 : (zR tx m).2 = false
  · rw [if_pos q1] at h; cases h
  · rw [if_neg q1] at h
    have q1' : (zR tx m).2 = true := by simpa using q1
    obtain ⟨⟨w1, w2, w3, w4, w5, w6, w7, w8, w9, w10⟩, hc0⟩ := zR_F q1'
    by_cases q2 : m ≤ zrp (zR tx m).1 ∨ (tx (zrp (zR tx m).1) ≠ 119 ∧ tx (zrp (zR tx m).1) ≠ 114)
    · rw [if_pos q2] at h; cases h
    · rw [if_neg q2] at h
      by_cases q5 : (zC tx m).2 = false
      · rw [if_pos q5] at h; cases h
      · have q5' : (zC tx m).2 = true := by simpa using q5
        have G := zcho_g (chn (zrn (zR tx m).1) (zg tx m)) 0 (zrp (zR tx m).1 + 1) (fun _ => 0) (fun i hi => absurd hi (Nat.not_lt_zero i)) q5'
        have c12 : zrw (zR tx m).1 * zrl (zR tx m).1 ≤ 12 := Nat.mul_le_mul w4 w2
        refine ⟨⟨w4, w2, w5, w6, Nat.lt_of_lt_of_le w7 (Nat.pow_le_pow_right (n := 2) (by decide) c12), w10, fun k hk => G k (by rw [Nat.zero_add]; exact hk)⟩, w3, w8, fun i hi j hj hij => ?_⟩
        rcases Nat.lt_or_gt_of_ne hij with u | u
        · have := w9 j hj i u; omega
        · have := w9 i hi j u; omega
end ZREAD
