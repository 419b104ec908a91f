/-! row, text, lay, at, put, tear -/
theorem in_no {x : Int32} {n : Nat} {h : Hp} (hn : n < 2 ^ 31) (hn0 : 0 < n) (hx : ¬ inR x n) : f_X8_in x 0 (nI (n - 1)) h = some 0 := by
  unfold f_X8_in
  rcases inR_no hn hx with q | q
  · rw [if_pos q]; rfl
  · by_cases q2 : x < 0
    · rw [if_pos q2]; rfl
    · obtain ⟨j, hj, rfl⟩ := nI_of q2
      rw [n_le hn hj] at q
      rw [if_neg q2, if_pos (by rw [n_lt (by omega) hj]; omega)]; rfl
theorem in_yes {n r : Nat} {h : Hp} (hn : n < 2 ^ 31) (hr : r < n) : f_X8_in (nI r) 0 (nI (n - 1)) h = some 1 := by
  unfold f_X8_in
  rw [if_neg (nI_pos (by omega)), if_neg (by rw [n_lt (by omega) (by omega)]; omega)]; rfl
/-- the same with a bound below 0 -/
theorem in_m1 {x : Int32} {h : Hp} : f_X8_in x 0 (-1) h = some 0 := by
  unfold f_X8_in
  by_cases q : x < 0
  · rw [if_pos q]; rfl
  · rw [if_neg q, if_pos]
    · rfl
    · obtain ⟨j, hj, rfl⟩ := nI_of q
      rw [Int32.lt_iff_toInt_lt, nI_toInt hj]
      show (-1 : Int32).toInt < _
      have : (-1 : Int32).toInt = -1 := by decide
      omega
/-- is x one of m places? m may be 0 -/
theorem in_len {x : Int32} {m : Nat} {h : Hp} (hm : m ≤ 40) : (inR x m → f_X8_in x 0 (nI m - 1) h = some 1) ∧ (¬ inR x m → f_X8_in x 0 (nI m - 1) h = some 0) := by
  cases m with
  | zero =>
    have e : nI 0 - 1 = -1 := by decide
    rw [e]
    exact ⟨fun ⟨j, hj, _⟩ => absurd hj (Nat.not_lt_zero j), fun _ => in_m1⟩
  | succ m =>
    rw [nI_pred]
    exact ⟨fun ⟨j, hj, e⟩ => by rw [e]; exact in_yes (n := m + 1) (by omega) hj, fun q => in_no (n := m + 1) (by omega) (by omega) q⟩
theorem isRow_no {x : Int32} {h : Hp} (hx : ¬ inR x 6) : f_X8_isRow x h = some 0 := by
  unfold f_X8_isRow
  rw [lit_5, show (5 : Nat) = 6 - 1 from rfl, in_no (by decide) (by decide) hx]; rfl
theorem isRow_yes {r : Nat} {h : Hp} (hr : r < 6) : f_X8_isRow (nI r) h = some 1 := by
  unfold f_X8_isRow
  rw [lit_5, show (5 : Nat) = 6 - 1 from rfl, in_yes (by decide) hr]; rfl
theorem isText_no {x : Int32} {h : Hp} (hx : ¬ inR x 4) : f_X8_isText x h = some 0 := by
  unfold f_X8_isText
  rw [lit_3, show (3 : Nat) = 4 - 1 from rfl, in_no (by decide) (by decide) hx]; rfl
theorem isText_yes {r : Nat} {h : Hp} (hr : r < 4) : f_X8_isText (nI r) h = some 1 := by
  unfold f_X8_isText
  rw [lit_3, show (3 : Nat) = 4 - 1 from rfl, in_yes (by decide) hr]; rfl
def Dj (z b N z2 a2 : Nat) : Prop := z ≠ z2 ∧ z ≠ a2 ∧ z2 ≠ a2 ∧ ∀ r, r < N → b + r ≠ z ∧ b + r ≠ z2 ∧ b + r ≠ a2
theorem dj_rows : Dj 9 3 6 68 69 := ⟨by decide, by decide, by decide, fun r h => by omega⟩
theorem dj_txts : Dj 16 12 4 71 72 := ⟨by decide, by decide, by decide, fun r h => by omega⟩
theorem ISh.made {z b N z2 a2 r n : Nat} {v : Int32} {h : Hp} (I : ISh z b N z2 a2 h) (d : Dj z b N z2 a2) (hr : r < N) (hn : n ≤ 40) : ISh z b N z2 a2 (sA (sI (sA (sI h z r (nI n)) (b + r) (fil (gI h (b + r)) 0 40 v)) z2 r (nI n)) a2 (fil (gI h a2) (40 * r) 40 v)) := by
  obtain ⟨d1, d2, d3, d4⟩ := d
  obtain ⟨e1, e2, e3⟩ := d4 r hr
  intro r' hr'
  obtain ⟨f1, f2, f3⟩ := d4 r' hr'
  obtain ⟨i1, i2, i3⟩ := I r' hr'
  have g1 : gI (sA (sI (sA (sI h z r (nI n)) (b + r) (fil (gI h (b + r)) 0 40 v)) z2 r (nI n)) a2 (fil (gI h a2) (40 * r) 40 v)) z r' = if r' = r then nI n else gI h z r' := by
    rw [gAj_ne d2, gI_ne d1, gAj_ne (fun q => e1 q.symm), gI_at]
  have g2 : gI (sA (sI (sA (sI h z r (nI n)) (b + r) (fil (gI h (b + r)) 0 40 v)) z2 r (nI n)) a2 (fil (gI h a2) (40 * r) 40 v)) z2 r' = if r' = r then nI n else gI h z2 r' := by
    rw [gAj_ne d3, gI_at, gAj_ne (fun q => e2 q.symm), gI_ne (fun q => d1 q.symm)]
  have g3 : ∀ i, i < 40 → gI (sA (sI (sA (sI h z r (nI n)) (b + r) (fil (gI h (b + r)) 0 40 v)) z2 r (nI n)) a2 (fil (gI h a2) (40 * r) 40 v)) (b + r') i = if r' = r then v else gI h (b + r') i := by
    intro i hi
    rw [gAj_ne f3, gI_ne f2]
    by_cases q : r' = r
    · subst q
      rw [gAj_eq, if_pos rfl]
      unfold fil
      rw [if_pos (by omega)]
    · rw [gAj_ne (by omega), gI_ne f1, if_neg q]
  have g4 : ∀ i, i < 40 → gI (sA (sI (sA (sI h z r (nI n)) (b + r) (fil (gI h (b + r)) 0 40 v)) z2 r (nI n)) a2 (fil (gI h a2) (40 * r) 40 v)) a2 (40 * r' + i) = if r' = r then v else gI h a2 (40 * r' + i) := by
    intro i hi
    rw [gAj_eq]
    unfold fil
    by_cases q : r' = r
    · subst q
      rw [if_pos (by omega), if_pos rfl]
    · rw [if_neg q, if_neg]
      rcases Nat.lt_or_gt_of_ne q with q | q <;> omega
  rw [g1, g2]
  by_cases q : r' = r
  · rw [if_pos q, if_pos q]
    exact ⟨rfl, Or.inr ⟨n, hn, rfl⟩, fun i hi => by rw [g3 i hi, g4 i hi, if_pos q, if_pos q]⟩
  · rw [if_neg q, if_neg q]
    exact ⟨i1, i2, fun i hi => by rw [g3 i hi, g4 i hi, if_neg q, if_neg q]; exact i3 i hi⟩
theorem arg40 {n : Int32} (h1 : n ≤ 40) (h2 : 0 ≤ n) : ∃ m : Nat, m ≤ 40 ∧ n = nI m := by
  have h3 : ¬ n < 0 := fun q => by
    have a1 := Int32.lt_iff_toInt_lt.mp q
    have a2 := Int32.le_iff_toInt_le.mp h2
    omega
  obtain ⟨j, hj, rfl⟩ := nI_of h3
  rw [lit_40, n_le hj (by decide)] at h1
  exact ⟨j, h1, rfl⟩
section OPS1
variable {P : Hp → Prop} {h : Hp} {F : Nat}
theorem alk_bad {A B : Hp → Option (Int32 × Hp)} (I : Inv0 P h) (h1 : A h = some (-1, h)) (h2 : B h = some (-1, h)) : Alk P A B h := ⟨-1, h, h, h1, h2, I⟩
theorem alk_as {A B : Hp → Option (Int32 × Hp)} {f : Nat} (I : Inv0 P h) (hf : f < 6) (h1 : A h = f_X7_found (nI f) h) (h2 : ∀ h', (∀ a, 66 ≤ a → gI h' a = gI h a) → B h' = f_X8_meets (nI f) h') : Alk P A B h := by
  obtain ⟨v, x, y, e1, e2, e3⟩ := alk_found I hf
  refine ⟨v, x, y, h1.trans e1, ?_, e3⟩
  rw [h2 x (fun a ha => ?_)]
  · exact e2
  · rw [found_n hf] at e1
    cases e1
    simp (disch := omega) only [gf_ne]
theorem bindself {x : Option (Int32 × Hp)} : (x.bind fun v => some (v.1, v.2)) = x := by cases x <;> rfl
theorem alk_row {r n : Int32} (I : Inv0 P h) (hF : 40 < F) : Alk P (f_X7_row F r n) (f_X8_row F r n) h := by
  by_cases hr : inR r 6
  · obtain ⟨j, hj, rfl⟩ := hr
    by_cases q1 : n ≤ 40
    · by_cases q2 : 0 ≤ n
      · obtain ⟨m, hm, rfl⟩ := arg40 q1 q2
        refine ⟨nI m, sA (sI h 9 j (nI m)) (3 + j) (fil (gI h (3 + j)) 0 40 0), sA (sI (sA (sI h 9 j (nI m)) (3 + j) (fil (gI h (3 + j)) 0 40 0)) 68 j (nI m)) 69 (fil (gI h 69) (40 * j) 40 0), ?_, ?_, ?_⟩
        · simp only [f_X7_row, f_X7_made]
          rw [knows_yes shf_rows hj, Ib, if_neg (by decide), if_pos q1, if_pos q2, make_yes shf_rows hj hm hF]
          rfl
        · simp only [f_X8_row]
          rw [isRow_yes hj, Ib, if_neg (by decide), if_pos q1, if_pos q2, st_68 hj, Ib]
          refine (fill_loop (n := 40) (b := 40 * j) (m := 240) (v := 0) (fun h => some (nI m, h)) (fun x => (40 : Int32) * nI j + x) rfl (by omega) (by decide) (fun k hk => ?_) hF).trans ?_
          · rw [lit_40, pk_mul, nI_add]
          · have e : gI (sI (sA (sI h 9 j (nI m)) (3 + j) (fil (gI h (3 + j)) 0 40 0)) 68 j (nI m)) 69 = gI h 69 := by simp (disch := omega) only [gf_ne, gA_ne]
            rw [e]
        · obtain ⟨I1, I2, ⟨m1, m2, m3⟩, I4⟩ := I
          refine ⟨I1.made dj_rows hj hm, I2.keep ?_ ?_ (fun r hr => ?_) ?_, ⟨?_, ?_, fun f hf => ?_⟩, ?_⟩
          case refine_8 =>
            rw [oth_sA (fun k => irr_row (by omega)), oth_sI (irr_row (by omega)), oth_sA (fun k => irr_row (by omega)), oth_sI (irr_row (by omega))]
            exact I4
          all_goals simp (disch := omega) only [gf_ne, gA_ne, gI_ne, gAj_ne]
          · exact m1
          · exact m2
          · exact m3 f hf
      · refine alk_as I (f := 5) (by decide) ?_ (fun h' _ => ?_)
        · simp only [f_X7_row, f_X7_made]
          rw [knows_yes shf_rows hj, Ib, if_neg (by decide), if_pos q1, if_neg q2, bindself, bindself]; rfl
        · simp only [f_X8_row]
          rw [isRow_yes hj, Ib, if_neg (by decide), if_pos q1, if_neg q2, bindself]; rfl
    · refine alk_bad I ?_ ?_
      · simp only [f_X7_row, f_X7_made]
        rw [knows_yes shf_rows hj, Ib, if_neg (by decide), if_neg q1]; rfl
      · simp only [f_X8_row]
        rw [isRow_yes hj, Ib, if_neg (by decide), if_neg q1]
  · refine alk_bad I ?_ ?_
    · simp only [f_X7_row, f_X7_made]
      rw [knows_no shf_rows hr]; rfl
    · simp only [f_X8_row]
      rw [isRow_no hr]; rfl
theorem alk_text {r n : Int32} (I : Inv0 P h) (hF : 40 < F) : Alk P (f_X7_text F r n) (f_X8_text F r n) h := by
  by_cases hr : inR r 4
  · obtain ⟨j, hj, rfl⟩ := hr
    by_cases q1 : n ≤ 40
    · by_cases q2 : 0 ≤ n
      · obtain ⟨m, hm, rfl⟩ := arg40 q1 q2
        refine ⟨nI m, sA (sI h 16 j (nI m)) (12 + j) (fil (gI h (12 + j)) 0 40 32), sA (sI (sA (sI h 16 j (nI m)) (12 + j) (fil (gI h (12 + j)) 0 40 32)) 71 j (nI m)) 72 (fil (gI h 72) (40 * j) 40 32), ?_, ?_, ?_⟩
        · simp only [f_X7_text, f_X7_made]
          rw [knows_yes shf_txts hj, Ib, if_neg (by decide), if_pos q1, if_pos q2, make_yes shf_txts hj hm hF]
          rfl
        · simp only [f_X8_text]
          rw [isText_yes hj, Ib, if_neg (by decide), if_pos q1, if_pos q2, st_71 hj, Ib]
          refine (fill_loop (n := 40) (b := 40 * j) (m := 160) (v := 32) (fun h => some (nI m, h)) (fun x => (40 : Int32) * nI j + x) rfl (by omega) (by decide) (fun k hk => ?_) hF).trans ?_
          · rw [lit_40, pk_mul, nI_add]
          · have e : gI (sI (sA (sI h 16 j (nI m)) (12 + j) (fil (gI h (12 + j)) 0 40 32)) 71 j (nI m)) 72 = gI h 72 := by simp (disch := omega) only [gf_ne, gA_ne]
            rw [e]
        · obtain ⟨I1, I2, ⟨m1, m2, m3⟩, I4⟩ := I
          refine ⟨I1.keep ?_ ?_ (fun r hr => ?_) ?_, I2.made dj_txts hj hm, ⟨?_, ?_, fun f hf => ?_⟩, ?_⟩
          case refine_8 =>
            rw [oth_sA (fun k => irr_row (by omega)), oth_sI (irr_row (by omega)), oth_sA (fun k => irr_row (by omega)), oth_sI (irr_row (by omega))]
            exact I4
          all_goals simp (disch := omega) only [gf_ne, gA_ne, gI_ne, gAj_ne]
          · exact m1
          · exact m2
          · exact m3 f hf
      · refine alk_as I (f := 5) (by decide) ?_ (fun h' _ => ?_)
        · simp only [f_X7_text, f_X7_made]
          rw [knows_yes shf_txts hj, Ib, if_neg (by decide), if_pos q1, if_neg q2, bindself, bindself]; rfl
        · simp only [f_X8_text]
          rw [isText_yes hj, Ib, if_neg (by decide), if_pos q1, if_neg q2, bindself]; rfl
    · refine alk_bad I ?_ ?_
      · simp only [f_X7_text, f_X7_made]
        rw [knows_yes shf_txts hj, Ib, if_neg (by decide), if_neg q1]; rfl
      · simp only [f_X8_text]
        rw [isText_yes hj, Ib, if_neg (by decide), if_neg q1]
  · refine alk_bad I ?_ ?_
    · simp only [f_X7_text, f_X7_made]
      rw [knows_no shf_txts hr]; rfl
    · simp only [f_X8_text]
      rw [isText_no hr]; rfl
end OPS1
