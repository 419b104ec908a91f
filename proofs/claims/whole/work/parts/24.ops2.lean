/-! lay, at, put, tear, mean -/
theorem nz3 : ¬ (-3 : Int32) = 0 := by decide
theorem nz1 : ¬ (-1 : Int32) = 0 := by decide
section REFUSE
variable {s z b N : Nat} {h : Hp} {r : Nat}
theorem rm_no {x : Int32} (S : Shf s z b N) (hx : ¬ inR x N) : f_X7_refusedMissing s x h = some (-1, h) := by
  simp only [f_X7_refusedMissing]
  rw [knows_no S hx]; rfl
theorem rm_neg (S : Shf s z b N) (hr : r < N) (hm : gI h z r = -1) : f_X7_refusedMissing s (nI r) h = f_X7_found (nI 1) h := by
  simp only [f_X7_refusedMissing]
  rw [knows_yes S hr, Ib, if_neg (by decide), holds_yes S hr, Ib, hm, if_pos (by decide), bindself, bindself]; rfl
theorem rm_ok {m : Nat} (S : Shf s z b N) (hr : r < N) (hm : gI h z r = nI m) (hm2 : m ≤ 40) : f_X7_refusedMissing s (nI r) h = some (0, h) := by
  simp only [f_X7_refusedMissing]
  rw [knows_yes S hr, Ib, if_neg (by decide), holds_yes S hr, Ib, hm, if_neg (nI_pos (by omega)), if_neg (by decide)]; rfl
theorem found_1 {f : Nat} (hf : f < 6) : ∃ h', f_X7_found (nI f) h = some (-3, h') := ⟨_, found_n hf⟩
theorem rp_no {x i : Int32} (S : Shf s z b N) (hx : ¬ inR x N) : f_X7_refusedPlace s x i h = some (-1, h) := by
  simp only [f_X7_refusedPlace]
  rw [rm_no S hx, Ib, if_neg nz1]
theorem rp_neg {i : Int32} (S : Shf s z b N) (hr : r < N) (hm : gI h z r = -1) : f_X7_refusedPlace s (nI r) i h = f_X7_found (nI 1) h := by
  simp only [f_X7_refusedPlace]
  rw [rm_neg S hr hm, found_n (by decide), Ib, if_neg nz3]
theorem rp_out {m : Nat} {i : Int32} (S : Shf s z b N) (hr : r < N) (hm : gI h z r = nI m) (hm2 : m ≤ 40) (hi : ¬ inR i m) : f_X7_refusedPlace s (nI r) i h = f_X7_found (nI 2) h := by
  simp only [f_X7_refusedPlace]
  rw [rm_ok S hr hm hm2, Ib, if_pos rfl, (has1 S hr hm hm2).2 hi, Ib, if_pos rfl, bindself, bindself]; rfl
theorem rp_ok {m : Nat} {i : Int32} (S : Shf s z b N) (hr : r < N) (hm : gI h z r = nI m) (hm2 : m ≤ 40) (hi : inR i m) : f_X7_refusedPlace s (nI r) i h = some (0, h) := by
  simp only [f_X7_refusedPlace]
  rw [rm_ok S hr hm hm2, Ib, if_pos rfl, (has1 S hr hm hm2).1 hi, Ib, if_neg (by decide)]; rfl
end REFUSE
theorem m1_neg : ¬ (0 : Int32) ≤ -1 := by decide
theorem n_ge {a : Nat} (ha : a < 2 ^ 31) : 0 ≤ nI a := nI_pos' ha
theorem ISh.put {z b N z2 a2 r i : Nat} {v : Int32} {h : Hp} (I : ISh z b N z2 a2 h) (d : Dj z b N z2 a2) (hr : r < N) (hi : i < 40) : ISh z b N z2 a2 (sI (sI h (b + r) i v) a2 (40 * r + i) v) := by
  obtain ⟨d1, d2, d3, d4⟩ := d
  obtain ⟨e1, e2, e3⟩ := d4 r hr
  intro r' hr'
  obtain ⟨f1, f2, f3⟩ := d4 r' hr'
  obtain ⟨i1, i2, i3⟩ := I r' hr'
  rw [gI_ne d2, gI_ne (fun q => e1 q.symm), gI_ne d3, gI_ne (fun q => e2 q.symm)]
  refine ⟨i1, i2, fun j hj => ?_⟩
  rw [gI_ne f3, gI_at, gI_ne (fun q => e3 q.symm)]
  by_cases q : r' = r
  · subst q
    by_cases q2 : j = i
    · subst q2
      rw [gI_eq, if_pos rfl]
    · rw [gI_nk q2, if_neg (by omega)]
      exact i3 j hj
  · rw [gI_ne (by omega), if_neg]
    · exact i3 j hj
    · rcases Nat.lt_or_gt_of_ne q with q | q <;> omega
theorem ISh.drop {z b N z2 a2 r : Nat} {h : Hp} (I : ISh z b N z2 a2 h) (d : Dj z b N z2 a2) (hr : r < N) : ISh z b N z2 a2 (sI (sI h z r (-1)) z2 r (-1)) := by
  obtain ⟨d1, d2, d3, d4⟩ := d
  intro r' hr'
  obtain ⟨f1, f2, f3⟩ := d4 r' hr'
  obtain ⟨i1, i2, i3⟩ := I r' hr'
  rw [gI_ne d1, gI_at, gI_at, gI_ne (fun q => d1 q.symm)]
  refine ⟨?_, ?_, fun j hj => ?_⟩
  · by_cases q : r' = r
    · rw [if_pos q, if_pos q]
    · rw [if_neg q, if_neg q]; exact i1
  · by_cases q : r' = r
    · rw [if_pos q]; exact Or.inl rfl
    · rw [if_neg q]; exact i2
  · rw [gI_ne f2, gI_ne f1, gI_ne (fun q => d3 q.symm), gI_ne (fun q => d2 q.symm)]
    exact i3 j hj
theorem rowAt_n {r i : Nat} {h : Hp} (hr : r < 6) (hi : i < 40) : f_X8_rowAt (nI r) (nI i) h = some (gI h 69 (40 * r + i)) := by
  simp only [f_X8_rowAt]
  rw [lit_40, pk_mul, nI_add, ld_69 (by omega)]; rfl
section OPS2
variable {P : Hp → Prop} {h : Hp} {F : Nat}
theorem alk_lay {r i v : Int32} (I : Inv0 P h) : Alk P (f_X7_lay r i v) (f_X8_lay r i v) h := by
  by_cases hr : inR r 6
  · obtain ⟨j, hj, rfl⟩ := hr
    obtain ⟨i1, i2, i3⟩ := I.1 j hj
    rcases i2 with i2 | ⟨m, hm, i2⟩
    · refine alk_as I (f := 1) (by decide) ?_ (fun h' hh => ?_)
      · simp only [f_X7_lay]
        rw [rp_neg shf_rows hj i2, found_n (by decide), Ib, if_neg nz3]
      · simp only [f_X8_lay]
        rw [isRow_yes hj, Ib, if_neg (by decide), ld_68 hj, Ib, hh 68 (by decide), ← i1, i2, if_neg m1_neg, bindself]; rfl
    · by_cases hi : inR i m
      · have hi0 := hi
        obtain ⟨k, hk, rfl⟩ := hi
        refine ⟨1, sI (sI h 0 14 (gI h (3 + j) k)) (3 + j) k v, sI (sI (sI (sI h 0 14 (gI h (3 + j) k)) (3 + j) k v) 69 (40 * j + k) v) 66 2 (gI h (3 + j) k), ?_, ?_, ?_⟩
        · simp only [f_X7_lay, nm]
          rw [rp_ok shf_rows hj i2 hm hi0, Ib, if_pos rfl, get_in shf_rows hj i2 hm hk, Ib, set_in shf_rows hj (by rw [gI_ne (by decide)]; exact i2) hm hk]; rfl
        · simp only [f_X8_lay, f_X8_tells, nm]
          rw [isRow_yes hj, Ib, if_neg (by decide), ld_68 hj, Ib, Ib]
          have e1 : gI (sI (sI h 0 14 (gI h (3 + j) k)) (3 + j) k v) 68 j = nI m := by
            simp (disch := omega) only [gI_ne]
            rw [← i1, i2]
          rw [e1, if_pos (n_ge (by omega)), (in_len hm).1 hi0, Ib, if_neg (by decide), rowAt_n hj (by omega), Ib, lit_40, pk_mul, nI_add, st_69 (by omega), Ib, Ib]
          have e2 : gI (sI (sI h 0 14 (gI h (3 + j) k)) (3 + j) k v) 69 (40 * j + k) = gI h (3 + j) k := by
            simp (disch := omega) only [gI_ne]
            exact (i3 k (by omega)).symm
          rw [e2]
        · obtain ⟨I1, I2, ⟨m1, m2, m3⟩, I4⟩ := I
          have I1' : ISh 9 3 6 68 69 (sI h 0 14 (gI h (3 + j) k)) := I1.keep (by simp (disch := omega) only [gf_ne]) (by simp (disch := omega) only [gf_ne]) (fun r hr => by simp (disch := omega) only [gf_ne]) (by simp (disch := omega) only [gf_ne])
          refine ⟨(I1'.put (v := v) dj_rows hj (show k < 40 by omega)).keep ?_ ?_ (fun r hr => ?_) ?_, I2.keep ?_ ?_ (fun r hr => ?_) ?_, ⟨?_, ?_, fun f hf => ?_⟩, ?_⟩
          case refine_12 =>
            rw [oth_sI rfl, oth_sI (irr_row (by omega)), oth_sI (irr_row (by omega)), oth_sI rfl]
            exact I4
          all_goals simp (disch := omega) only [gf_ne, gI_ne, gI_eq, gI_nk]
          · exact m2
          · exact m3 f hf
      · refine alk_as I (f := 2) (by decide) ?_ (fun h' hh => ?_)
        · simp only [f_X7_lay]
          rw [rp_out shf_rows hj i2 hm hi, found_n (by decide), Ib, if_neg nz3]
        · simp only [f_X8_lay]
          rw [isRow_yes hj, Ib, if_neg (by decide), ld_68 hj, Ib, Ib, hh 68 (by decide), ← i1, i2, if_pos (n_ge (by omega)), (in_len hm).2 hi, Ib, if_pos rfl, bindself]; rfl
  · refine alk_bad I ?_ ?_
    · simp only [f_X7_lay]
      rw [rp_no shf_rows hr, Ib, if_neg nz1]
    · simp only [f_X8_lay]
      rw [isRow_no hr]; rfl
theorem alk_at {r i : Int32} (I : Inv0 P h) : Alk P (f_X7_at r i) (f_X8_at r i) h := by
  by_cases hr : inR r 6
  · obtain ⟨j, hj, rfl⟩ := hr
    obtain ⟨i1, i2, i3⟩ := I.1 j hj
    rcases i2 with i2 | ⟨m, hm, i2⟩
    · refine alk_as I (f := 1) (by decide) ?_ (fun h' hh => ?_)
      · simp only [f_X7_at]
        rw [rp_neg shf_rows hj i2, found_n (by decide), Ib, if_neg nz3]
      · simp only [f_X8_at]
        rw [isRow_yes hj, Ib, if_neg (by decide), ld_68 hj, Ib, hh 68 (by decide), ← i1, i2, if_neg m1_neg, bindself]; rfl
    · by_cases hi : inR i m
      · have hi0 := hi
        obtain ⟨k, hk, rfl⟩ := hi
        refine ⟨1, sI h 0 14 (gI h (3 + j) k), sI (sI h 0 14 (gI h (3 + j) k)) 66 2 (gI h (3 + j) k), ?_, ?_, ?_⟩
        · simp only [f_X7_at, nm]
          rw [rp_ok shf_rows hj i2 hm hi0, Ib, if_pos rfl, get_in shf_rows hj i2 hm hk, Ib]
        · simp only [f_X8_at, f_X8_tells, nm]
          rw [isRow_yes hj, Ib, if_neg (by decide), ld_68 hj, Ib, Ib]
          have e1 : gI (sI h 0 14 (gI h (3 + j) k)) 68 j = nI m := by
            simp (disch := omega) only [gI_ne]
            rw [← i1, i2]
          rw [e1, if_pos (n_ge (by omega)), (in_len hm).1 hi0, Ib, if_neg (by decide), rowAt_n hj (by omega), Ib, Ib, Ib]
          have e2 : gI (sI h 0 14 (gI h (3 + j) k)) 69 (40 * j + k) = gI h (3 + j) k := by
            simp (disch := omega) only [gI_ne]
            exact (i3 k (by omega)).symm
          rw [e2]
        · obtain ⟨I1, I2, ⟨m1, m2, m3⟩, I4⟩ := I
          refine ⟨I1.keep ?_ ?_ (fun r hr => ?_) ?_, I2.keep ?_ ?_ (fun r hr => ?_) ?_, ⟨?_, ?_, fun f hf => ?_⟩, ?_⟩
          case refine_12 =>
            rw [oth_sI rfl, oth_sI rfl]
            exact I4
          all_goals simp (disch := omega) only [gf_ne, gI_ne, gI_eq, gI_nk]
          · exact m2
          · exact m3 f hf
      · refine alk_as I (f := 2) (by decide) ?_ (fun h' hh => ?_)
        · simp only [f_X7_at]
          rw [rp_out shf_rows hj i2 hm hi, found_n (by decide), Ib, if_neg nz3]
        · simp only [f_X8_at]
          rw [isRow_yes hj, Ib, if_neg (by decide), ld_68 hj, Ib, Ib, hh 68 (by decide), ← i1, i2, if_pos (n_ge (by omega)), (in_len hm).2 hi, Ib, if_pos rfl, bindself, bindself]; rfl
  · refine alk_bad I ?_ ?_
    · simp only [f_X7_at]
      rw [rp_no shf_rows hr, Ib, if_neg nz1]
    · simp only [f_X8_at]
      rw [isRow_no hr]; rfl
theorem byte_tw (v : Int32) : vp_nar .byte v.toInt8.toInt32 = v.toInt8.toInt32 := pk_vb v
theorem alk_put {r i v : Int32} (I : Inv0 P h) : Alk P (f_X7_put r i v) (f_X8_put r i v) h := by
  by_cases hr : inR r 4
  · obtain ⟨j, hj, rfl⟩ := hr
    obtain ⟨i1, i2, i3⟩ := I.2.1 j hj
    rcases i2 with i2 | ⟨m, hm, i2⟩
    · refine alk_as I (f := 1) (by decide) ?_ (fun h' hh => ?_)
      · simp only [f_X7_put]
        rw [rp_neg shf_txts hj i2, found_n (by decide), Ib, if_neg nz3]
      · simp only [f_X8_put]
        rw [isText_yes hj, Ib, if_neg (by decide), ld_71 hj, Ib, hh 71 (by decide), ← i1, i2, if_neg m1_neg, bindself]; rfl
    · by_cases hi : inR i m
      · have hi0 := hi
        obtain ⟨k, hk, rfl⟩ := hi
        refine ⟨gI h (12 + j) k + 1000, sI h (12 + j) k v.toInt8.toInt32, sI (sI h (12 + j) k v.toInt8.toInt32) 72 (40 * j + k) v.toInt8.toInt32, ?_, ?_, ?_⟩
        · simp only [f_X7_put]
          rw [rp_ok shf_txts hj i2 hm hi0, Ib, if_pos rfl, get_in shf_txts hj i2 hm hk, Ib, set_in shf_txts hj i2 hm hk]; rfl
        · simp only [f_X8_put]
          rw [isText_yes hj, Ib, if_neg (by decide), ld_71 hj, Ib, Ib]
          have e1 : gI (sI h (12 + j) k v.toInt8.toInt32) 71 j = nI m := by
            simp (disch := omega) only [gI_ne]
            rw [← i1, i2]
          rw [e1, if_pos (n_ge (by omega)), (in_len hm).1 hi0, Ib, if_neg (by decide), lit_40, pk_mul, nI_add, ld_72 (by omega), Ib, st_72 (by omega), Ib, byte_tw]
          have e2 : gI (sI h (12 + j) k v.toInt8.toInt32) 72 (40 * j + k) = gI h (12 + j) k := by
            simp (disch := omega) only [gI_ne]
            exact (i3 k (by omega)).symm
          rw [e2, Int32.add_comm]
        · obtain ⟨I1, I2, ⟨m1, m2, m3⟩, I4⟩ := I
          refine ⟨I1.keep ?_ ?_ (fun r hr => ?_) ?_, I2.put dj_txts hj (by omega), ⟨?_, ?_, fun f hf => ?_⟩, ?_⟩
          case refine_8 =>
            rw [oth_sI (irr_row (by omega)), oth_sI (irr_row (by omega))]
            exact I4
          all_goals simp (disch := omega) only [gf_ne, gI_ne, gI_eq, gI_nk]
          · exact m1
          · exact m2
          · exact m3 f hf
      · refine alk_as I (f := 2) (by decide) ?_ (fun h' hh => ?_)
        · simp only [f_X7_put]
          rw [rp_out shf_txts hj i2 hm hi, found_n (by decide), Ib, if_neg nz3]
        · simp only [f_X8_put]
          rw [isText_yes hj, Ib, if_neg (by decide), ld_71 hj, Ib, Ib, hh 71 (by decide), ← i1, i2, if_pos (n_ge (by omega)), (in_len hm).2 hi, Ib, if_pos rfl, bindself]; rfl
  · refine alk_bad I ?_ ?_
    · simp only [f_X7_put]
      rw [rp_no shf_txts hr, Ib, if_neg nz1]
    · simp only [f_X8_put]
      rw [isText_no hr]; rfl
theorem alk_tear {r : Int32} (I : Inv0 P h) : Alk P (f_X7_tear r) (f_X8_tear r) h := by
  by_cases hr : inR r 6
  · obtain ⟨j, hj, rfl⟩ := hr
    obtain ⟨i1, i2, i3⟩ := I.1 j hj
    rcases i2 with i2 | ⟨m, hm, i2⟩
    · refine alk_as I (f := 1) (by decide) ?_ (fun h' hh => ?_)
      · simp only [f_X7_tear]
        rw [rm_neg shf_rows hj i2, found_n (by decide), Ib, if_neg nz3]
      · simp only [f_X8_tear]
        rw [isRow_yes hj, Ib, if_neg (by decide), ld_68 hj, Ib, hh 68 (by decide), ← i1, i2, if_neg m1_neg, bindself]; rfl
    · refine ⟨1, sI h 9 j (-1), sI (sI h 9 j (-1)) 68 j (-1), ?_, ?_, ?_⟩
      · simp only [f_X7_tear]
        rw [rm_ok shf_rows hj i2 hm, Ib, if_pos rfl, drop_yes shf_rows hj]; rfl
      · simp only [f_X8_tear]
        rw [isRow_yes hj, Ib, if_neg (by decide), ld_68 hj, Ib, gI_ne (by decide), ← i1, i2, if_pos (n_ge (by omega)), st_68 hj]; rfl
      · obtain ⟨I1, I2, ⟨m1, m2, m3⟩, I4⟩ := I
        refine ⟨I1.drop dj_rows hj, I2.keep ?_ ?_ (fun r hr => ?_) ?_, ⟨?_, ?_, fun f hf => ?_⟩, ?_⟩
        case refine_8 =>
          rw [oth_sI (irr_row (by omega)), oth_sI (irr_row (by omega))]
          exact I4
        all_goals simp (disch := omega) only [gf_ne, gI_ne, gI_eq, gI_nk]
        · exact m1
        · exact m2
        · exact m3 f hf
  · refine alk_bad I ?_ ?_
    · simp only [f_X7_tear]
      rw [rm_no shf_rows hr, Ib, if_neg nz1]
    · simp only [f_X8_tear]
      rw [isRow_no hr]; rfl
theorem inv_told {v : Int32} (I : Inv0 P h) : Inv0 P (sI (sI h 0 14 v) 66 2 v) := by
  obtain ⟨I1, I2, ⟨m1, m2, m3⟩, I4⟩ := I
  refine ⟨I1.keep ?_ ?_ (fun r hr => ?_) ?_, I2.keep ?_ ?_ (fun r hr => ?_) ?_, ⟨?_, ?_, fun f hf => ?_⟩, ?_⟩
  case refine_12 =>
    rw [oth_sI rfl, oth_sI rfl]
    exact I4
  all_goals simp (disch := omega) only [gf_ne, gI_ne, gI_eq, gI_nk]
  · exact m2
  · exact m3 f hf
/-- the sum of the first n, as longs -/
def smL (f : Nat → Int32) : Nat → Int64
  | 0 => 0
  | n + 1 => smL f n + (f n).toInt64
theorem smL_cong {f g : Nat → Int32} : ∀ {n : Nat}, (∀ k, k < n → f k = g k) → smL f n = smL g n
  | 0, _ => rfl
  | n + 1, h => by
    show smL f n + _ = smL g n + _
    rw [smL_cong (fun k hk => h k (by omega)), h n (by omega)]
theorem alk_mean {r : Int32} (I : Inv0 P h) (hF : 40 < F) : Alk P (f_X7_mean F r) (f_X8_mean F r) h := by
  by_cases hr : inR r 6
  · obtain ⟨j, hj, rfl⟩ := hr
    obtain ⟨i1, i2, i3⟩ := I.1 j hj
    rcases i2 with i2 | ⟨m, hm, i2⟩
    · refine alk_as I (f := 1) (by decide) ?_ (fun h' hh => ?_)
      · simp only [f_X7_mean]
        rw [rm_neg shf_rows hj i2, found_n (by decide), Ib, if_neg nz3]
      · simp only [f_X8_mean]
        rw [isRow_yes hj, Ib, if_neg (by decide), ld_68 hj, Ib, hh 68 (by decide), ← i1, i2, if_neg m1_neg, bindself]; rfl
    · by_cases h0 : m = 0
      · subst h0
        refine alk_as I (f := 4) (by decide) ?_ (fun h' hh => ?_)
        · simp only [f_X7_mean]
          rw [rm_ok shf_rows hj i2 hm, Ib, if_pos rfl, size_yes shf_rows hj, Ib, i2, if_neg (by decide), bindself]; rfl
        · simp only [f_X8_mean]
          rw [isRow_yes hj, Ib, if_neg (by decide), ld_68 hj, Ib, Ib, hh 68 (by decide), ← i1, i2, if_pos (by decide), if_pos nI_0, bindself]; rfl
      · have hz : ¬ (nI m).toInt64 = 0 := by
          rw [nI_l (by omega)]
          intro q
          have := (lN_eq (a := m) (b := 0) (by omega) (by decide)).mp q
          omega
        refine ⟨1, sI h 0 14 (smL (gI h (3 + j)) m / (nI m).toInt64).toInt32, sI (sI h 0 14 (smL (gI h (3 + j)) m / (nI m).toInt64).toInt32) 66 2 (smL (gI h (3 + j)) m / (nI m).toInt64).toInt32, ?_, ?_, inv_told I⟩
        · simp only [f_X7_mean]
          rw [rm_ok shf_rows hj i2 hm, Ib, if_pos rfl, size_yes shf_rows hj, Ib, i2, if_pos (by rw [lit_0, n_lt (by omega) (by omega)]; omega)]
          refine fix_seq (fun k => (smL (gI h (3 + j)) k, nI k)) m rfl (fun k hk self => ?_) (fun self => ?_) (by omega)
          · have e1 : ¬ nI m ≤ nI k := by rw [n_le (by omega) (by omega)]; omega
            simp only [if_neg e1]
            rw [get_in shf_rows hj i2 hm hk, Ib, nI_1]
            rfl
          · have e1 : nI m ≤ nI m := by rw [n_le (by omega) (by omega)]; exact Nat.le_refl _
            simp only [if_pos e1, nm]
            rw [dvL, if_neg hz]
            rfl
        · simp only [f_X8_mean]
          have e68 : gI (sI h 0 14 (smL (gI h (3 + j)) m / (nI m).toInt64).toInt32) 68 j = nI m := by rw [gI_ne (by decide), ← i1, i2]
          rw [isRow_yes hj, Ib, if_neg (by decide), ld_68 hj, Ib, Ib, e68, if_pos (n_ge (by omega)), if_neg (by rw [lit_0, n_eq (by omega) (by omega)]; exact h0)]
          refine fix_seq (fun k => (smL (gI h (3 + j)) k, nI k)) m rfl (fun k hk self => ?_) (fun self => ?_) (by omega)
          · have e1 : ¬ nI m ≤ nI k := by rw [n_le (by omega) (by omega)]; omega
            simp only [Ib, if_neg e1]
            rw [rowAt_n hj (by omega), Ib, nI_1, gI_ne (by decide), ← i3 k (by omega)]
            rfl
          · have e1 : nI m ≤ nI m := by rw [n_le (by omega) (by omega)]; exact Nat.le_refl _
            simp only [Ib, if_pos e1, f_X8_tells, nm]
            rw [dvL, if_neg hz]
            rfl
  · refine alk_bad I ?_ ?_
    · simp only [f_X7_mean]
      rw [rm_no shf_rows hr, Ib, if_neg nz1]
    · simp only [f_X8_mean]
      rw [isRow_no hr]; rfl
/-- both answer alike without a change -/
def AlkP (A B : Hp → Option Int32) (h : Hp) : Prop := ∃ v, A h = some v ∧ B h = some v
theorem alk_asked (I : Inv0 P h) : AlkP f_X7_asked f_X8_asked h := ⟨_, rfl, by rw [I.2.2.1.1]; rfl⟩
theorem alk_finding (I : Inv0 P h) : AlkP f_X7_finding f_X8_finding h := ⟨_, rfl, by rw [I.2.2.1.2.1]; rfl⟩
theorem alk_findings {f : Int32} (I : Inv0 P h) : AlkP (f_X7_findings f) (f_X8_findings f) h := by
  by_cases q1 : f < 1
  · refine ⟨-1, ?_, ?_⟩
    · simp only [f_X7_findings]
      rw [if_pos q1]; rfl
    · simp only [f_X8_findings, f_X8_in]
      rw [if_pos q1]; rfl
  · by_cases q2 : f ≤ 5
    · have h3 : ¬ f < 0 := fun q => q1 (by
        rw [Int32.lt_iff_toInt_lt] at q ⊢
        have : (1 : Int32).toInt = 1 := by decide
        rw [Int32.toInt_zero] at q
        omega)
      obtain ⟨j, hj, rfl⟩ := nI_of h3
      rw [lit_5, n_le hj (by decide)] at q2
      refine ⟨gI h 40 j, ?_, ?_⟩
      · simp only [f_X7_findings]
        rw [if_neg q1, if_pos (by rw [lit_5, n_le hj (by decide)]; exact q2), ld_40 (by omega)]; rfl
      · simp only [f_X8_findings, f_X8_in]
        rw [if_neg q1, if_neg (by rw [lit_5, n_lt (by decide) hj]; omega), ld_67 (by omega), I.2.2.1.2.2 j (by omega)]; rfl
    · have q3 : 5 < f := by
        rw [Int32.le_iff_toInt_le] at q2
        rw [Int32.lt_iff_toInt_lt]
        omega
      refine ⟨-1, ?_, ?_⟩
      · simp only [f_X7_findings]
        rw [if_neg q1, if_neg q2]; rfl
      · simp only [f_X8_findings, f_X8_in]
        rw [if_neg q1, if_pos q3]; rfl
end OPS2
