/-! copy -/
theorem cmp_gt (x y : Int64) : (0 < lg_cmp x y) = (y < x) := by
  unfold lg_cmp
  by_cases h1 : y < x
  · simp [h1]
  · by_cases h2 : x = y <;> simp [h1, h2]
theorem cmp_le (x y : Int64) : (lg_cmp x y ≤ 0) = ¬ (y < x) := by
  unfold lg_cmp
  by_cases h1 : y < x
  · simp [h1]
  · by_cases h2 : x = y <;> simp [h1, h2]
theorem cmpN {a p m : Nat} (ha : a < 2 ^ 31) (hp : p < 2 ^ 31) (hm : m < 2 ^ 31) : ((nI m).toInt64 < (nI a).toInt64 + (nI p).toInt64) = (m < a + p) := by
  rw [nI_l ha, nI_l hp, nI_l hm, lN_add]
  exact propext (pk_lLT (by omega) (by omega))
theorem hasN {s z b N r m a p : Nat} {h : Hp} (S : Shf s z b N) (hr : r < N) (hm : gI h z r = nI m) (hm2 : m ≤ 40) (ha : a < 2 ^ 31) (hp : p < 2 ^ 31) : f_X4_has s (nI r) (nI a) (nI p) h = some (if a + p ≤ m then 1 else 0) := by
  rw [has_yes S hr, hm]
  by_cases q : a + p ≤ m
  · rw [if_pos q, if_neg]
    rintro (q1 | q1 | q1 | q1 | q1)
    · exact nI_pos (by omega) q1
    · exact nI_pos ha q1
    · exact nI_pos hp q1
    · rw [n_lt (by omega) hp] at q1; omega
    · rw [pk_sub (by omega), n_lt (by omega) ha] at q1; omega
  · rw [if_neg q, if_pos]
    by_cases q2 : m < p
    · exact Or.inr (Or.inr (Or.inr (Or.inl (by rw [n_lt (by omega) hp]; exact q2))))
    · exact Or.inr (Or.inr (Or.inr (Or.inr (by rw [pk_sub (by omega), n_lt (by omega) ha]; omega))))
theorem has_i {s z b N r : Nat} {i p : Int32} {h : Hp} (S : Shf s z b N) (hr : r < N) (hi : i < 0) : f_X4_has s (nI r) i p h = some 0 := by
  rw [has_yes S hr, if_pos (Or.inr (Or.inl hi))]
theorem cp_n {h : Hp} {a b na nb sp dp n : Nat} (hs : (sh a).2.2 = na) (hs2 : (sh b).2.2 = nb) (h1 : sp + n ≤ na) (h2 : dp + n ≤ nb) (h3 : na < 2 ^ 31) (h4 : nb < 2 ^ 31) : cpI h a (nI sp) b (nI dp) (nI n) = some (sA h b (va_cpy (gI h a) (gI h b) sp dp n)) := by
  unfold cpI
  rw [hs, hs2, nI_toInt (by omega), nI_toInt (by omega), nI_toInt (by omega), if_pos ⟨by omega, by omega, by omega, by omega, by omega⟩, nI_clamp (by omega), nI_clamp (by omega), nI_clamp (by omega)]
theorem upd_put {f g : Nat → Int32} {b k : Nat} : upd (fun j => if b ≤ j ∧ j < b + k then g (j - b) else f j) (b + k) (g k) = fun j => if b ≤ j ∧ j < b + (k + 1) then g (j - b) else f j := by
  funext j
  unfold upd
  by_cases q : j = b + k
  · subst q
    rw [if_pos rfl, if_pos (by omega)]
    congr 1
    omega
  · rw [if_neg q]
    by_cases q2 : b ≤ j ∧ j < b + k
    · simp only [if_pos q2, if_pos (show b ≤ j ∧ j < b + (k + 1) by omega)]
    · simp only [if_neg q2, if_neg (show ¬ (b ≤ j ∧ j < b + (k + 1)) by omega)]
theorem put_0 {f g : Nat → Int32} {b : Nat} : (fun j => if b ≤ j ∧ j < b + 0 then g (j - b) else f j) = f := by
  funext j
  rw [if_neg (by omega)]
section OPS3
variable {P : Hp → Prop} {h : Hp} {F : Nat}
theorem alk_copy {r i t j n : Int32} (I : Inv0 P h) (hF : 40 < F) : Alk P (f_X7_copy r i t j n) (f_X8_copy F r i t j n) h := by
  by_cases hr : inR r 6
  · obtain ⟨r, hr, rfl⟩ := hr
    by_cases ht : inR t 6
    · obtain ⟨t, ht, rfl⟩ := ht
      by_cases hn : 0 ≤ n
      · have hn2 : ¬ n < 0 := fun q => by rw [lt_le q] at hn; exact hn
        obtain ⟨p, hp, rfl⟩ := nI_of hn2
        obtain ⟨i1, i2, i3⟩ := I.1 r hr
        obtain ⟨j1, j2, j3⟩ := I.1 t ht
        have bad1 : (gI h 9 r = -1 ∨ gI h 9 t = -1) → Alk P (f_X7_copy (nI r) i (nI t) j (nI p)) (f_X8_copy F (nI r) i (nI t) j (nI p)) h := by
          intro hb
          refine alk_as I (f := 1) (by decide) ?_ (fun h' hh => ?_)
          · simp only [f_X7_copy, jn]
            rw [knows_yes shf_rows hr, Ib, if_neg (by decide), knows_yes shf_rows ht, Ib, if_neg (by decide), if_pos hn, holds_yes shf_rows hr, Ib, bindself, holds_yes shf_rows ht, Ib]
            rcases hb with hb | hb
            · rw [hb, if_pos (by decide)]; rfl
            · rw [hb]
              by_cases q : gI h 9 r < 0
              · rw [if_pos q, if_pos rfl]; rfl
              · rw [if_neg q, if_neg (by decide), if_pos (by decide)]; rfl
          · simp only [f_X8_copy, jn]
            rw [isRow_yes hr, Ib, if_neg (by decide), isRow_yes ht, Ib, if_neg (by decide), if_pos hn, ld_68 hr, Ib, ld_68 ht, Ib, bindself, hh 68 (by decide), ← i1, ← j1]
            rcases hb with hb | hb
            · rw [hb, if_pos (by decide)]; rfl
            · rw [hb]
              by_cases q : gI h 9 r < 0
              · rw [if_pos q]; rfl
              · rw [if_neg q, if_neg m1_neg]; rfl
        rcases i2 with i2 | ⟨m1, hm1, i2⟩
        · exact bad1 (Or.inl i2)
        · rcases j2 with j2 | ⟨m2, hm2, j2⟩
          · exact bad1 (Or.inr j2)
          · have pre7 : ∀ (K : Option (Int32 × Hp)), ((f_X4_has 1 (nI r) i (nI p) h).bind fun v9 => if v9 = 0 then ((f_X7_found 2 h).bind fun v13 => some (v13.1, v13.2)) else (f_X4_has 1 (nI t) j (nI p) h).bind fun v14 => if v14 = 0 then ((f_X7_found 2 h).bind fun v13 => some (v13.1, v13.2)) else (f_X4_move 1 (nI r) i (nI t) j (nI p) h).bind fun h15 => some (1, h15)) = K → f_X7_copy (nI r) i (nI t) j (nI p) h = K := by
              intro K hK
              simp only [f_X7_copy, jn]
              rw [knows_yes shf_rows hr, Ib, if_neg (by decide), knows_yes shf_rows ht, Ib, if_neg (by decide), if_pos hn, holds_yes shf_rows hr, Ib, holds_yes shf_rows ht, Ib, i2, j2, if_neg (nI_pos (by omega)), if_neg (by decide), if_neg (nI_pos (by omega)), if_neg (by decide)]
              exact hK
            by_cases good : ∃ a b : Nat, a < 2 ^ 31 ∧ b < 2 ^ 31 ∧ i = nI a ∧ j = nI b ∧ a + p ≤ m1 ∧ b + p ≤ m2
            · obtain ⟨a, b, ha, hb, rfl, rfl, g1, g2⟩ := good
              refine ⟨1, sA h (3 + t) (va_cpy (gI h (3 + r)) (gI h (3 + t)) a b p), sA (sA (sA h (3 + t) (va_cpy (gI h (3 + r)) (gI h (3 + t)) a b p)) 70 (fun x => if 0 ≤ x ∧ x < 0 + p then gI h 69 (40 * r + a + (x - 0)) else gI h 70 x)) 69 (fun x => if 40 * t + b ≤ x ∧ x < 40 * t + b + p then gI h 69 (40 * r + a + (x - (40 * t + b))) else gI h 69 x), pre7 _ ?_, ?_, ?_⟩
              · rw [hasN shf_rows hr i2 hm1 ha hp, Ib, if_pos g1, if_neg (by decide), hasN shf_rows ht j2 hm2 hb hp, Ib, if_pos g2, if_neg (by decide)]
                simp only [f_X4_move]
                rw [hasN shf_rows hr i2 hm1 ha hp, Ib, if_pos g1, if_neg (by decide), hasN shf_rows ht j2 hm2 hb hp, Ib, if_pos g2, if_neg (by decide), rf_rows0, ldR_rows hr, Ib, ldR_rows ht, Ib, cp_n (na := 40) (nb := 40) (by rw [sh_row hr]) (by rw [sh_row ht]) (by omega) (by omega) (by decide) (by decide)]
                rfl
              · have k69 : gI (sA h (3 + t) (va_cpy (gI h (3 + r)) (gI h (3 + t)) a b p)) 69 = gI h 69 := gA_ne (by omega)
                have k68 : gI (sA h (3 + t) (va_cpy (gI h (3 + r)) (gI h (3 + t)) a b p)) 68 = gI h 68 := gA_ne (by omega)
                have k70 : gI (sA h (3 + t) (va_cpy (gI h (3 + r)) (gI h (3 + t)) a b p)) 70 = gI h 70 := gA_ne (by omega)
                generalize sA h (3 + t) (va_cpy (gI h (3 + r)) (gI h (3 + t)) a b p) = h1 at k69 k68 k70 ⊢
                simp only [f_X8_copy, jn]
                rw [isRow_yes hr, Ib, if_neg (by decide), isRow_yes ht, Ib, if_neg (by decide), if_pos hn, ld_68 hr, Ib, ld_68 ht, Ib, k68, ← i1, ← j1, i2, j2, if_neg (nI_pos (by omega)), if_pos (n_ge (by omega)), if_neg (nI_pos ha), if_neg (nI_pos hb), Ib, Ib]
                rw [if_neg (by rw [cmp_gt, cmpN ha hp (by omega)]; omega), if_pos (by rw [cmp_le, cmpN hb hp (by omega)]; omega)]
                refine fix_seq (fun k => (nI k, sA h1 70 (fun x => if 0 ≤ x ∧ x < 0 + k then gI h 69 (40 * r + a + (x - 0)) else gI h 70 x))) p ?_ (fun k hk self => ?_) (fun self => ?_) (by omega)
                · refine Prod.ext rfl (sA_self fun x => ?_)
                  rw [if_neg (by omega), k70]
                · have e1 : ¬ nI p ≤ nI k := by rw [n_le hp (by omega)]; omega
                  simp only [if_neg e1]
                  rw [nI_add, rowAt_n hr (by omega), Ib, gAj_ne (by decide), k69, st_70 (by omega), Ib, sI_sA, nI_1]
                  have e2 := upd_put (f := gI h 70) (g := fun x => gI h 69 (40 * r + a + x)) (b := 0) (k := k)
                  simp only [Nat.zero_add] at e2 ⊢
                  rw [Nat.add_assoc] at e2
                  rw [← Nat.add_assoc] at e2
                  rw [← Nat.add_assoc, e2]
                · have e1 : nI p ≤ nI p := by rw [n_le hp hp]; exact Nat.le_refl _
                  simp only [if_pos e1]
                  refine fix_seq (fun k => (nI k, sA (sA h1 70 (fun x => if 0 ≤ x ∧ x < 0 + p then gI h 69 (40 * r + a + (x - 0)) else gI h 70 x)) 69 (fun x => if 40 * t + b ≤ x ∧ x < 40 * t + b + k then gI h 69 (40 * r + a + (x - (40 * t + b))) else gI h 69 x))) p ?_ (fun k hk self => ?_) (fun self => ?_) (by omega)
                  · refine Prod.ext rfl (sA_self fun x => ?_)
                    rw [if_neg (by omega), gAj_ne (by decide), k69]
                  · have e3 : ¬ nI p ≤ nI k := by rw [n_le hp (by omega)]; omega
                    simp only [if_neg e3]
                    rw [ld_70 (by omega), Ib, gAj_ne (by decide), gAj_eq, if_pos (by omega), lit_40, pk_mul, nI_add, nI_add, st_69 (by omega), Ib, sI_sA, nI_1]
                    have e2 := upd_put (f := gI h 69) (g := fun x => gI h 69 (40 * r + a + x)) (b := 40 * t + b) (k := k)
                    simp only [Nat.sub_zero]
                    rw [e2]
                  · simp only [if_pos e1]
              · obtain ⟨I1, I2, ⟨q1, q2, q3⟩, I4⟩ := I
                refine ⟨fun r' hr' => ?_, I2.keep ?_ ?_ (fun r hr => ?_) ?_, ⟨?_, ?_, fun f hf => ?_⟩, ?_⟩
                case refine_1 =>
                  obtain ⟨l1, l2, l3⟩ := I1 r' hr'
                  have a1 : ∀ x, gI (sA (sA (sA h (3 + t) (va_cpy (gI h (3 + r)) (gI h (3 + t)) a b p)) 70 (fun x => if 0 ≤ x ∧ x < 0 + p then gI h 69 (40 * r + a + (x - 0)) else gI h 70 x)) 69 (fun x => if 40 * t + b ≤ x ∧ x < 40 * t + b + p then gI h 69 (40 * r + a + (x - (40 * t + b))) else gI h 69 x)) (3 + r') x = if r' = t then va_cpy (gI h (3 + r)) (gI h (3 + t)) a b p x else gI h (3 + r') x := by
                    intro x
                    rw [gAj_ne (by omega), gAj_ne (by omega)]
                    by_cases q : r' = t
                    · rw [q, gAj_eq, if_pos rfl]
                    · rw [gAj_ne (by omega), if_neg q]
                  refine ⟨?_, ?_, fun x hx => ?_⟩
                  · simp (disch := omega) only [gAj_ne]
                    exact l1
                  · simp (disch := omega) only [gAj_ne]
                    exact l2
                  · rw [a1, gAj_eq]
                    by_cases q : r' = t
                    · subst q
                      rw [if_pos rfl]
                      unfold va_cpy
                      by_cases z : b ≤ x ∧ x < b + p
                      · rw [if_pos z, if_pos (by omega), i3 _ (by omega)]
                        congr 1
                        omega
                      · rw [if_neg z, if_neg (by omega)]
                        exact l3 x hx
                    · rw [if_neg q, if_neg]
                      · exact l3 x hx
                      · rcases Nat.lt_or_gt_of_ne q with q | q <;> omega
                case refine_9 =>
                  rw [oth_sA (fun k => irr_row (by omega)), oth_sA (fun k => irr_row (by omega)), oth_sA (fun k => irr_row (by omega))]
                  exact I4
                all_goals simp (disch := omega) only [gA_ne, gAj_ne]
                · exact q1
                · exact q2
                · exact q3 f hf
            · refine alk_as I (f := 2) (by decide) (pre7 _ ?_) (fun h' hh => ?_)
              · rw [bindself]
                rcases arg_n i with qi | ⟨a, ha, rfl⟩
                · rw [has_i shf_rows hr qi, Ib, if_pos rfl]; rfl
                · rw [hasN shf_rows hr i2 hm1 ha hp, Ib]
                  by_cases g1 : a + p ≤ m1
                  · rw [if_pos g1, if_neg (by decide)]
                    rcases arg_n j with qj | ⟨b, hb, rfl⟩
                    · rw [has_i shf_rows ht qj, Ib, if_pos rfl]; rfl
                    · rw [hasN shf_rows ht j2 hm2 hb hp, Ib, if_neg (fun g2 => good ⟨a, b, ha, hb, rfl, rfl, g1, g2⟩), if_pos rfl]; rfl
                  · rw [if_neg g1, if_pos rfl]; rfl
              · simp only [f_X8_copy, jn]
                rw [isRow_yes hr, Ib, if_neg (by decide), isRow_yes ht, Ib, if_neg (by decide), if_pos hn, ld_68 hr, Ib, ld_68 ht, Ib, hh 68 (by decide), ← i1, ← j1, i2, j2, if_neg (nI_pos (by omega)), if_pos (n_ge (by omega)), bindself]
                rcases arg_n i with qi | ⟨a, ha, rfl⟩
                · rw [if_pos qi]; rfl
                · rw [if_neg (nI_pos ha)]
                  rcases arg_n j with qj | ⟨b, hb, rfl⟩
                  · rw [if_pos qj]; rfl
                  · rw [if_neg (nI_pos hb), Ib, Ib]
                    by_cases g1 : m1 < a + p
                    · rw [if_pos (by rw [cmp_gt, cmpN ha hp (by omega)]; exact g1)]; rfl
                    · rw [if_neg (by rw [cmp_gt, cmpN ha hp (by omega)]; exact g1), if_neg (by rw [cmp_le, cmpN hb hp (by omega)]; exact fun g2 => good ⟨a, b, ha, hb, rfl, rfl, by omega, by omega⟩)]; rfl
      · refine alk_as I (f := 5) (by decide) ?_ (fun h' _ => ?_)
        · simp only [f_X7_copy]
          rw [knows_yes shf_rows hr, Ib, if_neg (by decide), knows_yes shf_rows ht, Ib, if_neg (by decide), if_neg hn, bindself]; rfl
        · simp only [f_X8_copy]
          rw [isRow_yes hr, Ib, if_neg (by decide), isRow_yes ht, Ib, if_neg (by decide), if_neg hn, bindself]; rfl
    · refine alk_bad I ?_ ?_
      · simp only [f_X7_copy]
        rw [knows_yes shf_rows hr, Ib, if_neg (by decide), knows_no shf_rows ht]; rfl
      · simp only [f_X8_copy]
        rw [isRow_yes hr, Ib, if_neg (by decide), isRow_no ht]; rfl
  · refine alk_bad I ?_ ?_
    · simp only [f_X7_copy]
      rw [knows_no shf_rows hr]; rfl
    · simp only [f_X8_copy]
      rw [isRow_no hr]; rfl
end OPS3
