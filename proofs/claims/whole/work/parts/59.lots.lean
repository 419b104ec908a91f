/-! lots, upper, lower -/
theorem l_int {a : Nat} (h : a < 9223372036854775808) : (Int64.ofNat a).toInt = (a : Int) := Int64.toInt_ofNat_of_lt h
theorem l_div {a d : Nat} (ha : a < 4611686018427387904) (h0 : 0 < d) (hd : d < 4611686018427387904) : Int64.ofNat a / Int64.ofNat d = Int64.ofNat (a / d) := by
  have h1 : a / d ≤ a := Nat.div_le_self _ _
  apply Int64.toInt_inj.mp
  rw [Int64.toInt_div, l_int (by omega), l_int (by omega), l_int (by omega), Int.tdiv_eq_ediv_of_nonneg (by omega), ← Int.natCast_ediv]
  generalize a / d = q at h1 ⊢
  exact Int.bmod_eq_of_le (by omega) (by omega)
theorem l_rem {a d : Nat} (ha : a < 4611686018427387904) (h0 : 0 < d) (hd : d < 4611686018427387904) : rem64 (Int64.ofNat a) (Int64.ofNat d) = Int64.ofNat (a % d) := by
  show Int64.ofNat a - Int64.ofNat a / Int64.ofNat d * Int64.ofNat d = _
  rw [l_div ha h0 hd, ← Int64.ofNat_mul, ← Int64.ofNat_sub _ _ (Nat.div_mul_le_self a d)]
  exact congrArg Int64.ofNat (by have := Nat.div_add_mod' a d; omega)
theorem l_32 {a : Nat} : (Int64.ofNat a).toInt32 = nI a := Int64.toInt32_ofNat'
theorem l_64 {a : Nat} (h : a < 2147483648) : (nI a).toInt64 = Int64.ofNat a := by
  apply Int64.toInt_inj.mp
  rw [Int32.toInt_toInt64, nI_toInt h, l_int (by omega)]
theorem inAB_y {a b q : Nat} {h : Hp} (ha : a ≤ q) (hb : q ≤ b) (hb2 : b < 2147483648) : f_X8_in (nI q) (nI a) (nI b) h = some 1 := by
  unfold f_X8_in
  rw [i_lt (by omega) (by omega), if_neg (by omega), i_lt (by omega) (by omega), if_neg (by omega)]; rfl
theorem ab_no {a b : Nat} {x : Int32} (hx : ¬ ∃ q : Nat, a ≤ q ∧ q ≤ b ∧ x = nI q) (ha : a < 2147483648) (hb2 : b < 2147483648) : x < nI a ∨ nI b < x := by
  by_cases h1 : x < nI a
  · exact Or.inl h1
  · right
    have h2 : ¬ x < 0 := by
      intro z
      apply h1
      have z1 := Int32.lt_iff_toInt_lt.mp z
      rw [Int32.toInt_zero] at z1
      rw [Int32.lt_iff_toInt_lt, nI_toInt ha]
      omega
    obtain ⟨j, hj, rfl⟩ := nI_of h2
    rw [n_lt hj ha] at h1
    rw [n_lt hb2 hj]
    rcases Nat.lt_or_ge b j with q | q
    · exact q
    · exact absurd ⟨j, by omega, q, rfl⟩ hx
theorem inAB_n {a b : Nat} {x : Int32} {h : Hp} (hx : ¬ ∃ q : Nat, a ≤ q ∧ q ≤ b ∧ x = nI q) (ha : a < 2147483648) (hb2 : b < 2147483648) : f_X8_in x (nI a) (nI b) h = some 0 := by
  unfold f_X8_in
  by_cases h1 : x < nI a
  · rw [if_pos h1]; rfl
  · rw [if_neg h1, if_pos ((ab_no hx ha hb2).resolve_left h1)]; rfl
/-- one lot drawn -/
def ltS (Z : SS) (X : Nat) : SS × Nat := (match aft (sY Z) (ct (sC Z)) (co (sC Z)) (cs (sC Z)) (48271 * X % 2147483647 % yn (sY Z)) (48271 * X % 2147483647 / 64 % 4) with
  | none => Z
  | some s' => setC Z (stC (sC Z) (10 * (48271 * X % 2147483647 % yn (sY Z)) + 48271 * X % 2147483647 / 64 % 4) s'), 48271 * X % 2147483647)
def lz (Z : SS) (X : Nat) : Nat → SS × Nat
  | 0 => (Z, X)
  | k + 1 => ltS (lz Z X k).1 (lz Z X k).2
theorem ltS_n {Z : SS} {X : Nat} (ha : aft (sY Z) (ct (sC Z)) (co (sC Z)) (cs (sC Z)) (48271 * X % 2147483647 % yn (sY Z)) (48271 * X % 2147483647 / 64 % 4) = none) : ltS Z X = (Z, 48271 * X % 2147483647) := by
  unfold ltS
  rw [ha]
theorem ltS_s {Z : SS} {X s' : Nat} (ha : aft (sY Z) (ct (sC Z)) (co (sC Z)) (cs (sC Z)) (48271 * X % 2147483647 % yn (sY Z)) (48271 * X % 2147483647 / 64 % 4) = some s') : ltS Z X = (setC Z (stC (sC Z) (10 * (48271 * X % 2147483647 % yn (sY Z)) + 48271 * X % 2147483647 / 64 % 4) s'), 48271 * X % 2147483647) := by
  unfold ltS
  rw [ha]
theorem ltS_ok {Z : SS} {X : Nat} (w : SWf Z) (hn : 0 < yn (sY Z)) (hm : cm (sC Z) < 60) : SWf (ltS Z X).1 ∧ sY (ltS Z X).1 = sY Z ∧ cm (sC Z) ≤ cm (sC (ltS Z X).1) ∧ cm (sC (ltS Z X).1) ≤ cm (sC Z) + 1 ∧ (ltS Z X).2 < 2147483647 := by
  have W := w.1
  have hn4 := W.2.2.1
  have hX : 48271 * X % 2147483647 < 2147483647 := Nat.mod_lt _ (by decide)
  have hi : 48271 * X % 2147483647 % yn (sY Z) < yn (sY Z) := Nat.mod_lt _ hn
  have hd : 48271 * X % 2147483647 / 64 % 4 < 4 := Nat.mod_lt _ (by decide)
  cases ha : aft (sY Z) (ct (sC Z)) (co (sC Z)) (cs (sC Z)) (48271 * X % 2147483647 % yn (sY Z)) (48271 * X % 2147483647 / 64 % 4) with
  | none => rw [ltS_n ha]; exact ⟨w, rfl, Nat.le_refl _, Nat.le_succ _, hX⟩
  | some s' =>
    rw [ltS_s ha]
    exact ⟨⟨W, stC_W w.2.1 hm (by omega) (aft_SW W w.2.1.1 hi hd ha), w.2.2⟩, rfl, Nat.le_succ _, Nat.le_refl _, hX⟩
theorem lz_ok {Z : SS} {X : Nat} (w : SWf Z) (hn : 0 < yn (sY Z)) (hX : X < 2147483647) : ∀ k, cm (sC Z) + k ≤ 60 → SWf (lz Z X k).1 ∧ sY (lz Z X k).1 = sY Z ∧ cm (sC Z) ≤ cm (sC (lz Z X k).1) ∧ cm (sC (lz Z X k).1) ≤ cm (sC Z) + k ∧ (lz Z X k).2 < 2147483647
  | 0, _ => ⟨w, rfl, Nat.le_refl _, Nat.le_refl _, hX⟩
  | k + 1, hk => by
    obtain ⟨a1, a2, a3, a4, a5⟩ := lz_ok w hn hX k (by omega)
    obtain ⟨b1, b2, b3, b4, b5⟩ := ltS_ok (X := (lz Z X k).2) a1 (by rw [a2]; exact hn) (by omega)
    exact ⟨b1, b2.trans a2, by show _ ≤ cm (sC (ltS _ _).1); omega, by show cm (sC (ltS _ _).1) ≤ _; omega, b5⟩
section LOTS
variable {B F : Nat} {h : Hp}
theorem alk_lots {x z : Int32} (I : Inv0 (PB B) h) (hF : 60 < F) : Alk2 (PB B) (PB B) (f_X7_lots F x z) (f_X8_lots F x z) h := by
  obtain ⟨y, Z, w, ci, mi, si⟩ := PB_oth.mp I.2.2.2
  have W := w.1
  have hn := W.2.2.1
  have m60 := w.2.1.2.2.2.1
  by_cases hx : ∃ q : Nat, 1 ≤ q ∧ q ≤ 60 ∧ x = nI q
  · obtain ⟨n, n1, n2, rfl⟩ := hx
    by_cases hz : ∃ q : Nat, 1 ≤ q ∧ q ≤ 2147483646 ∧ z = nI q
    · obtain ⟨s, s1, s2, rfl⟩ := hz
      have pc : ∀ (a b : Option (Int32 × Hp)), (if nI n < (1 : Int32) then a else (if (60 : Int32) < nI n then a else (if nI s < (1 : Int32) then a else (if nI s ≤ (2147483646 : Int32) then b else a)))) = b := by
        intro a b
        rw [lit_1, i_lt (by omega) (by decide), if_neg (by omega), lit_60, i_lt (by decide) (by omega), if_neg (by omega), i_lt (by omega) (by decide), if_neg (by omega), lit_2147483646, i_le (by omega) (by decide), if_pos s2]
      by_cases q0 : yn (sY Z) = 0
      · refine alk_two (fun _ q => q) I (v := -4) ?_ ?_
        · unfold f_X7_lots
          rw [pc, ci.o, Ib, ci.n, q0, if_pos (by decide)]
        · unfold f_X8_lots
          rw [lit_1, lit_60, inAB_y n1 n2 (by decide), Ib, i10, lit_2147483646, inAB_y s1 s2 (by decide), Ib, i10, mi.my.2.2.1, q0, if_pos (by decide)]
      · by_cases hf : cm (sC Z) + n ≤ 60
        · have key := fun k hk => lz_ok (X := s) w (by omega) (by omega) k hk
          have hc : ∃ h1, f_X7_lots F (nI n) (nI s) h = some (nI (cm (sC (lz Z s n).1) - cm (sC Z)), h1) ∧ Sm1 h h1 ∧ CI y (lz Z s n).1 h1 ∧ SIZ (lz Z s n).1 B h1 := by
            unfold f_X7_lots
            rw [pc, ci.o, Ib, ci.n, if_neg (n_nz (by omega) (by omega)), ci.now.2.2.2.1, nI_add, lit_60, i_le (by omega) (by decide), if_pos hf, l_64 (by omega)]
            refine fix_post (fun r => ∃ h1, r = some (nI (cm (sC (lz Z s n).1) - cm (sC Z)), h1) ∧ Sm1 h h1 ∧ CI y (lz Z s n).1 h1 ∧ SIZ (lz Z s n).1 B h1) (fun (k : Nat) (z : Int64 × Int32 × Hp) => z.1 = Int64.ofNat (lz Z s k).2 ∧ z.2.1 = nI k ∧ Sm1 h z.2.2 ∧ CI y (lz Z s k).1 z.2.2 ∧ SIZ (lz Z s k).1 B z.2.2) n ?_ (by omega) ?_ ?_
            · exact ⟨rfl, rfl, Sm1.refl, ci, si⟩
            · rintro k ⟨z1, z2, g⟩ hk ⟨rfl, rfl, sm, cig, sig⟩ self hself
              obtain ⟨a1, a2, a3, a4, a5⟩ := key k (by omega)
              have hlz : lz Z s (k + 1) = ltS (lz Z s k).1 (lz Z s k).2 := rfl
              generalize lz Z s k = q at *
              obtain ⟨Z1, X⟩ := q
              simp only at a1 a2 a3 a4 a5 sm cig sig ⊢
              have W1 := a1.1
              have hn1 : 0 < yn (sY Z1) := by rw [a2]; omega
              have hn4 := W1.2.2.1
              have hX : 48271 * X % 2147483647 < 2147483647 := Nat.mod_lt _ (by decide)
              have hi : 48271 * X % 2147483647 % yn (sY Z1) < yn (sY Z1) := Nat.mod_lt _ hn1
              have hd : 48271 * X % 2147483647 / 64 % 4 < 4 := Nat.mod_lt _ (by decide)
              have o16 := op16 W1 a1.2.1.2.2.1
              have hx5 : rem64 (Int64.ofNat X * 48271) 2147483647 = Int64.ofNat (48271 * X % 2147483647) := by
                rw [show (48271 : Int64) = Int64.ofNat 48271 from rfl, show (2147483647 : Int64) = Int64.ofNat 2147483647 from rfl, ← Int64.ofNat_mul, l_rem (by omega) (by decide) (by decide), Nat.mul_comm]
              simp only [nm, hx5]
              rw [if_neg (nle_k (by omega) hk), cig.o, Ib, cig.n, l_64 (by omega)]
              have hr : rmL (Int64.ofNat (48271 * X % 2147483647)) (Int64.ofNat (yn (sY Z1))) = some (Int64.ofNat (48271 * X % 2147483647 % yn (sY Z1))) := by
                unfold rmL
                rw [if_neg (fun e => by
                  have := congrArg Int64.toInt e
                  rw [l_int (by omega)] at this
                  have h0 : (0 : Int64).toInt = 0 := rfl
                  rw [h0] at this
                  omega)]
                exact congrArg some (l_rem (by omega) hn1 (by omega))
              have hd64 : rem64 (Int64.ofNat (48271 * X % 2147483647) / 64) 4 = Int64.ofNat (48271 * X % 2147483647 / 64 % 4) := by
                rw [show (64 : Int64) = Int64.ofNat 64 from rfl, show (4 : Int64) = Int64.ofNat 4 from rfl, l_div (by omega) (by decide) (by decide), l_rem (by have := Nat.div_le_self (48271 * X % 2147483647) 64; omega) (by decide) (by decide)]
              rw [hr, Ib, hd64, l_32, l_32, cig.now.1, after_ev cig.yc W1 cig.1 cig.rc a1.2.1.1.1 hi hd o16 a1.2.1.1.2.2.1 (by omega), Ib, n_add1]
              cases ha : aft (sY Z1) (ct (sC Z1)) (co (sC Z1)) (cs (sC Z1)) (48271 * X % 2147483647 % yn (sY Z1)) (48271 * X % 2147483647 / 64 % 4) with
              | none =>
                rw [ltS_n ha] at hlz
                show ∃ h1, (Option.bind (if (-9 : Int32) = -9 then _ else _) _) = _ ∧ _
                rw [if_pos rfl, Ib]
                exact hself _ ⟨by rw [hlz], rfl, sm, by rw [hlz]; exact cig, by rw [hlz]; exact sig⟩
              | some s' =>
                rw [ltS_s ha] at hlz
                have S' := aft_SW W1 a1.2.1.1 hi hd ha
                obtain ⟨h1, e1, e2, e3, e4⟩ := go_ev (code := 10 * (48271 * X % 2147483647 % yn (sY Z1)) + 48271 * X % 2147483647 / 64 % 4) (s' := s') cig sig (by omega)
                show ∃ h1, (Option.bind (if nI s' = (-9 : Int32) then _ else _) _) = _ ∧ _
                rw [i_m9 (by have := S'.1; omega)]
                unfold f_X7_stepOf
                rw [Ib, lit_10, pk_mul, nI_add]
                show ∃ h1, (Option.bind (Option.bind (f_X0_go 18 _ (nI s') g) _) _) = _ ∧ _
                rw [e1, Ib, Ib]
                exact hself _ ⟨by rw [hlz], rfl, fun a k q => (e4 a k q).trans (sm a k q), by rw [hlz]; exact e2, by rw [hlz]; exact e3⟩
            · rintro ⟨z1, z2, g⟩ ⟨rfl, rfl, sm, cig, sig⟩ self
              obtain ⟨a1, a2, a3, a4, a5⟩ := key n hf
              simp only at sm cig sig ⊢
              rw [if_pos (rf_le (by omega)), cig.now.2.2.2.1, pk_sub a3]
              exact ⟨g, rfl, sm, cig, sig⟩
          obtain ⟨h1, e1, e2, e3, e4⟩ := hc
          refine alk_coreZ I mi ⟨_, h1, e1, e2, y, (lz Z s n).1, (key n hf).1, e3, e4, fun h' mi' => ?_⟩
          unfold f_X8_lots
          have in1 : f_X8_in (nI n) (1 : Int32) (60 : Int32) h' = some 1 := inAB_y (a := 1) (b := 60) n1 n2 (by decide)
          have in2 : f_X8_in (nI s) (1 : Int32) (2147483646 : Int32) h' = some 1 := inAB_y (a := 1) (b := 2147483646) s1 s2 (by decide)
          rw [in1, Ib, i10, in2, Ib, i10, mi'.my.2.2.1, if_neg (n_nz (by omega) (by omega)), mi'.now.2.1, nI_add, lit_60, i_le (by omega) (by decide), if_pos hf, l_64 (by omega)]
          refine fix_post (fun r => ∃ h2, r = some (nI (cm (sC (lz Z s n).1) - cm (sC Z)), h2) ∧ Sm2 h' h2 ∧ MI (lz Z s n).1 h2) (fun (k : Nat) (z : Int64 × Int32 × Int32 × Hp) => z.1 = Int64.ofNat (lz Z s k).2 ∧ z.2.1 = nI (cm (sC (lz Z s k).1) - cm (sC Z)) ∧ z.2.2.1 = nI k ∧ Sm2 h' z.2.2.2 ∧ MI (lz Z s k).1 z.2.2.2) n ?_ (by omega) ?_ ?_
          · refine ⟨rfl, ?_, rfl, Sm2.refl, mi'⟩
            show (0 : Int32) = nI (cm (sC Z) - cm (sC Z))
            rw [Nat.sub_self]; rfl
          · rintro k ⟨z1, z2, z3, g⟩ hk ⟨rfl, rfl, rfl, sm, mig⟩ self hself
            obtain ⟨a1, a2, a3, a4, a5⟩ := key k (by omega)
            have hlz : lz Z s (k + 1) = ltS (lz Z s k).1 (lz Z s k).2 := rfl
            generalize lz Z s k = q at *
            obtain ⟨Z1, X⟩ := q
            simp only at a1 a2 a3 a4 a5 sm mig ⊢
            have W1 := a1.1
            have hn1 : 0 < yn (sY Z1) := by rw [a2]; omega
            have hn4 := W1.2.2.1
            have hX : 48271 * X % 2147483647 < 2147483647 := Nat.mod_lt _ (by decide)
            have hi : 48271 * X % 2147483647 % yn (sY Z1) < yn (sY Z1) := Nat.mod_lt _ hn1
            have hd : 48271 * X % 2147483647 / 64 % 4 < 4 := Nat.mod_lt _ (by decide)
            have hx5 : rem64 (48271 * Int64.ofNat X) 2147483647 = Int64.ofNat (48271 * X % 2147483647) := by
              rw [show (48271 : Int64) = Int64.ofNat 48271 from rfl, show (2147483647 : Int64) = Int64.ofNat 2147483647 from rfl, ← Int64.ofNat_mul, l_rem (by omega) (by decide) (by decide)]
            simp only [nm, hx5]
            rw [if_neg (nle_k (by omega) hk), mig.my.2.2.1, l_64 (by omega)]
            have hr : rmL (Int64.ofNat (48271 * X % 2147483647)) (Int64.ofNat (yn (sY Z1))) = some (Int64.ofNat (48271 * X % 2147483647 % yn (sY Z1))) := by
              unfold rmL
              rw [if_neg (fun e => by
                have := congrArg Int64.toInt e
                rw [l_int (by omega)] at this
                have h0 : (0 : Int64).toInt = 0 := rfl
                rw [h0] at this
                omega)]
              exact congrArg some (l_rem (by omega) hn1 (by omega))
            have hd64 : rem64 (Int64.ofNat (48271 * X % 2147483647) / 64) 4 = Int64.ofNat (48271 * X % 2147483647 / 64 % 4) := by
              rw [show (64 : Int64) = Int64.ofNat 64 from rfl, show (4 : Int64) = Int64.ofNat 4 from rfl, l_div (by omega) (by decide) (by decide), l_rem (by have := Nat.div_le_self (48271 * X % 2147483647) 64; omega) (by decide) (by decide)]
            obtain ⟨g1, b1, l1, eo1⟩ := look_ev mig W1 (F := F) (by omega)
            have M1 := mig.of82 eo1
            obtain ⟨g2, b2, l2, eo2⟩ := steps_ev M1.my M1.mt W1 l1 a1.2.1.1.1 hi hd a1.2.1.2.1 a1.2.1.1.2.2.1 (F := F) (by omega)
            have eo3 : Eo sSt g g2 := eo1.to.trans eo2
            have M2 := mig.ofS eo3
            rw [hr, Ib, hd64, l_32, l_32, b1, Ib, b2, Ib, n_add1]
            cases ha : aft (sY Z1) (ct (sC Z1)) (co (sC Z1)) (cs (sC Z1)) (48271 * X % 2147483647 % yn (sY Z1)) (48271 * X % 2147483647 / 64 % 4) with
            | none =>
              rw [ltS_n ha] at hlz
              show ∃ h1, (Option.bind (if bz false = 0 then _ else _) _) = _ ∧ _
              rw [i_bz0, if_neg (by decide), Ib]
              exact hself _ ⟨by rw [hlz], by rw [hlz], n_add1 k, ⟨fun a k q => ((Sm2.ofS eo3).1 a k q).trans (sm.1 a k q), (Sm2.ofS eo3).2.trans sm.2⟩, by rw [hlz]; exact M2⟩
            | some s' =>
              rw [ltS_s ha] at hlz
              rw [ha] at l2
              obtain ⟨h1, e1, e2, e3, -⟩ := take_ev (code := 10 * (48271 * X % 2147483647 % yn (sY Z1)) + 48271 * X % 2147483647 / 64 % 4) (s' := s') M2 W1 l2 (by omega) (F := F) hF
              show ∃ h1, (Option.bind (if bz true = 0 then _ else _) _) = _ ∧ _
              rw [i_bz0, if_pos rfl, lit_10, pk_mul, nI_add, e1, Ib, Ib]
              refine hself _ ⟨by rw [hlz], ?_, n_add1 k, ⟨fun a k q => ((e3.1 a k q).trans ((Sm2.ofS eo3).1 a k q)).trans (sm.1 a k q), (e3.2.trans (Sm2.ofS eo3).2).trans sm.2⟩, by rw [hlz]; exact e2⟩
              rw [hlz]
              show nI (cm (sC Z1) - cm (sC Z) + 1) = nI (cm (sC Z1) + 1 - cm (sC Z))
              exact congrArg nI (by omega)
          · rintro ⟨z1, z2, z3, g⟩ ⟨rfl, rfl, rfl, sm, mig⟩ self
            simp only at sm mig ⊢
            rw [if_pos (rf_le (by omega))]
            exact ⟨g, rfl, sm, mig⟩
        · refine alk_two (fun _ q => q) I (v := -2) ?_ ?_
          · unfold f_X7_lots
            rw [pc, ci.o, Ib, ci.n, if_neg (n_nz (by omega) (by omega)), ci.now.2.2.2.1, nI_add, lit_60, i_le (by omega) (by decide), if_neg hf]
          · unfold f_X8_lots
            rw [lit_1, lit_60, inAB_y n1 n2 (by decide), Ib, i10, lit_2147483646, inAB_y s1 s2 (by decide), Ib, i10, mi.my.2.2.1, if_neg (n_nz (by omega) (by omega)), mi.now.2.1, nI_add, i_le (by omega) (by decide), if_neg hf]
    · refine alk_two (fun _ q => q) I (v := -1) ?_ ?_
      · unfold f_X7_lots
        rw [lit_1, i_lt (by omega) (by decide), if_neg (by omega), lit_60, i_lt (by decide) (by omega), if_neg (by omega)]
        by_cases q : z < nI 1
        · rw [if_pos q]
        · have q2 := (ab_no hz (by decide) (by decide)).resolve_left q
          rw [if_neg q, lit_2147483646, if_neg (fun e => by
            have e1 := Int32.lt_iff_toInt_lt.mp q2
            have e2 := Int32.le_iff_toInt_le.mp e
            omega)]
      · unfold f_X8_lots
        rw [lit_1, lit_60, inAB_y n1 n2 (by decide), Ib, i10, lit_2147483646, inAB_n hz (by decide) (by decide), Ib, i00]
  · refine alk_two (fun _ q => q) I (v := -1) ?_ ?_
    · unfold f_X7_lots
      by_cases q : x < nI 1
      · rw [if_pos (show x < 1 from q)]
      · rw [if_neg (show ¬ x < 1 from q), if_pos (show (60 : Int32) < x from (ab_no hx (by decide) (by decide)).resolve_left q)]
    · unfold f_X8_lots
      rw [lit_1, lit_60, inAB_n hx (by decide) (by decide), Ib, i00]
end LOTS
/-! upper, lower -/
def psn (Z : SS) : Nat := sumN (fun i => pcn (wys (sY Z) (ct (sC Z)) (co (sC Z)) (cs (sC Z)) i)) (yn (sY Z))
theorem psn_le (Z : SS) : ∀ n, sumN (fun i => pcn (wys (sY Z) (ct (sC Z)) (co (sC Z)) (cs (sC Z)) i)) n ≤ 4 * n
  | 0 => Nat.le_refl _
  | n + 1 => by
    have ih := psn_le Z n
    have : pcn (wys (sY Z) (ct (sC Z)) (co (sC Z)) (cs (sC Z)) n) ≤ 4 := by
      unfold wys
      rw [pcn_bts (by decide)]
      exact cnt_le _ _
    show sumN _ n + pcn _ ≤ _
    omega
section UPPER
variable {B F : Nat} {h : Hp} {y : Nat} {Z : SS}
theorem cps_ev (ci : CI y Z h) (w : SWf Z) (hF : 4 < F) : f_X7_possibleSteps F h = some (nI (psn Z)) := by
  have W := w.1
  have hn := W.2.2.1
  unfold f_X7_possibleSteps
  refine fix_seq (fun k => (nI (sumN (fun i => pcn (wys (sY Z) (ct (sC Z)) (co (sC Z)) (cs (sC Z)) i)) k), nI k)) (yn (sY Z)) rfl (fun k hk self => ?_) (fun self => ?_) (by omega)
  · have b4 : wys (sY Z) (ct (sC Z)) (co (sC Z)) (cs (sC Z)) k < 16 := bt16 (bts_lt _ _) (by decide)
    simp only [ci.o, Ib, ci.n]
    rw [if_neg (nle_k (by omega) hk), cways_ev ci w hk hF, Ib, bitc_ev (by omega), Ib, nI_add, n_add1]
    rfl
  · simp only [ci.o, Ib, ci.n]
    rw [if_pos (rf_le (by omega))]
    rfl
theorem ccp_ev (ci : CI y Z h) (w : SWf Z) (hn0 : 0 < yn (sY Z)) (hF : 16 < F) : f_X7_commonPart F h = some (nI (Nat.gcd (psn Z) (4 * yn (sY Z)))) := by
  have W := w.1
  have hn := W.2.2.1
  have hp : psn Z ≤ 4 * yn (sY Z) := psn_le Z _
  have g0 : 0 < Nat.gcd (psn Z) (4 * yn (sY Z)) := Nat.gcd_pos_of_pos_right _ (by omega)
  have g1 := Nat.gcd_dvd_left (psn Z) (4 * yn (sY Z))
  have g2 := Nat.gcd_dvd_right (psn Z) (4 * yn (sY Z))
  have g3 : Nat.gcd (psn Z) (4 * yn (sY Z)) ≤ 4 * yn (sY Z) := Nat.le_of_dvd (by omega) g2
  unfold f_X7_commonPart
  simp only [nm]
  rw [ci.o, Ib, ci.n, lit_4, pk_mul, cps_ev ci w (by omega), Ib]
  refine fix_inv (fun k z => z = nI (4 * yn (sY Z) - k) ∧ Nat.gcd (psn Z) (4 * yn (sY Z)) ≤ 4 * yn (sY Z) - k) (4 * yn (sY Z) - 1) ⟨rfl, g3⟩ (by omega) ?_ ?_
  · rintro k z hk ⟨rfl, hz⟩ self hself
    have m1 : 4 * yn (sY Z) % (4 * yn (sY Z) - k) < 4 * yn (sY Z) - k := Nat.mod_lt _ (by omega)
    have m2 : psn Z % (4 * yn (sY Z) - k) < 4 * yn (sY Z) - k := Nat.mod_lt _ (by omega)
    rw [lit_1, i_le (by omega) (by decide), if_neg (by omega), rm_n (by omega) (by omega) (by omega), Ib, lit_0, i_eq (by omega) (by decide), rm_n (by omega) (by omega) (by omega), Ib, i_eq (by omega) (by decide)]
    have nxt : Nat.gcd (psn Z) (4 * yn (sY Z)) ≠ 4 * yn (sY Z) - k → self (nI (4 * yn (sY Z) - k) + -1) = some (nI (Nat.gcd (psn Z) (4 * yn (sY Z)))) := by
      intro hne
      refine hself _ ⟨?_, by omega⟩
      rw [zn, zn, z_m1, z_add]
      exact congrArg zI (by omega)
    by_cases q1 : 4 * yn (sY Z) % (4 * yn (sY Z) - k) = 0
    · rw [if_pos q1]
      by_cases q2 : psn Z % (4 * yn (sY Z) - k) = 0
      · rw [if_pos q2]
        have d := Nat.dvd_gcd (Nat.dvd_of_mod_eq_zero q2) (Nat.dvd_of_mod_eq_zero q1)
        have := Nat.le_of_dvd g0 d
        exact congrArg (fun x => some (nI x)) (by omega)
      · rw [if_neg q2]
        exact nxt (fun e => q2 (by rw [← e]; exact Nat.mod_eq_zero_of_dvd g1))
    · rw [if_neg q1]
      exact nxt (fun e => q1 (by rw [← e]; exact Nat.mod_eq_zero_of_dvd g2))
  · rintro z ⟨rfl, hz⟩ self
    rw [lit_1, i_le (by omega) (by decide), if_pos (by omega)]
    exact congrArg (fun x => some (nI x)) (by omega)
theorem mps_ev (mi : MI Z h) (w : SWf Z) (hF : 8 < F) : ∃ h', f_X8_stepsNow F h = some (nI (psn Z), h') ∧ Eo sSt h h' := by
  have W := w.1
  have hn := W.2.2.1
  unfold f_X8_stepsNow
  refine fix_post (fun r => ∃ h', r = some (nI (psn Z), h') ∧ Eo sSt h h') (fun (k : Nat) (z : Int32 × Int32 × Hp) => z.1 = nI (sumN (fun i => pcn (wys (sY Z) (ct (sC Z)) (co (sC Z)) (cs (sC Z)) i)) k) ∧ z.2.1 = nI k ∧ Eo sSt h z.2.2) (yn (sY Z)) ?_ (by omega) ?_ ?_
  · exact ⟨rfl, rfl, Eo.refl⟩
  · rintro k ⟨z1, z2, g⟩ hk ⟨rfl, rfl, eo⟩ self hself
    have b4 : wys (sY Z) (ct (sC Z)) (co (sC Z)) (cs (sC Z)) k < 16 := bt16 (bts_lt _ _) (by decide)
    have M := mi.ofS eo
    obtain ⟨g2, e1, e2⟩ := mways_ev M w hk (F := F) (by omega)
    simp only at eo ⊢
    rw [M.my.2.2.1, if_neg (nle_k (by omega) hk), e1, Ib, bits_ev (by omega) hF, Ib, nI_add, n_add1]
    exact hself _ ⟨rfl, rfl, eo.trans e2⟩
  · rintro ⟨z1, z2, g⟩ ⟨rfl, rfl, eo⟩ self
    simp only at eo ⊢
    rw [(mi.ofS eo).my.2.2.1, if_pos (rf_le (by omega))]
    exact ⟨g, rfl, eo⟩
theorem mcp_ev (mi : MI Z h) (w : SWf Z) (hF : 17 < F) : ∃ h', f_X8_common F h = some (nI (Nat.gcd (psn Z) (4 * yn (sY Z))), h') ∧ Eo sSt h h' := by
  have W := w.1
  have hn := W.2.2.1
  have hp : psn Z ≤ 4 * yn (sY Z) := psn_le Z _
  obtain ⟨h1, e1, e2⟩ := mps_ev mi w (F := F) (by omega)
  refine ⟨h1, ?_, e2⟩
  unfold f_X8_common
  simp only [nm]
  rw [e1, Ib, (mi.ofS e2).my.2.2.1, lit_4, pk_mul]
  refine fix_inv (fun k z => ∃ a b : Nat, z = (nI a, nI b) ∧ a ≤ 16 ∧ b ≤ 16 - k ∧ Nat.gcd a b = Nat.gcd (psn Z) (4 * yn (sY Z))) 16 ⟨psn Z, 4 * yn (sY Z), rfl, by omega, by omega, rfl⟩ (by omega) ?_ ?_
  · rintro k _ hk ⟨a, b, rfl, ha, hb, hg⟩ self hself
    simp only
    rw [lit_0, i_eq (by omega) (by decide)]
    by_cases q : b = 0
    · rw [if_pos q]
      rw [q, Nat.gcd_zero_right] at hg
      rw [hg]
    · have m1 : a % b < b := Nat.mod_lt _ (by omega)
      rw [if_neg q, rm_n (by omega) (by omega) (by omega), Ib]
      exact hself _ ⟨b, a % b, rfl, by omega, by omega, by rw [← hg, Nat.gcd_comm b, ← Nat.gcd_rec, Nat.gcd_comm]⟩
  · rintro _ ⟨a, b, rfl, ha, hb, hg⟩ self
    have q : b = 0 := by omega
    simp only
    rw [lit_0, i_eq (by omega) (by decide), if_pos q]
    rw [q, Nat.gcd_zero_right] at hg
    rw [hg]
def AlkL (P Q : Hp → Prop) (A : Hp → Option Int64) (M : Hp → Option (Int64 × Hp)) (h : Hp) : Prop := ∃ v h2, A h = some v ∧ M h = some (v, h2) ∧ Inv0 Q h2
theorem Inv0.ofS {h' : Hp} (I : Inv0 (PB B) h) (e : Eo sSt h h') : Inv0 (PB B) h' := by
  obtain ⟨y, Z, w, ci, mi, si⟩ := PB_oth.mp I.2.2.2
  have hy : y = 41 ∨ y = 49 := ci.1
  have r : gR h' = gR h := by show h'.2.1 = h.2.1; rw [e.2]
  refine inv_irr I (fun a k q => e.1 a k (fun z => by unfold sSt at z; rw [irr_iff] at q; omega)) (PB_oth.mpr ⟨y, Z, w, ci.keep (fun a k q => e.1 a k (fun z => by unfold cCy at q; unfold sSt at z; omega)) (by rw [r]) (by rw [r]) (by rw [r]), mi.ofS e, SI.keep si (fun a h1 h2 => funext fun k => e.1 a k (fun z => by unfold sSt at z; omega))⟩)
theorem alk_upper (I : Inv0 (PB B) h) (hF : 60 < F) : AlkL (PB B) (PB B) (f_X7_upper F) (f_X8_upper F) h := by
  obtain ⟨y, Z, w, ci, mi, si⟩ := PB_oth.mp I.2.2.2
  have W := w.1
  have hn := W.2.2.1
  by_cases q0 : yn (sY Z) = 0
  · refine ⟨0, h, ?_, ?_, I⟩
    · unfold f_X7_upper
      rw [ci.o, Ib, ci.n, q0, if_pos (by decide)]; rfl
    · unfold f_X8_upper
      rw [mi.my.2.2.1, q0, if_pos (by decide)]; rfl
  · have hp : psn Z ≤ 4 * yn (sY Z) := psn_le Z _
    have g0 : 0 < Nat.gcd (psn Z) (4 * yn (sY Z)) := Nat.gcd_pos_of_pos_right _ (by omega)
    have g3 : Nat.gcd (psn Z) (4 * yn (sY Z)) ≤ 4 * yn (sY Z) := Nat.le_of_dvd (by omega) (Nat.gcd_dvd_right _ _)
    obtain ⟨h1, e1, e2⟩ := mps_ev mi w (F := F) (by omega)
    obtain ⟨h2, e3, e4⟩ := mcp_ev (mi.ofS e2) w (F := F) (by omega)
    refine ⟨(nI (psn Z / Nat.gcd (psn Z) (4 * yn (sY Z)))).toInt64, h2, ?_, ?_, I.ofS (e2.trans e4)⟩
    · unfold f_X7_upper
      rw [ci.o, Ib, ci.n, if_neg (n_nz (by omega) (by omega)), cps_ev ci w (by omega), Ib, ccp_ev ci w (by omega) (by omega), Ib, dv_n (by omega) g0 (by omega)]; rfl
    · unfold f_X8_upper
      rw [mi.my.2.2.1, if_neg (n_nz (by omega) (by omega)), e1, Ib, e3, Ib, dv_n (by omega) g0 (by omega)]; rfl
theorem alk_lower (I : Inv0 (PB B) h) (hF : 60 < F) : AlkL (PB B) (PB B) (f_X7_lower F) (f_X8_lower F) h := by
  obtain ⟨y, Z, w, ci, mi, si⟩ := PB_oth.mp I.2.2.2
  have W := w.1
  have hn := W.2.2.1
  by_cases q0 : yn (sY Z) = 0
  · refine ⟨1, h, ?_, ?_, I⟩
    · unfold f_X7_lower
      rw [ci.o, Ib, ci.n, q0, if_pos (by decide)]; rfl
    · unfold f_X8_lower
      rw [mi.my.2.2.1, q0, if_pos (by decide)]; rfl
  · have g0 : 0 < Nat.gcd (psn Z) (4 * yn (sY Z)) := Nat.gcd_pos_of_pos_right _ (by omega)
    have g3 : Nat.gcd (psn Z) (4 * yn (sY Z)) ≤ 4 * yn (sY Z) := Nat.le_of_dvd (by omega) (Nat.gcd_dvd_right _ _)
    obtain ⟨h2, e3, e4⟩ := mcp_ev mi w (F := F) (by omega)
    refine ⟨(nI (4 * yn (sY Z) / Nat.gcd (psn Z) (4 * yn (sY Z)))).toInt64, h2, ?_, ?_, I.ofS e4⟩
    · unfold f_X7_lower
      rw [ci.o, Ib, ci.n, if_neg (n_nz (by omega) (by omega)), Ib, ccp_ev ci w (by omega) (by omega), Ib, ci.n, lit_4, pk_mul, dv_n (by omega) g0 (by omega)]; rfl
    · unfold f_X8_lower
      rw [mi.my.2.2.1, if_neg (n_nz (by omega) (by omega)), e3, Ib, lit_4, pk_mul, dv_n (by omega) g0 (by omega)]; rfl
end UPPER
