/-! comes -/
theorem flag_loop2 {ρ : Type} {F m : Nat} {c : Nat → Bool} {b : Bool} (K : Int32 → Option ρ) (bd : Int32) (T : Int32 → Option Int32) (hbd : bd = nI m) (hm : m < 100000) (hT : ∀ k, k < m → (b && alN k c) = true → T (nI k) = some (bz (c k))) (hF : m < F) : fix (fun (self : Int32 × Int32 → Option ρ) s => if bd ≤ s.2 then K s.1 else (Option.bind (if s.1 = 0 then some (0 : Int32) else T s.2) fun t => self (t, s.2 + 1))) F (bz b, 0) = K (bz (b && alN m c)) := by
  subst hbd
  refine fix_seq (fun k => (bz (b && alN k c), nI k)) m ?_ (fun k hk self => ?_) (fun self => ?_) hF
  · show (bz (b && true), nI 0) = _
    rw [Bool.and_true]; rfl
  · simp only
    rw [if_neg (nle_k (by omega) hk), i_bz0, n_add1, alN_s, ← Bool.and_assoc]
    by_cases q : (b && alN k c) = true
    · rw [if_pos q, hT k hk q, Ib, q, Bool.true_and]
    · rw [if_neg q, Ib, show (b && alN k c) = false by simpa using q, Bool.false_and]; rfl
  · simp only
    rw [if_pos (rf_le (by omega))]
/-- the stand of the cells c -/
def stdn (c : Nat → Nat) (n : Nat) : Nat := sumN (fun i => c i * wgt i) n
theorem stdn_ok {c : Nat → Nat} {n : Nat} (hn : n ≤ 4) (hc : ∀ i, i < n → c i < 12) : stdn c n < 20736 ∧ (∀ i, i < n → dg (stdn c n) i = c i) ∧ (∀ i, i < 4 → n ≤ i → dg (stdn c n) i = 0) := by
  have h0 := hc 0
  have h1 := hc 1
  have h2 := hc 2
  have h3 := hc 3
  rcases i5 hn with rfl | rfl | rfl | rfl | rfl <;> simp only [stdn, sumN, wg_0, wg_1, wg_2, wg_3] <;> refine ⟨by omega, fun i hi => ?_, fun i hi hi2 => ?_⟩ <;> first | omega | (rcases i4 (show i < 4 by omega) with rfl | rfl | rfl | rfl <;> unfold dg <;> simp only [wg_0, wg_1, wg_2, wg_3] <;> omega)
theorem stdn_SW {Y : YS} {c : Nat → Nat} (W : YW Y) (hc : ∀ i, i < yn Y → c i < ycl Y) (hd : ∀ i, i < yn Y → ∀ j, j < yn Y → i ≠ j → c i ≠ c j) : SW Y (stdn c (yn Y)) ∧ ∀ i, i < yn Y → dg (stdn c (yn Y)) i = c i := by
  have hcl := ycl_le W
  obtain ⟨a1, a2, a3⟩ := stdn_ok (c := c) W.2.2.1 (fun i hi => by have := hc i hi; omega)
  refine ⟨⟨a1, a3, fun i hi => ?_, fun i hi j hj hij => ?_⟩, a2⟩
  · rw [a2 i hi]; exact hc i hi
  · rw [a2 i hi, a2 j hj]; exact hd i hi j hj hij
def okS (Y : YS) (v : Nat → Int32) (k : Nat) : Prop := ∃ c, c < ycl Y ∧ v k = nI c ∧ (yb Y).testBit c = false ∧ ∀ j, j < k → v j ≠ v k
section SOUND
variable {y : Nat} {Z : SS} {h : Hp} {F r m : Nat}
theorem sfrom_ev {c : Nat → Nat} {p : Nat} (ci : CI y Z h) (W : YW (sY Z)) (hr : r < 6) (i2 : gI h 9 r = nI m) (hm : m ≤ 40) (hp : p + yn (sY Z) ≤ m) (hc : ∀ i, i < yn (sY Z) → gI h (3 + r) (p + i) = nI (c i)) (hF : 4 < F) : f_X7_standFrom F (nI r) (nI p) h = some (nI (stdn c (yn (sY Z)))) := by
  have hn := W.2.2.1
  unfold f_X7_standFrom
  refine fix_seq (fun k => (nI (stdn c k), nI k)) (yn (sY Z)) rfl (fun k hk self => ?_) (fun self => ?_) (by omega)
  · simp only [ci.o, Ib, ci.n]
    rw [if_neg (nle_k (by omega) hk), nI_add, get_in shf_rows hr i2 hm (by omega), hc k hk, Ib, wg_t (by omega), Ib, pk_mul, nI_add, n_add1]
    rfl
  · simp only [ci.o, Ib, ci.n]
    rw [if_pos (rf_le (by omega))]
theorem wall_ev {c : Nat} (ci : CI y Z h) (W : YW (sY Z)) (hc : c < 12) : f_X6_isWall y (nI c) h = some (bz ((yb (sY Z)).testBit c)) := by
  have hb := W.2.2.2.2.1
  unfold f_X6_isWall
  rw [ci.yc.2.2.2.1, i_tb1 (by omega) (by omega)]
  cases (yb (sY Z)).testBit c <;> rfl
theorem sound_no (ci : CI y Z h) (W : YW (sY Z)) (hr : r < 6) (i2 : gI h 9 r = nI (yn (sY Z))) (hno : ¬ ∀ k, k < yn (sY Z) → okS (sY Z) (gI h (3 + r)) k) (hF : 4 < F) : f_X7_soundStand F (nI r) h = some (-9) := by
  have hn := W.2.2.1
  have hcl := ycl_le W
  unfold f_X7_soundStand
  refine fix_inv (fun k z => z.2 = nI k ∧ (∀ j, j < k → okS (sY Z) (gI h (3 + r)) j) ∧ ∃ t, t < 4096 ∧ z.1 = nI t ∧ ∀ c, c < 12 → (t.testBit c = true ↔ ∃ j, j < k ∧ gI h (3 + r) j = nI c)) (yn (sY Z)) ⟨rfl, fun j hj => absurd hj (Nat.not_lt_zero j), 0, by decide, rfl, fun c hc => ⟨fun z => by simp at z, fun ⟨j, hj, _⟩ => absurd hj (Nat.not_lt_zero j)⟩⟩ (by omega) ?_ ?_
  · rintro k ⟨z1, z2⟩ hk ⟨rfl, hz, t, ht, rfl, hbit⟩ self hself
    simp only [ci.o, Ib, ci.n]
    rw [if_neg (nle_k (by omega) hk), get_in shf_rows hr i2 (by omega) hk, Ib]
    by_cases q1 : inR (gI h (3 + r) k) (ycl (sY Z))
    · obtain ⟨c, hc, hv⟩ := q1
      rw [ccell_y ci W ⟨c, hc, hv⟩, Ib, i10, hv, wall_ev ci W (by omega), Ib, i_bz0]
      by_cases q2 : (yb (sY Z)).testBit c = true
      · rw [if_pos q2]
      · have p12 : 2 ^ c < 4096 := pow_lt (n := 12) (by omega)
        rw [if_neg q2, i_tb1 (by omega) (by omega)]
        by_cases q3 : t.testBit c = true
        · rw [if_pos q3]
        · rw [if_neg q3]
          simp only [nm]
          rw [n_shl (by omega), n_or (by omega) (by omega), n_add1]
          refine hself _ ⟨rfl, fun j hj => ?_, t ||| 2 ^ c, or_lt (k := 12) ht p12, rfl, fun c' hc' => ?_⟩
          · by_cases e : j = k
            · subst e
              refine ⟨c, hc, hv, by simpa using q2, fun i hi z => ?_⟩
              exact q3 ((hbit c (by omega)).mpr ⟨i, hi, z.trans hv⟩)
            · exact hz j (by omega)
          · rw [tb_or, tb_pow, Bool.or_eq_true, decide_eq_true_eq, hbit c' hc']
            constructor
            · rintro (⟨j, h1, h2⟩ | rfl)
              · exact ⟨j, by omega, h2⟩
              · exact ⟨k, by omega, hv⟩
            · rintro ⟨j, h1, h2⟩
              by_cases e : j = k
              · subst e
                rw [hv, n_eq (by omega) (by omega)] at h2
                exact Or.inr h2
              · exact Or.inl ⟨j, by omega, h2⟩
    · rw [ccell_n ci W q1, Ib, i00]
  · rintro ⟨z1, z2⟩ ⟨rfl, hz, -⟩ self
    exact absurd hz hno
theorem sound_ok {c : Nat → Nat} (ci : CI y Z h) (w : SWf Z) (hr : r < 6) (i2 : gI h 9 r = nI (yn (sY Z))) (hc : ∀ k, k < yn (sY Z) → gI h (3 + r) k = nI (c k) ∧ c k < ycl (sY Z) ∧ (yb (sY Z)).testBit (c k) = false ∧ ∀ j, j < k → c j ≠ c k) (S : SW (sY Z) (stdn c (yn (sY Z)))) (hF : 4 < F) : f_X7_soundStand F (nI r) h = some (if trn (sY Z) (co (sC Z)) (stdn c (yn (sY Z))) = 0 then nI (stdn c (yn (sY Z))) else -9) := by
  have W := w.1
  have hn := W.2.2.1
  have hcl := ycl_le W
  have o16 := op16 W w.2.1.2.2.1
  unfold f_X7_soundStand
  refine fix_inv (fun k z => z.2 = nI k ∧ ∃ t, t < 4096 ∧ z.1 = nI t ∧ ∀ c', c' < 12 → (t.testBit c' = true ↔ ∃ j, j < k ∧ c j = c')) (yn (sY Z)) ⟨rfl, 0, by decide, rfl, fun c hc => ⟨fun z => by simp at z, fun ⟨j, hj, _⟩ => absurd hj (Nat.not_lt_zero j)⟩⟩ (by omega) ?_ ?_
  · rintro k ⟨z1, z2⟩ hk ⟨rfl, t, ht, rfl, hbit⟩ self hself
    obtain ⟨c1, c2, c3, c4⟩ := hc k hk
    have p12 : 2 ^ c k < 4096 := pow_lt (n := 12) (by omega)
    have nt : ¬ t.testBit (c k) = true := fun z => by
      obtain ⟨j, hj, hj2⟩ := (hbit (c k) (by omega)).mp z
      exact c4 j hj hj2
    simp only [ci.o, Ib, ci.n]
    rw [if_neg (nle_k (by omega) hk), get_in shf_rows hr i2 (by omega) hk, c1, Ib, ccell_y ci W ⟨c k, c2, rfl⟩, Ib, i10, wall_ev ci W (by omega), Ib, i_bz0, c3, if_neg (by decide), i_tb1 (by omega) (by omega), if_neg nt]
    simp only [nm]
    rw [n_shl (by omega), n_or (by omega) (by omega), n_add1]
    refine hself _ ⟨rfl, t ||| 2 ^ c k, or_lt (k := 12) ht p12, rfl, fun c' hc' => ?_⟩
    rw [tb_or, tb_pow, Bool.or_eq_true, decide_eq_true_eq, hbit c' hc']
    constructor
    · rintro (⟨j, h1, h2⟩ | e)
      · exact ⟨j, by omega, h2⟩
      · exact ⟨k, by omega, e⟩
    · rintro ⟨j, h1, h2⟩
      by_cases e : j = k
      · subst e; exact Or.inr h2
      · exact Or.inl ⟨j, by omega, h2⟩
  · rintro ⟨z1, z2⟩ ⟨rfl, -⟩ self
    simp only [ci.o, Ib, ci.n]
    rw [if_pos (rf_le (by omega)), lit_0, sfrom_ev (c := c) (p := 0) ci W hr i2 (by omega) (by omega) (fun i hi => by rw [Nat.zero_add]; exact (hc i hi).1) hF, Ib, ci.now.2.2.1, tooFar_ev ci.yc W ci.1 (by have := S.1; omega) o16 S.2.2.1 hF, Ib]
    have t16 := trn_lt W (co (sC Z)) (stdn c (yn (sY Z)))
    rw [i_eq (by omega) (by decide)]
    split <;> rfl
theorem istand_ev {v : Nat → Int32} (mi : MI Z h) (W : YW (sY Z)) (hr : r < 6) (hv : ∀ i, i < yn (sY Z) → gI h 69 (40 * r + i) = v i) (hF : 4 < F) : ∃ h2, Eo s82 h h2 ∧ (∀ i, i < yn (sY Z) → gI h2 82 i = v i) ∧ f_X8_isStand F (nI r) h = if alN (yn (sY Z)) (fun k => pB (okS (sY Z) v k)) = true then ((Option.bind (α := Int32) ((f_X8_allKept F h2).bind fun v6 => (if v6 = 0 then some (0 : Int32) else some (1 : Int32))) fun t4 => (ckZ t4).bind fun z => some (z, h2))) else some (0, h2) := by
  have hn := W.2.2.1
  have hcl := ycl_le W
  unfold f_X8_isStand
  refine fix_post (fun x => ∃ h2, Eo s82 h h2 ∧ (∀ i, i < yn (sY Z) → gI h2 82 i = v i) ∧ x = if alN (yn (sY Z)) (fun k => pB (okS (sY Z) v k)) = true then ((Option.bind (α := Int32) ((f_X8_allKept F h2).bind fun v6 => (if v6 = 0 then some (0 : Int32) else some (1 : Int32))) fun t4 => (ckZ t4).bind fun z => some (z, h2))) else some (0, h2)) (fun (k : Nat) (z : Int32 × Int32 × Hp) => z.1 = bz (alN k (fun k => pB (okS (sY Z) v k))) ∧ z.2.1 = nI k ∧ Eo s82 h z.2.2 ∧ ∀ i, i < k → gI z.2.2 82 i = v i) (yn (sY Z)) ?_ (by omega) ?_ ?_
  · exact ⟨rfl, rfl, Eo.refl, fun i hi => absurd hi (Nat.not_lt_zero i)⟩
  · rintro k ⟨z1, z2, g⟩ hk ⟨rfl, rfl, eo, hl⟩ self hself
    have M := (mi.of82 eo).my
    have hv2 : ∀ i, i < yn (sY Z) → f_X8_rowAt (nI r) (nI i) g = some (v i) := fun i hi => by rw [rowAt_n hr (by omega), eo.1 69 _ (by unfold s82; omega), hv i hi]
    simp only at eo hl ⊢
    rw [M.2.2.1, if_neg (nle_k (by omega) hk), hv2 k hk, Ib, i_bz0]
    have nxt : ∀ b : Bool, (alN k (fun k => pB (okS (sY Z) v k)) && pB (okS (sY Z) v k)) = b → ∃ h2, Eo s82 h h2 ∧ (∀ i, i < yn (sY Z) → gI h2 82 i = v i) ∧ self (bz b, nI k + 1, sI g 82 k (v k)) = if alN (yn (sY Z)) (fun k => pB (okS (sY Z) v k)) = true then ((Option.bind (α := Int32) ((f_X8_allKept F h2).bind fun v6 => (if v6 = 0 then some (0 : Int32) else some (1 : Int32))) fun t4 => (ckZ t4).bind fun z => some (z, h2))) else some (0, h2) := by
      intro b hb
      rw [n_add1]
      refine hself _ ⟨by rw [alN_s, hb], rfl, eo.sI rfl, fun i hi => ?_⟩
      show gI (sI g 82 k (v k)) 82 i = v i
      rw [gI_at]
      by_cases e : i = k
      · rw [if_pos e, e]
      · rw [if_neg e]; exact hl i (by omega)
    have inner : ∀ b : Bool, fix (fun (self21 : Int32 × Int32 → Option (Int32 × Hp)) (s20 : Int32 × Int32) => (if nI k ≤ s20.2 then ((stI g 82 (nI k) (v k)).bind fun h23 => self (s20.1, nI k + 1, h23)) else ((Option.bind (α := Int32) ((if s20.1 = 0 then some (0 : Int32) else ((f_X8_rowAt (nI r) s20.2 g).bind fun v26 => (if v26 = v k then some (0 : Int32) else some (1 : Int32))))) fun t24 => self21 (t24, (s20.2 + 1)))))) F (bz b, (0 : Int32)) = self (bz (b && alN k (fun j => !decide (v j = v k))), nI k + 1, sI g 82 k (v k)) := by
      intro b
      refine (flag_loop2 (c := fun j => !decide (v j = v k)) (fun x => (stI g 82 (nI k) (v k)).bind fun h23 => self (x, nI k + 1, h23)) _ (fun s => (f_X8_rowAt (nI r) s g).bind fun v26 => (if v26 = v k then some (0 : Int32) else some (1 : Int32))) rfl (by omega) (fun j hj _ => ?_) (by omega)).trans ?_
      · rw [hv2 j (by omega), Ib]
        by_cases q : v j = v k
        · rw [if_pos q, decide_eq_true q]; rfl
        · rw [if_neg q, decide_eq_false q]; rfl
      · rw [st_82 (by omega), Ib]
    by_cases q0 : alN k (fun k => pB (okS (sY Z) v k)) = true
    · rw [if_pos q0]
      by_cases q1 : inR (v k) (ycl (sY Z))
      · have q1' := q1
        obtain ⟨c, hc, hvc⟩ := q1'
        rw [mcell_y M W q1, Ib, i10, Ib, i10, hvc, ld_73 (by omega), Ib, M.2.2.2.2.1 c hc, i_bz0, ← hvc]
        by_cases q2 : (yb (sY Z)).testBit c = true
        · rw [if_pos q2, Ib]
          have := inner false
          simp only [Bool.false_and] at this
          rw [show bz false = 0 from rfl] at this
          rw [this]
          refine nxt false ?_
          rw [q0, Bool.true_and]
          refine pB_n ?_
          rintro ⟨c', a1, a2, a3, a4⟩
          rw [hvc, n_eq (by omega) (by omega)] at a2
          rw [← a2, q2] at a3
          cases a3
        · rw [if_neg q2, Ib]
          have := inner true
          rw [show bz true = 1 from rfl] at this
          rw [this]
          refine nxt _ ?_
          rw [q0, Bool.true_and, Bool.true_and]
          by_cases q3 : ∀ j, j < k → v j ≠ v k
          · rw [pB_y ⟨c, hc, hvc, by simpa using q2, q3⟩]
            symm
            rw [alN_t]
            exact fun j hj => by rw [decide_eq_false (q3 j hj)]; rfl
          · rw [pB_n (fun ⟨_, _, _, _, a4⟩ => q3 a4)]
            symm
            cases e : alN k (fun j => !decide (v j = v k)) with
            | false => rfl
            | true => exact absurd (fun j hj z => by have := alN_get e hj; rw [decide_eq_true z] at this; cases this) q3
      · rw [mcell_n M W q1, Ib, i00, Ib, i00, Ib]
        have := inner false
        simp only [Bool.false_and] at this
        rw [show bz false = 0 from rfl] at this
        rw [this]
        refine nxt false ?_
        rw [q0, Bool.true_and]
        exact pB_n (fun ⟨c', a1, a2, _⟩ => q1 ⟨c', a1, a2⟩)
    · rw [if_neg q0, Ib, i00, Ib]
      have := inner false
      simp only [Bool.false_and] at this
      rw [show bz false = 0 from rfl] at this
      rw [this]
      refine nxt false ?_
      rw [show alN k (fun k => pB (okS (sY Z) v k)) = false by simpa using q0, Bool.false_and]
  · rintro ⟨z1, z2, g⟩ ⟨rfl, rfl, eo, hl⟩ self
    have M := (mi.of82 eo).my
    simp only at eo hl ⊢
    refine ⟨g, eo, hl, ?_⟩
    rw [M.2.2.1, if_pos (rf_le (by omega)), i_bz0]
    by_cases q : alN (yn (sY Z)) (fun k => pB (okS (sY Z) v k)) = true
    · rw [if_pos q, if_pos q]
    · rw [if_neg q, if_neg q]; rfl
end SOUND
section COMES
variable {B F : Nat} {h : Hp}
theorem Inv0.of82 {h' : Hp} (I : Inv0 (PB B) h) (e : Eo s82 h h') : Inv0 (PB B) h' := by
  obtain ⟨y, Z, w, ci, mi, si⟩ := PB_oth.mp I.2.2.2
  have hy : y = 41 ∨ y = 49 := ci.1
  have r : gR h' = gR h := by show h'.2.1 = h.2.1; rw [e.2]
  refine inv_irr I (fun a k q => e.1 a k (fun z => by unfold s82 at z; rw [irr_iff] at q; omega)) (PB_oth.mpr ⟨y, Z, w, ci.keep (fun a k q => e.1 a k (fun z => by unfold cCy at q; unfold s82 at z; omega)) (by rw [r]) (by rw [r]) (by rw [r]), mi.of82 e, SI.keep si (fun a h1 h2 => funext fun k => e.1 a k (fun z => by unfold s82 at z; omega))⟩)
theorem alk_as2 {A M : Hp → Option (Int32 × Hp)} {f : Nat} (I : Inv0 (PB B) h) (hf : f < 6) (h1 : A h = f_X7_found (nI f) h) (h2 : ∀ h', (∀ a, 66 ≤ a → gI h' a = gI h a) → ∃ h2, Eo s82 h' h2 ∧ M h' = f_X8_meets (nI f) h2) : Alk (PB B) A M h := by
  obtain ⟨v, x, y, e1, e2, e3⟩ := alk_found I hf
  obtain ⟨x2, k1, k2⟩ := h2 x (fun a ha => by
    rw [found_n hf] at e1
    cases e1
    simp (disch := omega) only [gf_ne])
  rw [meets_n hf] at e2
  cases e2
  refine ⟨-3, x, sI (sI x2 66 0 (nI f)) 67 f (gI x2 67 f + 1), h1.trans e1, ?_, e3.of82 ⟨fun a k q => ?_, k1.2⟩⟩
  · rw [k2, meets_n hf]
  · rw [gI_sI, gI_sI, gI_sI, gI_sI, k1.1 67 f (by unfold s82; omega), k1.1 a k q]
theorem alk_comes {x z : Int32} (I : Inv0 (PB B) h) (hB : B < 2000000000) (hF : 20736 < F) : Alk2 (PB B) (PB (B + 1)) (f_X7_comes F x z) (f_X8_comes F x z) h := by
  obtain ⟨y, Z, w, ci, mi, si⟩ := PB_oth.mp I.2.2.2
  have W := w.1
  have hn := W.2.2.1
  have o16 := op16 W w.2.1.2.2.1
  have hmono : ∀ h, PB B h → PB (B + 1) h := fun _ q => q.mono (by omega)
  by_cases hx : inR x 6
  · obtain ⟨r, hr, rfl⟩ := hx
    by_cases hz : inR z 6
    · obtain ⟨r2, hr2, rfl⟩ := hz
      by_cases q0 : yn (sY Z) = 0
      · refine alk_two hmono I (v := -4) ?_ ?_
        · unfold f_X7_comes
          rw [knows_yes shf_rows hr, Ib, i10, knows_yes shf_rows hr2, Ib, i10, ci.o, Ib, ci.n, q0, if_pos (by decide)]
        · unfold f_X8_comes
          rw [isRow_yes hr, Ib, i10, isRow_yes hr2, Ib, i10, mi.my.2.2.1, q0, if_pos (by decide)]
      · obtain ⟨i1, i2, i3⟩ := I.1 r hr
        obtain ⟨j1, j2, j3⟩ := I.1 r2 hr2
        rcases i2 with i2 | ⟨m, hm, i2⟩
        · refine (alk_as I (f := 1) (by decide) ?_ (fun h' hh => ?_)).to hmono
          · unfold f_X7_comes
            simp only [jn]
            rw [knows_yes shf_rows hr, Ib, i10, knows_yes shf_rows hr2, Ib, i10, ci.o, Ib, ci.n, if_neg (n_nz (by omega) (by omega)), holds_yes shf_rows hr, i2, if_pos (show (-1 : Int32) < 0 by decide), Ib, i00, bindself]; rfl
          · unfold f_X8_comes
            simp only [jn]
            rw [isRow_yes hr, Ib, i10, isRow_yes hr2, Ib, i10, hh 66 (by decide), mi.my.2.2.1, if_neg (n_nz (by omega) (by omega)), ld_68 hr, Ib, hh 68 (by decide), ← i1, i2, if_pos (show (-1 : Int32) < 0 by decide), bindself]; rfl
        · rcases j2 with j2 | ⟨m2, hm2, j2⟩
          · refine (alk_as I (f := 1) (by decide) ?_ (fun h' hh => ?_)).to hmono
            · unfold f_X7_comes
              simp only [jn]
              rw [knows_yes shf_rows hr, Ib, i10, knows_yes shf_rows hr2, Ib, i10, ci.o, Ib, ci.n, if_neg (n_nz (by omega) (by omega)), holds_yes shf_rows hr, i2, if_neg (nI_pos (by omega)), Ib, i10, holds_yes shf_rows hr2, j2, if_pos (show (-1 : Int32) < 0 by decide), Ib, i00, bindself]; rfl
            · unfold f_X8_comes
              simp only [jn]
              rw [isRow_yes hr, Ib, i10, isRow_yes hr2, Ib, i10, hh 66 (by decide), mi.my.2.2.1, if_neg (n_nz (by omega) (by omega)), ld_68 hr, Ib, hh 68 (by decide), ← i1, i2, if_neg (nI_pos (by omega)), ld_68 hr2, Ib, hh 68 (by decide), ← j1, j2, if_neg m1_neg, bindself]; rfl
          · by_cases hs : m = yn (sY Z) ∧ m2 = yn (sY Z)
            · obtain ⟨rfl, hs2⟩ := hs
              subst hs2
              have cls : ∀ h', (∀ a k, 66 ≤ a → gI h' a k = gI h a k) → (∀ i, i < yn (sY Z) → gI h' 69 (40 * r + i) = gI h (3 + r) i) ∧ (∀ i, i < yn (sY Z) → gI h' 69 (40 * r2 + i) = gI h (3 + r2) i) := fun h' hh => ⟨fun i hi => by rw [hh 69 _ (by decide)]; exact (i3 i (by omega)).symm, fun i hi => by rw [hh 69 _ (by decide)]; exact (j3 i (by omega)).symm⟩
              have cOK : ∀ (v : Nat → Int32), (∀ k, k < yn (sY Z) → okS (sY Z) v k) → ∃ c : Nat → Nat, (∀ k, k < yn (sY Z) → v k = nI (c k) ∧ c k < ycl (sY Z) ∧ (yb (sY Z)).testBit (c k) = false ∧ ∀ j, j < k → c j ≠ c k) ∧ SW (sY Z) (stdn c (yn (sY Z))) ∧ ∀ i, i < yn (sY Z) → dg (stdn c (yn (sY Z))) i = c i := by
                intro v hv
                have hcl := ycl_le W
                have hcx : ∃ c : Nat → Nat, ∀ k, k < yn (sY Z) → v k = nI (c k) ∧ c k < ycl (sY Z) ∧ (yb (sY Z)).testBit (c k) = false := by
                  refine ⟨fun k => (v k).toNatClampNeg, fun k hk => ?_⟩
                  obtain ⟨c, a1, a2, a3, -⟩ := hv k hk
                  have : (v k).toNatClampNeg = c := by rw [a2]; exact nI_clamp (by omega)
                  simp only [this]
                  exact ⟨a2, a1, a3⟩
                obtain ⟨c, hc⟩ := hcx
                have hc4 : ∀ k, k < yn (sY Z) → ∀ j, j < k → c j ≠ c k := by
                  intro k hk j hj e
                  obtain ⟨_, _, _, _, a4⟩ := hv k hk
                  exact a4 j hj (by rw [(hc j (by omega)).1, (hc k hk).1, e])
                have hsw := stdn_SW (c := c) W (fun i hi => (hc i hi).2.1) (fun i hi j hj hij => by
                  rcases Nat.lt_or_gt_of_ne hij with q | q
                  · exact hc4 j hj i q
                  · exact fun e => hc4 i hi j q e.symm)
                exact ⟨c, fun k hk => ⟨(hc k hk).1, (hc k hk).2.1, (hc k hk).2.2, hc4 k hk⟩, hsw⟩
              have pre : ∀ X, f_X7_soundStand F (nI r) h = some X → ∀ X2, f_X7_soundStand F (nI r2) h = some X2 → f_X7_comes F (nI r) (nI r2) h = (if X = (-9 : Int32) then f_X7_found (nI 3) h else if X2 = (-9 : Int32) then f_X7_found (nI 3) h else (f_X3_begin F X h).bind fun h24 => fix (σ := Int32 × Hp) (ρ := (Int32 × Hp)) (fun self26 s25 => (if (11880 : Int32) ≤ s25.1 then (some ((0 : Int32), s25.2)) else ((f_X3_finds F s25.1 s25.2).bind fun v28 => (if v28.1 = 0 then (some ((0 : Int32), v28.2)) else ((f_X3_stand s25.1 v28.2).bind fun v29 => (if v29 = X2 then (some ((1 : Int32), v28.2)) else (self26 ((s25.1 + 1), v28.2)))))))) F ((0 : Int32), h24)) := by
                intro X hX X2 hX2
                unfold f_X7_comes
                simp only [jn]
                rw [knows_yes shf_rows hr, Ib, i10, knows_yes shf_rows hr2, Ib, i10, ci.o, Ib, ci.n, if_neg (n_nz (by omega) (by omega)), holds_yes shf_rows hr, i2, if_neg (nI_pos (by omega)), Ib, i10, holds_yes shf_rows hr2, j2, if_neg (nI_pos (by omega)), Ib, i10, size_yes shf_rows hr, i2, Ib, Ib, ci.n, if_pos rfl, size_yes shf_rows hr2, j2, Ib, Ib, ci.n, if_pos rfl, hX, Ib, hX2, Ib, bindself]
                rfl
              have prm : ∀ h', MI Z h' → (∀ a k, 66 ≤ a → gI h' a k = gI h a k) → f_X8_comes F (nI r) (nI r2) h' = ((f_X8_isStand F (nI r) h').bind fun v15 => if v15.1 = 0 then f_X8_meets (nI 3) v15.2 else ((f_X8_isStand F (nI r2) v15.2).bind fun v20 => if v20.1 = 0 then f_X8_meets (nI 3) v20.2 else ((f_X8_codeOf F v20.2).bind fun v21 => (f_X8_isStand F (nI r) v20.2).bind fun v22 => (f_X8_codeOf F v22.2).bind fun v23 => (f_X8_layStands F v23 v22.2).bind fun h24 => (ldI h24 93 v21).bind fun v25 => (Option.bind (α := Int32) ((if v25 = (-9 : Int32) then some (0 : Int32) else some (1 : Int32))) fun t26 => some (t26, h24))))) := by
                intro h' mi' hh
                unfold f_X8_comes
                simp only [jn, bindself]
                rw [isRow_yes hr, Ib, i10, isRow_yes hr2, Ib, i10, mi'.my.2.2.1, if_neg (n_nz (by omega) (by omega)), ld_68 hr, Ib, hh 68 r (by decide), ← i1, i2, if_neg (nI_pos (by omega)), ld_68 hr2, Ib, hh 68 r2 (by decide), ← j1, j2, if_pos (n_ge (by omega)), Ib, if_pos rfl, Ib, if_pos rfl]
                rfl
              by_cases hok : (∀ k, k < yn (sY Z) → okS (sY Z) (gI h (3 + r)) k)
              · obtain ⟨c, hc, S, hdg⟩ := cOK _ hok
                have hX := sound_ok (F := F) ci w hr i2 hc S (by omega)
                have ist : ∀ h', MI Z h' → (∀ i, i < yn (sY Z) → gI h' 69 (40 * r + i) = gI h (3 + r) i) → ∃ h2, Eo s82 h' h2 ∧ LK (sY Z) (stdn c (yn (sY Z))) h2 ∧ f_X8_isStand F (nI r) h' = some (bz (decide (trn (sY Z) (co (sC Z)) (stdn c (yn (sY Z))) = 0)), h2) := by
                  intro h' mi' hv
                  obtain ⟨h2, e1, e2, e3⟩ := istand_ev (F := F) mi' W hr hv (by omega)
                  have lk : LK (sY Z) (stdn c (yn (sY Z))) h2 := fun i hi => by rw [e2 i hi, (hc i hi).1, hdg i hi]
                  refine ⟨h2, e1, lk, ?_⟩
                  have M2 := mi'.of82 e1
                  rw [e3, if_pos (by rw [alN_t]; exact fun k hk => pB_y (hok k hk)), all_ev M2.my M2.mt W lk (by omega), Ib, i_bz0]
                  by_cases q : trn (sY Z) (co (sC Z)) (stdn c (yn (sY Z))) = 0
                  · rw [decide_eq_true q]; rfl
                  · rw [decide_eq_false q]; rfl
                by_cases ht : trn (sY Z) (co (sC Z)) (stdn c (yn (sY Z))) = 0
                · rw [if_pos ht] at hX
                  by_cases hok2 : (∀ k, k < yn (sY Z) → okS (sY Z) (gI h (3 + r2)) k)
                  · obtain ⟨c2, hc2, S2, hdg2⟩ := cOK _ hok2
                    have hX2 := sound_ok (F := F) ci w hr2 j2 hc2 S2 (by omega)
                    have ist2 : ∀ h', MI Z h' → (∀ i, i < yn (sY Z) → gI h' 69 (40 * r2 + i) = gI h (3 + r2) i) → ∃ h2, Eo s82 h' h2 ∧ LK (sY Z) (stdn c2 (yn (sY Z))) h2 ∧ f_X8_isStand F (nI r2) h' = some (bz (decide (trn (sY Z) (co (sC Z)) (stdn c2 (yn (sY Z))) = 0)), h2) := by
                      intro h' mi' hv
                      obtain ⟨h2, e1, e2, e3⟩ := istand_ev (F := F) mi' W hr2 hv (by omega)
                      have lk : LK (sY Z) (stdn c2 (yn (sY Z))) h2 := fun i hi => by rw [e2 i hi, (hc2 i hi).1, hdg2 i hi]
                      refine ⟨h2, e1, lk, ?_⟩
                      have M2 := mi'.of82 e1
                      rw [e3, if_pos (by rw [alN_t]; exact fun k hk => pB_y (hok2 k hk)), all_ev M2.my M2.mt W lk (by omega), Ib, i_bz0]
                      by_cases q : trn (sY Z) (co (sC Z)) (stdn c2 (yn (sY Z))) = 0
                      · rw [decide_eq_true q]; rfl
                      · rw [decide_eq_false q]; rfl
                    have S0 := S.1
                    have S20 := S2.1
                    by_cases ht2 : trn (sY Z) (co (sC Z)) (stdn c2 (yn (sY Z))) = 0
                    · rw [if_pos ht2] at hX2
                      have pre1 := pre _ hX _ hX2
                      rw [i_m9 (by omega), i_m9 (by omega)] at pre1
                      obtain ⟨h1, b1, G1, eo1⟩ := begin_ev si W S hB hF
                      rw [b1, Ib] at pre1
                      obtain ⟨bk, -, hlen⟩ := bfin_ok (t := ct (sC Z)) (op := co (sC Z)) W S
                      have cb : ∀ (p : Nat) (e : Ent) (g : Hp) (self : Int32 × Hp → Option (Int32 × Hp)), SG (sY Z) (ct (sC Z)) (co (sC Z)) (stdn c (yn (sY Z))) (B + 1) g → Eo sSe h1 g → LD p g → (bfin (sY Z) (ct (sC Z)) (co (sC Z)) (stdn c (yn (sY Z))))[p]? = some e → (fun (p : Int32) (g : Hp) (self : Int32 × Hp → Option (Int32 × Hp)) => (f_X3_stand p g).bind fun v29 => if v29 = nI (stdn c2 (yn (sY Z))) then some ((1 : Int32), g) else self (p + 1, g)) (nI p) g self = if (fun s => decide (s = stdn c2 (yn (sY Z)))) e.1 = true then (fun (_ : Nat) (g : Hp) => some ((1 : Int32), g)) p g else self (nI p + 1, g) := by
                        intro p e g self Gg eo hld he
                        have se := (bk.1 e (List.mem_of_getElem? he)).1
                        have := se.1
                        simp only
                        rw [stand_ev Gg W hld he, Ib, i_eq (by omega) (by omega)]
                        simp only [decide_eq_true_eq]
                      have cc1 : cod (yn (sY Z)) (stdn c2 (yn (sY Z))) < 20736 := Nat.lt_of_le_of_lt cod_le S2.1
                      have mod : ∀ h', MI Z h' → (∀ a k, 66 ≤ a → gI h' a k = gI h a k) → ∃ h24, Eo sML h' h24 ∧ ME (sY Z) (bfin (sY Z) (ct (sC Z)) (co (sC Z)) (stdn c (yn (sY Z)))) h24 ∧ f_X8_comes F (nI r) (nI r2) h' = (Option.bind (α := Int32) ((if gI h24 93 (cod (yn (sY Z)) (stdn c2 (yn (sY Z)))) = (-9 : Int32) then some (0 : Int32) else some (1 : Int32))) fun t26 => some (t26, h24)) := by
                        intro h' mi' hh
                        obtain ⟨v1, v2⟩ := cls h' hh
                        obtain ⟨k1, e1, l1, s1⟩ := ist h' mi' v1
                        obtain ⟨k2, e2, l2, s2⟩ := ist2 k1 (mi'.of82 e1) (fun i hi => by rw [e1.1 69 _ (by unfold s82; omega)]; exact v2 i hi)
                        have e12 := e1.trans e2
                        obtain ⟨k3, e3, l3, s3⟩ := ist k2 (mi'.of82 e12) (fun i hi => by rw [e12.1 69 _ (by unfold s82; omega)]; exact v1 i hi)
                        have e13 := e12.trans e3
                        have M3 := mi'.of82 e13
                        obtain ⟨k4, a1, a2, a3⟩ := layS_ev M3.my M3.mt W S w.2.1.2.1 hF
                        refine ⟨k4, (e13.mono fun a k q => Or.inl q).trans a3, a2, ?_⟩
                        rw [prm h' mi' hh, s1, Ib, decide_eq_true ht]
                        show (if bz true = 0 then _ else _) = _
                        rw [i_bz0, if_pos rfl, s2, Ib, decide_eq_true ht2]
                        show (if bz true = 0 then _ else _) = _
                        rw [i_bz0, if_pos rfl, code_ev (mi'.of82 e12).my W l2 S2.1 (by omega), Ib, s3, Ib, code_ev M3.my W l3 S.1 (by omega), Ib, a1, Ib, ld_93 cc1, Ib]
                      rcases first_or (fun s => decide (s = stdn c2 (yn (sY Z)))) (bfin (sY Z) (ct (sC Z)) (co (sC Z)) (stdn c (yn (sY Z)))) with ⟨p, e, he, hp, hno⟩ | hno
                      · obtain ⟨g, Gg, eog, hld, hfix⟩ := cscan_y (N := 0) (BODY := (fun (p : Int32) (g : Hp) (self : Int32 × Hp → Option (Int32 × Hp)) => (f_X3_stand p g).bind fun v29 => if v29 = nI (stdn c2 (yn (sY Z))) then some ((1 : Int32), g) else self (p + 1, g))) (RES := (fun (_ : Nat) (g : Hp) => some ((1 : Int32), g))) (P := fun s => decide (s = stdn c2 (yn (sY Z)))) (ci.ofSe eo1).cx W o16 G1 cb he hp hno (F := F) (by omega)
                        have e3 := eo1.trans eog
                        refine alk_coreR I mi ⟨1, g, pre1.trans hfix, Sm1.ofSe e3, y, Z, w, ci.ofSe e3, Gg.si W, fun h' mi' hh => ?_⟩
                        obtain ⟨k4, m1, m2, m3⟩ := mod h' mi' hh
                        refine ⟨k4, ?_, Sm2.ofML m1, mi'.ofML m1⟩
                        have hpe : e.1 = stdn c2 (yn (sY Z)) := by simpa using hp
                        have hf := (m2.2.1 p e he).2.1
                        have hdp := bk.dep p e he
                        have hpl := get_lt he
                        rw [hpe] at hf
                        rw [m3, hf, i_m9 (by omega)]; rfl
                      · obtain ⟨g, Gg, eog, hfix⟩ := cscan_n (N := 0) (BODY := (fun (p : Int32) (g : Hp) (self : Int32 × Hp → Option (Int32 × Hp)) => (f_X3_stand p g).bind fun v29 => if v29 = nI (stdn c2 (yn (sY Z))) then some ((1 : Int32), g) else self (p + 1, g))) (RES := (fun (_ : Nat) (g : Hp) => some ((1 : Int32), g))) (P := fun s => decide (s = stdn c2 (yn (sY Z)))) (ci.ofSe eo1).cx W o16 G1 cb hno (F := F) (by omega)
                        have e3 := eo1.trans eog
                        refine alk_coreR I mi ⟨0, g, pre1.trans hfix, Sm1.ofSe e3, y, Z, w, ci.ofSe e3, Gg.si W, fun h' mi' hh => ?_⟩
                        obtain ⟨k4, m1, m2, m3⟩ := mod h' mi' hh
                        refine ⟨k4, ?_, Sm2.ofML m1, mi'.ofML m1⟩
                        rcases m2.2.2 _ cc1 with q | ⟨e, q1, q2⟩
                        · rw [m3, q, if_pos rfl]; rfl
                        · obtain ⟨j, hj⟩ := List.mem_iff_getElem?.mp q1
                          have := hno j e hj
                          simp only [decide_eq_false_iff_not] at this
                          exact absurd (cod_inj W (bk.1 e q1).1 S2 q2) this
                    · rw [if_neg ht2] at hX2
                      refine (alk_as2 I (f := 3) (by decide) ?_ (fun h' hh => ?_)).to hmono
                      · rw [pre _ hX _ hX2, i_m9 (by omega), if_pos rfl]
                      · have mi' : MI Z h' := mi.keep fun a k q => by rw [hh a (by unfold cM at q; omega)]
                        have hh2 : ∀ a k, 66 ≤ a → gI h' a k = gI h a k := fun a k q => by rw [hh a q]
                        obtain ⟨v1, v2⟩ := cls h' hh2
                        obtain ⟨k1, e1, l1, s1⟩ := ist h' mi' v1
                        obtain ⟨k2, e2, l2, s2⟩ := ist2 k1 (mi'.of82 e1) (fun i hi => by rw [e1.1 69 _ (by unfold s82; omega)]; exact v2 i hi)
                        refine ⟨k2, e1.trans e2, ?_⟩
                        rw [prm h' mi' hh2, s1, Ib, decide_eq_true ht]
                        show (if bz true = 0 then _ else _) = _
                        rw [i_bz0, if_pos rfl, s2, Ib, decide_eq_false ht2]; rfl
                  · have hX2 := sound_no (F := F) ci W hr2 j2 hok2 (by omega)
                    have S0 := S.1
                    refine (alk_as2 I (f := 3) (by decide) ?_ (fun h' hh => ?_)).to hmono
                    · rw [pre _ hX _ hX2, i_m9 (by omega), if_pos rfl]
                    · have mi' : MI Z h' := mi.keep fun a k q => by rw [hh a (by unfold cM at q; omega)]
                      have hh2 : ∀ a k, 66 ≤ a → gI h' a k = gI h a k := fun a k q => by rw [hh a q]
                      obtain ⟨v1, v2⟩ := cls h' hh2
                      obtain ⟨k1, e1, l1, s1⟩ := ist h' mi' v1
                      obtain ⟨k2, e2, e3, e4⟩ := istand_ev (F := F) (v := gI h (3 + r2)) (mi'.of82 e1) W hr2 (fun i hi => by rw [e1.1 69 _ (by unfold s82; omega)]; exact v2 i hi) (by omega)
                      refine ⟨k2, e1.trans e2, ?_⟩
                      rw [prm h' mi' hh2, s1, Ib, decide_eq_true ht]
                      show (if bz true = 0 then _ else _) = _
                      rw [i_bz0, if_pos rfl, e4, if_neg (fun q => hok2 fun k hk => by rw [alN_t] at q; have := q k hk; rw [pB_t] at this; exact this)]; rfl
                · rw [if_neg ht] at hX
                  refine (alk_as2 I (f := 3) (by decide) ?_ (fun h' hh => ?_)).to hmono
                  · by_cases hok2 : (∀ k, k < yn (sY Z) → okS (sY Z) (gI h (3 + r2)) k)
                    · obtain ⟨c2, hc2, S2, hdg2⟩ := cOK _ hok2
                      rw [pre _ hX _ (sound_ok (F := F) ci w hr2 j2 hc2 S2 (by omega)), if_pos rfl]
                    · rw [pre _ hX _ (sound_no (F := F) ci W hr2 j2 hok2 (by omega)), if_pos rfl]
                  · have mi' : MI Z h' := mi.keep fun a k q => by rw [hh a (by unfold cM at q; omega)]
                    have hh2 : ∀ a k, 66 ≤ a → gI h' a k = gI h a k := fun a k q => by rw [hh a q]
                    obtain ⟨v1, v2⟩ := cls h' hh2
                    obtain ⟨k1, e1, l1, s1⟩ := ist h' mi' v1
                    refine ⟨k1, e1, ?_⟩
                    rw [prm h' mi' hh2, s1, Ib, decide_eq_false ht]; rfl
              · have hX := sound_no (F := F) ci W hr i2 hok (by omega)
                refine (alk_as2 I (f := 3) (by decide) ?_ (fun h' hh => ?_)).to hmono
                · by_cases hok2 : (∀ k, k < yn (sY Z) → okS (sY Z) (gI h (3 + r2)) k)
                  · obtain ⟨c2, hc2, S2, hdg2⟩ := cOK _ hok2
                    rw [pre _ hX _ (sound_ok (F := F) ci w hr2 j2 hc2 S2 (by omega)), if_pos rfl]
                  · rw [pre _ hX _ (sound_no (F := F) ci W hr2 j2 hok2 (by omega)), if_pos rfl]
                · have mi' : MI Z h' := mi.keep fun a k q => by rw [hh a (by unfold cM at q; omega)]
                  have hh2 : ∀ a k, 66 ≤ a → gI h' a k = gI h a k := fun a k q => by rw [hh a q]
                  obtain ⟨v1, v2⟩ := cls h' hh2
                  obtain ⟨k2, e2, e3, e4⟩ := istand_ev (F := F) (v := gI h (3 + r)) mi' W hr v1 (by omega)
                  refine ⟨k2, e2, ?_⟩
                  rw [prm h' mi' hh2, e4, if_neg (fun q => hok fun k hk => by rw [alN_t] at q; have := q k hk; rw [pB_t] at this; exact this)]; rfl
            · refine (alk_as I (f := 5) (by decide) ?_ (fun h' hh => ?_)).to hmono
              · unfold f_X7_comes
                simp only [jn]
                rw [knows_yes shf_rows hr, Ib, i10, knows_yes shf_rows hr2, Ib, i10, ci.o, Ib, ci.n, if_neg (n_nz (by omega) (by omega)), holds_yes shf_rows hr, i2, if_neg (nI_pos (by omega)), Ib, i10, holds_yes shf_rows hr2, j2, if_neg (nI_pos (by omega)), Ib, i10, size_yes shf_rows hr, i2, Ib, Ib, ci.n, i_eq (by omega) (by omega)]
                by_cases e1 : m = yn (sY Z)
                · rw [if_pos e1, size_yes shf_rows hr2, j2, Ib, Ib, ci.n, i_eq (by omega) (by omega), if_neg (fun z => hs ⟨e1, z⟩), bindself]; rfl
                · rw [if_neg e1, bindself]; rfl
              · unfold f_X8_comes
                simp only [jn]
                rw [isRow_yes hr, Ib, i10, isRow_yes hr2, Ib, i10, hh 66 (by decide), mi.my.2.2.1, if_neg (n_nz (by omega) (by omega)), ld_68 hr, Ib, hh 68 (by decide), ← i1, i2, if_neg (nI_pos (by omega)), ld_68 hr2, Ib, hh 68 (by decide), ← j1, j2, if_pos (n_ge (by omega)), Ib, i_eq (by omega) (by omega)]
                by_cases e1 : m = yn (sY Z)
                · rw [if_pos e1, Ib, i_eq (by omega) (by omega), if_neg (fun z => hs ⟨e1, z⟩), bindself]; rfl
                · rw [if_neg e1, bindself]; rfl
    · refine alk_two hmono I (v := -1) ?_ ?_
      · unfold f_X7_comes
        rw [knows_yes shf_rows hr, Ib, i10, knows_no shf_rows hz, Ib, i00]
      · unfold f_X8_comes
        rw [isRow_yes hr, Ib, i10, isRow_no hz, Ib, i00]
  · refine alk_two hmono I (v := -1) ?_ ?_
    · unfold f_X7_comes
      rw [knows_no shf_rows hx, Ib, i00]
    · unfold f_X8_comes
      rw [isRow_no hx, Ib, i00]
end COMES
