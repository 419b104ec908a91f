/-! the form and the chains, and the class's whole reading -/
def zvl (x : Int32) : Nat := x.toInt.toNat - 48
theorem zvl_ok {x : Int32} (h1 : ¬ x < 49) (h2 : x ≤ 57) : x - 48 = nI (zvl x) ∧ 1 ≤ zvl x ∧ zvl x ≤ 9 := by
  have h0 : ¬ x < 0 := fun q => h1 (by
    rw [Int32.lt_iff_toInt_lt] at q ⊢
    have : (49 : Int32).toInt = 49 := by decide
    rw [Int32.toInt_zero] at q
    omega)
  obtain ⟨j, hj, rfl⟩ := nI_of h0
  rw [lit_49, n_lt hj (by decide)] at h1
  rw [lit_57, n_le hj (by decide)] at h2
  unfold zvl
  rw [nI_toInt hj, lit_48, pk_sub (by omega)]
  exact ⟨congrArg nI (by omega), by omega, by omega⟩
/-- chains left, chain, place, lengths -/
def zcho (tx : Nat → Int32) (m : Nat) (S : RS) : Nat → Nat → Nat → (Nat → Nat) → (Nat × (Nat → Nat)) × Bool
  | 0, _, p, g => ((p, g), true)
  | e + 1, k, p, g => if m ≤ p ∨ tx p < 49 ∨ ¬ tx p ≤ 57 then ((p, g), false) else if rchb (zvl (tx p)) (zrk S k) (zrk S (sec (zrn S) k)) < dst (zrw S) (zrq S k) (zrq S (sec (zrn S) k)) then ((p, g), false) else zcho tx m S e (k + 1) (p + 1) (fun i => if i = k then zvl (tx p) else g i)
theorem zcho_p {tx : Nat → Int32} {m : Nat} {S : RS} : ∀ (e k p : Nat) (g : Nat → Nat), p ≤ m → (zcho tx m S e k p g).1.1 ≤ m
  | 0, _, p, g, h => h
  | e + 1, k, p, g, h => by
    unfold zcho
    split
    · exact h
    · rename_i u
      split
      · exact h
      · exact zcho_p e (k + 1) (p + 1) _ (by omega)
theorem zcho_g {tx : Nat → Int32} {m : Nat} {S : RS} : ∀ (e k p : Nat) (g : Nat → Nat), (∀ i, i < k → 1 ≤ g i ∧ g i ≤ 9) → (zcho tx m S e k p g).2 = true → ∀ i, i < k + e → 1 ≤ (zcho tx m S e k p g).1.2 i ∧ (zcho tx m S e k p g).1.2 i ≤ 9
  | 0, k, p, g, h, _ => fun i hi => h i hi
  | e + 1, k, p, g, h, h2 => by
    unfold zcho at h2 ⊢
    by_cases u : m ≤ p ∨ tx p < 49 ∨ ¬ tx p ≤ 57
    · rw [if_pos u] at h2; cases h2
    · rw [if_neg u] at h2 ⊢
      by_cases v : rchb (zvl (tx p)) (zrk S k) (zrk S (sec (zrn S) k)) < dst (zrw S) (zrq S k) (zrq S (sec (zrn S) k))
      · rw [if_pos v] at h2; cases h2
      · rw [if_neg v] at h2 ⊢
        have u2 : ¬ tx p < 49 := fun q => u (Or.inr (Or.inl q))
        have u3 : tx p ≤ 57 := Classical.byContradiction fun q => u (Or.inr (Or.inr q))
        have z := zvl_ok u2 u3
        intro i hi
        exact zcho_g e (k + 1) (p + 1) _ (fun i hi => by
          show 1 ≤ (if i = k then _ else _) ∧ (if i = k then _ else _) ≤ 9
          by_cases w : i = k
          · rw [if_pos w]; exact z.2
          · rw [if_neg w]; exact h i (by omega)) h2 i (by omega)
section ZCHN
variable {d r m F : Nat} {tx : Nat → Int32} {h h' : Hp} {S : RS} {Y : YS}
def dlk (k : Nat) : Int32 := if nI k = 1 then 1 else if nI k = 5 then -1 else 0
theorem give_ev {k v : Nat} (hd : IsY d) (H4 : gI h d 4 = nI (yn Y)) (hn : yn Y ≤ 4) (hk : k < yn Y) (hv : v < 10) (HK : ∀ i, i < yn Y → gI h (d + 1) i = nI (yk Y i)) (h6 : ∀ i, i < yn Y → yk Y i < 6) (hF : 40 < F) : f_X6_giveLength F d (nI k) (nI v) h = some (sI (sI h (d + 3) k (nI v)) (d + 4) k (nI (rchb v (yk Y k) (yk Y (sec (yn Y) k))))) := by
  have hs : sec (yn Y) k < yn Y := sec_lt (by omega)
  have e : mxI (nI v + dlk (yk Y k) + dlk (yk Y (sec (yn Y) k))) 1 = nI (rchb v (yk Y k) (yk Y (sec (yn Y) k))) := (show ∀ v, v < 10 → ∀ a, a < 6 → ∀ b, b < 6 → mxI (nI v + dlk a + dlk b) 1 = nI (rchb v a b) by decide +kernel) v hv _ (h6 k hk) _ (h6 _ hs)
  have one : ∀ {ρ : Type} {x : Nat} {f : Int32 → Option ρ}, (Option.bind (α := Int32) (if nI x = (1 : Int32) then some (1 : Int32) else (if nI x = (5 : Int32) then some (-1 : Int32) else some (0 : Int32))) f) = f (dlk x) := by
    intro ρ x f
    unfold dlk
    split
    · rfl
    · split <;> rfl
  unfold f_X6_giveLength
  refine fix_seq (fun j => (if j = 0 then nI v else if j = 1 then nI v + dlk (yk Y k) else nI v + dlk (yk Y k) + dlk (yk Y (sec (yn Y) k)), nI j)) 2 rfl (fun j hj self => ?_) (fun self => ?_) (by omega)
  · rcases (show j = 0 ∨ j = 1 by omega) with rfl | rfl
    · rw [if_neg (show ¬ (2 : Int32) ≤ nI 0 by decide), if_pos (show nI 0 = 0 from rfl), Ib, y_rf7 hd, y_ld1 hd (by omega), Ib, HK k hk, one]
      rfl
    · rw [if_neg (show ¬ (2 : Int32) ≤ nI 1 by decide), if_neg (show ¬ nI 1 = 0 by decide), sec_ev H4 hn (by omega), Ib, Ib, y_rf7 hd, y_ld1 hd (by omega), Ib, HK _ hs, one]
      rfl
  · rw [if_pos (show (2 : Int32) ≤ nI 2 by decide), y_rf9 hd, st_n (y_s3 hd) (by omega) (by decide), Ib, y_rf10 hd]
    show (stI _ (d + 4) (nI k) (mxI (nI v + dlk (yk Y k) + dlk (yk Y (sec (yn Y) k))) 1)).bind _ = _
    rw [e, st_n (y_s4 hd) (by omega) (by decide)]
    rfl
theorem distb_ev {a b : Nat} (hd : IsY d) (L : ∀ a, a < ycl Y → ∀ b, b < ycl Y → gI h (d + 5) (a * 12 + b) = nI (dst (yw Y) a b)) (c12 : ycl Y ≤ 12) (ha : a < ycl Y) (hb : b < ycl Y) : f_X6_distance d (nI a) (nI b) h = some (nI (dst (yw Y) a b)) := by
  unfold f_X6_distance
  rw [if_neg (nI_pos (by omega)), if_neg (nI_pos (by omega)), if_neg (by rw [lit_12, n_le (by omega) (by omega)]; omega), if_pos (by rw [lit_12, n_lt (by omega) (by omega)]; omega), y_rf11 hd, lit_12, pk_mul, nI_add, y_ld5 hd (by omega), L a ha b hb]
  rfl
def sCh (d a k : Nat) : Prop := a = 17 ∧ k = 3 ∨ a = d + 3 ∨ a = d + 4
theorem chains_ev {p c : Nat} (X : RX d r m tx h) (W : ZF S) (D : ZD d S h) (hcl : zrc S = 0) (H5 : gI h d 5 = nI c) (hc : ∀ k, k < c → k < zrn S) (L : ∀ a, a < zrw S * zrl S → ∀ b, b < zrw S * zrl S → gI h (d + 5) (a * 12 + b) = nI (dst (zrw S) a b)) (hp : gI h 17 3 = nI p) (hm : p ≤ m) (hF : 40 < F) : ∃ h', f_X1_readChains F h = some (bz (zcho tx m S c 0 p (fun _ => 0)).2, h') ∧ Eo (sCh d) h h' ∧ gI h' 17 3 = nI (zcho tx m S c 0 p (fun _ => 0)).1.1 ∧ ((zcho tx m S c 0 p (fun _ => 0)).2 = true → ∀ k, k < c → gI h' (d + 3) k = nI ((zcho tx m S c 0 p (fun _ => 0)).1.2 k) ∧ gI h' (d + 4) k = nI (rchb ((zcho tx m S c 0 p (fun _ => 0)).1.2 k) (zrk S k) (zrk S (sec (zrn S) k)))) := by
  have m40 := X.le
  have hd : d = 41 ∨ d = 49 := X.1
  obtain ⟨w1, w2, w3, w4, w5, w6, w7, w8, w9, w10⟩ := W
  have c12 : zrw S * zrl S ≤ 12 := Nat.mul_le_mul w4 w2
  have c4 : c ≤ 4 := by
    rcases Nat.lt_or_ge 4 c with q | q
    · have := hc 4 q; omega
    · exact q
  unfold f_X1_readChains
  generalize hR : zcho tx m S c 0 p (fun _ => 0) = R
  refine fix_post (fun o => ∃ h', o = some (bz R.2, h') ∧ Eo (sCh d) h h' ∧ gI h' 17 3 = nI R.1.1 ∧ (R.2 = true → ∀ k, k < c → gI h' (d + 3) k = nI (R.1.2 k) ∧ gI h' (d + 4) k = nI (rchb (R.1.2 k) (zrk S k) (zrk S (sec (zrn S) k))))) (fun (k : Nat) (z : Int32 × Hp) => z.1 = nI k ∧ Eo (sCh d) h z.2 ∧ ∃ q g, q ≤ m ∧ gI z.2 17 3 = nI q ∧ zcho tx m S (c - k) k q g = R ∧ ∀ i, i < k → gI z.2 (d + 3) i = nI (g i) ∧ gI z.2 (d + 4) i = nI (rchb (g i) (zrk S i) (zrk S (sec (zrn S) i)))) c ?_ (by omega) ?_ ?_
  · exact ⟨rfl, Eo.refl, p, fun _ => 0, hm, hp, hR, fun i hi => absurd hi (Nat.not_lt_zero i)⟩
  · rintro k ⟨x, z⟩ hk ⟨e1, eo, q, g, hq, e3, er, eg⟩ self hself
    have e1' : x = nI k := e1
    subst e1'
    have eo : Eo (sCh d) h z := eo
    have e3 : gI z 17 3 = nI q := e3
    have eg : ∀ i, i < k → gI z (d + 3) i = nI (g i) ∧ gI z (d + 4) i = nI (rchb (g i) (zrk S i) (zrk S (sec (zrn S) i))) := eg
    have X' := X.keep (eo.mono fun a k q => by unfold sCh at q; unfold sRd; omega)
    have kd : ∀ a j, ¬ sCh d a j → gI z a j = gI h a j := eo.1
    have k5 : gI z d 5 = nI c := by rw [kd _ _ (by unfold sCh; omega)]; exact H5
    have k4 : gI z d 4 = nI (zrn S) := by rw [kd _ _ (by unfold sCh; omega)]; exact D.2.2.2.2.1
    have hkn := hc k hk
    have hs : sec (zrn S) k < zrn S := sec_lt (by omega)
    have er0 := er
    rw [show c - k = (c - (k + 1)) + 1 by omega, zcho] at er
    have bad : ((q, g), false) = R → ∀ u : Hp, Eo (fun a k => a = d + 3 ∨ a = d + 4) z u → ∃ h', (some ((0 : Int32), u)) = some (bz R.2, h') ∧ Eo (sCh d) h h' ∧ gI h' 17 3 = nI R.1.1 ∧ (R.2 = true → ∀ k, k < c → gI h' (d + 3) k = nI (R.1.2 k) ∧ gI h' (d + 4) k = nI (rchb (R.1.2 k) (zrk S k) (zrk S (sec (zrn S) k)))) := by
      rintro rfl u eu
      exact ⟨u, rfl, eo.trans (eu.mono fun a k q => Or.inr q), by rw [eu.1 17 3 (by omega)]; exact e3, fun q => by cases q⟩
    simp only [nm]
    rw [X'.o, Ib, k5, if_neg (nle_k (by omega) hk), X'.sz, e3]
    by_cases u1 : m ≤ q
    · rw [if_pos (Or.inl u1)] at er
      rw [if_pos (by rw [n_le (by omega) (by omega)]; exact u1)]
      exact bad er z Eo.refl
    · rw [if_neg (by rw [n_le (by omega) (by omega)]; exact u1), X'.sign e3 (by omega), Ib]
      by_cases u2 : tx q < 49
      · rw [if_pos (Or.inr (Or.inl u2))] at er
        rw [if_pos u2]
        exact bad er z Eo.refl
      · rw [if_neg u2, Ib]
        by_cases u3 : tx q ≤ 57
        · have er1 := er
          rw [if_neg (by rintro (a | a | a); exact u1 a; exact u2 a; exact a u3)] at er
          obtain ⟨v1, v2, v3⟩ := zvl_ok u2 u3
          have gv := give_ev (F := F) (Y := zY S true g) (h := z) (k := k) (v := zvl (tx q)) X.1 k4 w5 hkn (by omega) (fun i hi => by rw [kd _ _ (by unfold sCh; omega)]; exact D.2.2.2.2.2.1 i hi) w10 (by omega)
          have gv : f_X6_giveLength F d (nI k) (nI (zvl (tx q))) z = some (sI (sI z (d + 3) k (nI (zvl (tx q)))) (d + 4) k (nI (rchb (zvl (tx q)) (zrk S k) (zrk S (sec (zrn S) k))))) := gv
          rw [if_pos u3, Ib, Ib, v1, gv, Ib]
          generalize hu : sI (sI z (d + 3) k (nI (zvl (tx q)))) (d + 4) k (nI (rchb (zvl (tx q)) (zrk S k) (zrk S (sec (zrn S) k)))) = u
          have eu : Eo (fun a k => a = d + 3 ∨ a = d + 4) z u := by
            rw [← hu]
            exact (Eo.refl.sI (Or.inl rfl)).sI (Or.inr rfl)
          have euh : Eo (sCh d) h u := eo.trans (eu.mono fun a k q => Or.inr q)
          have Xu := X.keep (euh.mono fun a k q => by unfold sCh at q; unfold sRd; omega)
          have kp : f_X6_keepsAtFirst d (nI k) u = some (bz (!decide (rchb (zvl (tx q)) (zrk S k) (zrk S (sec (zrn S) k)) < dst (zrw S) (zrq S k) (zrq S (sec (zrn S) k))))) := by
            unfold f_X6_keepsAtFirst
            have st : ∀ i, i < zrn S → gI u (d + 2) i = nI (zrq S i) := fun i hi => by rw [euh.1 _ _ (by unfold sCh; omega)]; exact D.2.2.2.2.2.2 i hi
            have u4 : gI u d 4 = nI (yn (zY S true g)) := by rw [euh.1 _ _ (by unfold sCh; omega)]; exact D.2.2.2.2.1
            have dd := distb_ev (Y := zY S true g) (h := u) X.1 (fun a ha b hb => by rw [euh.1 _ _ (by unfold sCh; omega)]; exact L a ha b hb) c12 (w8 k hkn) (w8 _ hs)
            have dd : f_X6_distance d (nI (zrq S k)) (nI (zrq S (sec (zrn S) k))) u = some (nI (dst (zrw S) (zrq S k) (zrq S (sec (zrn S) k)))) := dd
            have rr : gI u (d + 4) k = nI (rchb (zvl (tx q)) (zrk S k) (zrk S (sec (zrn S) k))) := by rw [← hu, gI_eq]
            have sv := sec_ev (Y := zY S true g) u4 w5 (show k < 4 by omega)
            have sv : f_X6_secondEnd d (nI k) u = some (nI (sec (zrn S) k)) := sv
            have b1 : rchb (zvl (tx q)) (zrk S k) (zrk S (sec (zrn S) k)) < 20 := by
              unfold rchb
              split <;> split <;> split <;> split <;> omega
            have b2 := dst_lt (w := zrw S) (show zrq S k < 12 by have := w8 k hkn; omega) (show zrq S (sec (zrn S) k) < 12 by have := w8 _ hs; omega)
            rw [y_rf8 X.1, y_ld2 X.1 (by omega), Ib, st k hkn, sv, Ib, y_ld2 X.1 (by omega), Ib, st _ hs, dd, Ib, y_rf10 X.1, y_ld4 X.1 (by omega), Ib, rr, i_lt (by omega) (by omega)]
            by_cases v : rchb (zvl (tx q)) (zrk S k) (zrk S (sec (zrn S) k)) < dst (zrw S) (zrq S k) (zrq S (sec (zrn S) k))
            · rw [if_pos v, decide_eq_true v]; rfl
            · rw [if_neg v, decide_eq_false v]; rfl
          rw [Xu.o, Ib, kp, Ib]
          by_cases v : rchb (zvl (tx q)) (zrk S k) (zrk S (sec (zrn S) k)) < dst (zrw S) (zrq S k) (zrq S (sec (zrn S) k))
          · rw [if_pos v] at er
            rw [decide_eq_true v, if_pos (by decide)]
            exact bad er u eu
          · rw [if_neg v] at er
            rw [decide_eq_false v, if_neg (by decide), n_add1]
            refine hself _ ⟨rfl, euh.sI (Or.inl ⟨rfl, rfl⟩), q + 1, _, by omega, ?_, er, fun i hi => ?_⟩
            · show gI (sI u 17 3 (gI u 17 3 + 1)) 17 3 = _
              rw [gI_eq, eu.1 17 3 (by omega), e3, n_add1]
            · show gI (sI u 17 3 (gI u 17 3 + 1)) (d + 3) i = nI (if i = k then _ else _) ∧ gI (sI u 17 3 (gI u 17 3 + 1)) (d + 4) i = nI (rchb (if i = k then _ else _) _ _)
              rw [gI_ne (by omega), gI_ne (by omega), ← hu, gI_ne (by omega), gI_at, gI_at]
              by_cases w : i = k
              · rw [if_pos w, if_pos w, if_pos w, w]
                exact ⟨rfl, rfl⟩
              · rw [if_neg w, if_neg w, if_neg w, gI_ne (by omega)]
                exact eg i (by omega)
        · rw [if_pos (Or.inr (Or.inr u3))] at er
          rw [if_neg u3]
          exact bad er z Eo.refl
  · rintro ⟨x, z⟩ ⟨e1, eo, q, g, hq, e3, er, eg⟩ self
    have e1' : x = nI c := e1
    subst e1'
    have eo : Eo (sCh d) h z := eo
    have X' := X.keep (eo.mono fun a k q => by unfold sCh at q; unfold sRd; omega)
    have k5 : gI z d 5 = nI c := by rw [eo.1 _ _ (by unfold sCh; omega)]; exact H5
    simp only [nm]
    rw [X'.o, Ib, k5, if_pos (rf_le (by omega))]
    rw [show c - c = 0 by omega] at er
    subst er
    exact ⟨z, rfl, eo, e3, fun _ => eg⟩
/-- the form: wall or ring -/
theorem form_no {p : Nat} (X : RX d r m tx h) (hp : gI h 17 3 = nI p) (hm : p ≤ m) (hq : m ≤ p ∨ (tx p ≠ 119 ∧ tx p ≠ 114)) : f_X1_readForm F h = some (0, h) := by
  have m40 := X.le
  unfold f_X1_readForm
  simp only [nm, jn]
  rw [X.sz, hp]
  by_cases u : m ≤ p
  · rw [if_pos (by rw [n_le (by omega) (by omega)]; exact u)]; rfl
  · have h2 : tx p ≠ 119 ∧ tx p ≠ 114 := by
      rcases hq with q | q
      · exact absurd q u
      · exact q
    rw [if_neg (by rw [n_le (by omega) (by omega)]; exact u), X.sign hp (by omega), Ib, if_neg h2.1, Ib, if_neg h2.2]; rfl
theorem form_ok {p : Nat} {g : Nat → Nat} (X : RX d r m tx h) (W : ZF S) (D : ZD d S h) (hcl : zrc S = 0) (hp : gI h 17 3 = nI p) (hm : p < m) (hq : tx p = 119 ∨ tx p = 114) (hF : 40 < F) : ∃ h', f_X1_readForm F h = some (1, h') ∧ Eo (fun a k => a = 17 ∧ k = 3 ∨ a = d ∧ k = 6 ∨ sLy d a k) h h' ∧ gI h' 17 3 = nI (p + 1) ∧ gI h' d 6 = bz (decide (tx p = 114)) ∧ ZL d (zY S (decide (tx p = 114)) g) h' := by
  have m40 := X.le
  have hd : d = 41 ∨ d = 49 := X.1
  obtain ⟨w1, w2, w3, w4, w5, w6, w7, w8, w9, w10⟩ := W
  have c12 : zrw S * zrl S ≤ 12 := Nat.mul_le_mul w4 w2
  have b12 : zrb S < 4096 := Nat.lt_of_lt_of_le w7 (Nat.pow_le_pow_right (n := 2) (by decide) c12)
  have e7 : (Option.bind (α := Int32) (if tx p = (114 : Int32) then some (1 : Int32) else some (0 : Int32)) fun t7 => ckZ t7) = some (bz (decide (tx p = 114))) := by
    by_cases u : tx p = 114
    · rw [if_pos u, decide_eq_true u]; rfl
    · rw [if_neg u, decide_eq_false u]; rfl
  have e8 : ∀ {ρ : Type} {f : Int32 → Option ρ}, (Option.bind (α := Int32) (if tx p = (114 : Int32) then some (1 : Int32) else some (0 : Int32)) fun t7 => (ckZ t7).bind f) = f (bz (decide (tx p = 114))) := by
    intro ρ f
    by_cases u : tx p = 114
    · rw [if_pos u, decide_eq_true u]; rfl
    · rw [if_neg u, decide_eq_false u]; rfl
  generalize hh1 : sI h d 6 (bz (decide (tx p = 114))) = h1
  have o1 : Eo (fun a k => a = d ∧ k = 6) h h1 := by
    rw [← hh1]; exact Eo.refl.sI ⟨rfl, rfl⟩
  have X1 := X.keep (o1.mono fun a k q => Or.inr (by omega))
  obtain ⟨h2, e2, o2, l2⟩ := lay_ev (F := F) (Y := zY S (decide (tx p = 114)) g) (h := h1) X.1 (by rw [o1.1 _ _ (by omega)]; exact D.1) (by rw [o1.1 _ _ (by omega)]; exact D.2.1) (by rw [o1.1 _ _ (by omega), D.2.2.1]; unfold zcl; rw [hcl]; rfl) (by rw [o1.1 _ _ (by omega)]; exact D.2.2.2.1) (by rw [o1.1 _ _ (by omega)]; exact D.2.2.2.2.1) (by rw [← hh1, gI_eq]; rfl) w3 w4 w2 w5 b12 hF
  refine ⟨sI h2 17 3 (gI h2 17 3 + 1), ?_, ?_, ?_, ?_, ?_⟩
  · unfold f_X1_readForm
    simp only [nm, jn]
    rw [X.sz, hp, if_neg (nle_k (by omega) hm), X.sign hp hm, Ib, X.o, Ib, Ib, Ib, e8, hh1, X1.o, Ib, e2, Ib]
    rcases hq with q | q
    · rw [if_pos q]; rfl
    · rw [if_neg (by rw [q]; decide), if_pos q]; rfl
  · exact ((o1.mono fun a k q => Or.inr (Or.inl q)).trans (o2.mono fun a k q => Or.inr (Or.inr q))).sI (Or.inl ⟨rfl, rfl⟩)
  · rw [gI_eq, o2.1 _ _ (by unfold sLy; omega), o1.1 _ _ (by omega), hp, n_add1]
  · rw [gI_ne (by omega), o2.1 _ _ (by unfold sLy; omega), ← hh1, gI_eq]
  · obtain ⟨l1, l3, l4, l5⟩ := l2
    refine ⟨?_, fun a ha b hb => ?_, fun a ha b hb => ?_, fun a ha b hb => ?_⟩
    · rw [gI_ne (by omega)]; exact l1
    · rw [gI_ne (by omega)]; exact l3 a ha b hb
    · rw [gI_ne (by omega)]; exact l4 a ha b hb
    · rw [gI_ne (by omega)]; exact l5 a ha b hb
end ZCHN
