/-! digest -/
def hf (f : Nat → Int64) (a : Int64) : Nat → Int64
  | 0 => a
  | k + 1 => 31 * hf f a k + f k
def hrw (sz : Nat → Int32) (v : Nat → Nat → Int32) (a : Int64) : Nat → Int64
  | 0 => a
  | r + 1 => hf (fun i => (v r i).toInt64) (31 * hrw sz v a r + (sz r).toInt64) (sz r).toNatClampNeg
theorem sz_le {x : Int32} (hx : x = -1 ∨ ∃ n, n ≤ 40 ∧ x = nI n) {k : Nat} (hk : k < 2147483648) : (x ≤ nI k) = (x.toNatClampNeg ≤ k) ∧ x.toNatClampNeg ≤ 40 := by
  rcases hx with rfl | ⟨n, hn, rfl⟩
  · have e : (-1 : Int32).toNatClampNeg = 0 := by decide
    rw [e]
    refine ⟨propext ⟨fun _ => Nat.zero_le _, fun _ => ?_⟩, by decide⟩
    rw [zn, z_m1, z_le (by omega) (by omega) (by omega) (by omega)]
    omega
  · rw [nI_clamp (by omega), n_le (by omega) hk]
    exact ⟨rfl, hn⟩
theorem hf_congr {f g : Nat → Int64} {a : Int64} : ∀ {m : Nat}, (∀ k, k < m → f k = g k) → hf f a m = hf g a m
  | 0, _ => rfl
  | m + 1, h => by
    show 31 * hf f a m + f m = 31 * hf g a m + g m
    rw [hf_congr (fun k hk => h k (by omega)), h m (by omega)]
theorem hrw_congr {sz sz' : Nat → Int32} {v v' : Nat → Nat → Int32} {a : Int64} : ∀ {m : Nat}, (∀ r, r < m → sz r = sz' r ∧ ∀ i, i < 40 → v r i = v' r i) → (∀ r, r < m → (sz r).toNatClampNeg ≤ 40) → hrw sz v a m = hrw sz' v' a m
  | 0, _, _ => rfl
  | m + 1, h, hl => by
    show hf _ (31 * hrw sz v a m + (sz m).toInt64) (sz m).toNatClampNeg = hf _ (31 * hrw sz' v' a m + (sz' m).toInt64) (sz' m).toNatClampNeg
    rw [hrw_congr (fun r hr => h r (by omega)) (fun r hr => hl r (by omega)), ← (h m (by omega)).1]
    exact hf_congr (fun k hk => by rw [(h m (by omega)).2 k (by have := hl m (by omega); omega)])
theorem mixed_ev {F s z b N : Nat} {a : Int64} {h : Hp} (S : Shf s z b N) (hz : ∀ r, r < N → gI h z r = -1 ∨ ∃ n, n ≤ 40 ∧ gI h z r = nI n) (hF : 40 < F) : f_X4_mixedInto F s a h = some (hrw (gI h z) (fun r i => gI h (b + r) i) a N) := by
  obtain ⟨s1, s2, s3, s4, s5, s6⟩ := S
  unfold f_X4_mixedInto
  rw [s1, s2]
  refine fix_seq (fun r => (hrw (gI h z) (fun r i => gI h (b + r) i) a r, nI r)) N rfl (fun r hr self => ?_) (fun self => ?_) (by omega)
  · obtain ⟨-, l2⟩ := sz_le (hz r hr) (k := 0) (by decide)
    simp only [nm]
    rw [if_neg (nle_k (by omega) hr), ld_n s2 hr (by omega), Ib]
    simp only [Ib]
    refine fix_seq (fun i => (hf (fun i => (gI h (b + r) i).toInt64) (31 * hrw (gI h z) (fun r i => gI h (b + r) i) a r + (gI h z r).toInt64) i, nI i)) (gI h z r).toNatClampNeg rfl (fun i hi self2 => ?_) (fun self2 => ?_) (by omega)
    · simp only [(sz_le (hz r hr) (k := i) (by omega)).1]
      rw [if_neg (by omega), s3 r hr, Ib, ld_n (s4 r hr) (by omega) (by decide), Ib, n_add1]
      rfl
    · simp only [(sz_le (hz r hr) (k := (gI h z r).toNatClampNeg) (by omega)).1]
      rw [if_pos (Nat.le_refl _), n_add1]
      rfl
  · simp only
    rw [if_pos (rf_le (by omega))]
def dqf (Z : SS) (n : Nat) : Int64 := if n % 2 = 0 then (nI (sa Z (n / 2))).toInt64 else (nI (sb Z (n / 2))).toInt64
def dkf (Z : SS) (k : Nat) : Int64 := if sF Z k = true then (nI (cm (sK Z k))).toInt64 else -1
def dgY (Z : SS) (a : Int64) : Int64 := hf (dkf Z) (hf (fun n => (nI (cc (sC Z) n)).toInt64) (hf (dqf Z) (hf (fun n => (ofc Z (n / 4) (n % 4)).toInt64) (hf (fun n => (ofm Z (n / 4) (n % 4)).toInt64) (hf (fun c => (bz ((yb (sY Z)).testBit c)).toInt64) (31 * a + (nI (ct (sC Z))).toInt64) (ycl (sY Z))) (4 * yn (sY Z))) (4 * yc (sY Z))) (2 * sq Z)) (cm (sC Z))) 3
def dgA (Z : SS) (R T : Nat) : Int64 := hf (fun q => (nI (cvl Z R T q)).toInt64) 17 10
def Em (h h' : Hp) : Prop := (∀ a k, a ≠ 82 → gI h' a k = gI h a k) ∧ gR h' = gR h
theorem Em.refl {h : Hp} : Em h h := ⟨fun _ _ _ => rfl, rfl⟩
theorem Em.sL {h h' : Hp} {v : Int64} (e : Em h h') : Em h (sL h' 66 62 v) := ⟨fun a k q => e.1 a k q, e.2⟩
theorem Em.of82 {h h' h'' : Hp} (e : Em h h') (e2 : Eo s82 h' h'') : Em h h'' := ⟨fun a k q => (e2.1 a k (by unfold s82; omega)).trans (e.1 a k q), by show h''.2.1 = _; rw [e2.2]; exact e.2⟩
theorem MI.ofEm {Z : SS} {h h' : Hp} (M : MI Z h) (e : Em h h') : MI Z h' := M.keep fun a k q => e.1 a k (by unfold cM at q; omega)
theorem Inv0.ofEm {B : Nat} {h h' : Hp} (I : Inv0 (PB B) h) (e : Em h h') : Inv0 (PB B) h' := by
  obtain ⟨y, Z, w, ci, mi, si⟩ := PB_oth.mp I.2.2.2
  have hy : y = 41 ∨ y = 49 := ci.1
  refine inv_irr I (fun a k q => e.1 a k (by rw [irr_iff] at q; omega)) (PB_oth.mpr ⟨y, Z, w, ci.keep (fun a k q => e.1 a k (by unfold cCy at q; omega)) (by rw [e.2]) (by rw [e.2]) (by rw [e.2]), mi.ofEm e, SI.keep si (fun a h1 h2 => funext fun k => e.1 a k (by omega))⟩)
theorem mix_ev {v : Int64} {h : Hp} : f_X8_mix v h = some (sL h 66 62 (31 * gL h 66 62 + v)) := rfl
theorem gLe {h : Hp} {v : Int64} : gL (sL h 66 62 v) 66 62 = v := rfl
section DIGEST
variable {B F : Nat} {h : Hp} {y : Nat} {Z : SS}
theorem cdigest_ev (I : Inv0 (PB B) h) (ci : CI y Z h) (w : SWf Z) (hF : 60 < F) : f_X7_digest F h = some (hrw (gI h 16) (fun r i => gI h (12 + r) i) (hrw (gI h 9) (fun r i => gI h (3 + r) i) (dgY Z (dgA Z (cnt (fun r => decide (¬ gI h 9 r < 0)) 6) (cnt (fun r => decide (¬ gI h 16 r < 0)) 4))) 6) 4) := by
  have W := w.1
  have hn := W.2.2.1
  have hc := yc_le W
  have hcl := ycl_le W
  have m60 := w.2.1.2.2.2.1
  have q8 := w.2.2.2.1
  unfold f_X7_digest dgY dgA
  simp only [nm]
  generalize hR : cnt (fun r => decide (¬ gI h 9 r < 0)) 6 = R
  generalize hT : cnt (fun r => decide (¬ gI h 16 r < 0)) 4 = T
  refine fix_seq (fun k => (hf (fun q => (nI (cvl Z R T q)).toInt64) 17 k, nI k)) 10 rfl (fun k hk self => ?_) (fun self => ?_) (by omega)
  · simp only
    rw [lit_10, if_neg (nle_k (by decide) hk), ccount_ev ci w hk hF, hR, hT, Ib, n_add1]
    rfl
  simp only
  rw [lit_10, if_pos (rf_le (by decide)), ci.now.2.1]
  generalize hf (fun q => (nI (cvl Z R T q)).toInt64) 17 10 = a0
  refine fix_seq (fun k => (hf (fun c => (bz ((yb (sY Z)).testBit c)).toInt64) (31 * a0 + (nI (ct (sC Z))).toInt64) k, nI k)) (ycl (sY Z)) rfl (fun k hk self => ?_) (fun self => ?_) (by omega)
  · simp only [ci.o, Ib, ci.cl]
    rw [if_neg (nle_k (by omega) hk), wall_ev ci W (by omega), Ib, i_bz0, n_add1]
    show _ = self (31 * _ + (bz ((yb (sY Z)).testBit k)).toInt64, _)
    cases (yb (sY Z)).testBit k <;> rfl
  simp only [ci.o, Ib, ci.cl]
  rw [if_pos (rf_le (by omega))]
  generalize hf (fun c => (bz ((yb (sY Z)).testBit c)).toInt64) (31 * a0 + (nI (ct (sC Z))).toInt64) (ycl (sY Z)) = a1
  refine fix_seq (fun k => (hf (fun n => (ofm Z (n / 4) (n % 4)).toInt64) a1 k, nI k)) (4 * yn (sY Z)) rfl (fun k hk self => ?_) (fun self => ?_) (by omega)
  · simp only [ci.n]
    rw [lit_4, pk_mul, if_neg (nle_k (by omega) hk), pk_div (by omega) (by decide) (by decide), rem_n (by omega) (by decide) (by decide), cman_ev ci w (by omega) (by omega) hF, Ib, n_add1]
    rfl
  simp only [ci.n]
  rw [lit_4, pk_mul, if_pos (rf_le (by omega))]
  generalize hf (fun n => (ofm Z (n / 4) (n % 4)).toInt64) a1 (4 * yn (sY Z)) = a2
  refine fix_seq (fun k => (hf (fun n => (ofc Z (n / 4) (n % 4)).toInt64) a2 k, nI k)) (4 * yc (sY Z)) rfl (fun k hk self => ?_) (fun self => ?_) (by omega)
  · simp only [ci.c]
    rw [pk_mul, if_neg (nle_k (by omega) hk), pk_div (by omega) (by decide) (by decide), rem_n (by omega) (by decide) (by decide), cchain_ev ci w (by omega) (by omega), Ib, n_add1]
    rfl
  simp only [ci.c]
  rw [pk_mul, if_pos (rf_le (by omega))]
  generalize hf (fun n => (ofc Z (n / 4) (n % 4)).toInt64) a2 (4 * yc (sY Z)) = a3
  refine fix_seq (fun k => (hf (dqf Z) a3 (2 * k), nI k)) (sq Z) rfl (fun k hk self => ?_) (fun self => ?_) (by omega)
  · have e1 : dqf Z (2 * k) = (nI (sa Z k)).toInt64 := by unfold dqf; rw [if_pos (by omega), show 2 * k / 2 = k by omega]
    have e2 : dqf Z (2 * k + 1) = (nI (sb Z k)).toInt64 := by unfold dqf; rw [if_neg (by omega), show (2 * k + 1) / 2 = k by omega]
    simp only [ci.q]
    rw [if_neg (nle_k (by omega) hk), ld_38 (by omega), (ci.qq k hk).1, Ib, ld_39 (by omega), (ci.qq k hk).2, Ib, n_add1, ← e1, ← e2]
    rfl
  simp only [ci.q]
  rw [if_pos (rf_le (by omega))]
  generalize hf (dqf Z) a3 (2 * sq Z) = a4
  refine fix_seq (fun k => (hf (fun n => (nI (cc (sC Z) n)).toInt64) a4 k, nI k)) (cm (sC Z)) rfl (fun k hk self => ?_) (fun self => ?_) (by omega)
  · simp only [ci.now.2.2.2.1]
    rw [if_neg (nle_k (by omega) hk), ld_19 (by omega), ci.now.2.2.2.2.1 k hk, Ib, n_add1]
    rfl
  simp only [ci.now.2.2.2.1]
  rw [if_pos (rf_le (by omega))]
  generalize hf (fun n => (nI (cc (sC Z) n)).toInt64) a4 (cm (sC Z)) = a5
  refine fix_seq (fun k => (hf (dkf Z) a5 k, nI k)) 3 rfl (fun k hk self => ?_) (fun self => ?_) (by omega)
  · simp only
    rw [lit_3, if_neg (nle_k (by decide) hk), ldR_kept hk, Ib, (ci.kp k hk).1, i_bz0, Ib, n_add1]
    show _ = self (31 * _ + dkf Z k, _)
    unfold dkf
    by_cases q : sF Z k = true
    · rw [if_pos q, if_pos q, Ib, ((ci.kp k hk).2 q).2.2.2.1]
    · rw [if_neg q, if_neg q, Ib]; rfl
  simp only
  rw [lit_3, if_pos (rf_le (by decide)), mixed_ev shf_rows (fun r hr => (I.1 r hr).2.1) (by omega), Ib, mixed_ev shf_txts (fun r hr => (I.2.1 r hr).2.1) (by omega)]
  rfl
theorem myard_ev (mi : MI Z h) (w : SWf Z) (hF : 60 < F) : ∃ h2, f_X8_mixYard F h = some h2 ∧ gL h2 66 62 = dgY Z (gL h 66 62) ∧ Em h h2 := by
  have W := w.1
  have hn := W.2.2.1
  have hc := yc_le W
  have hcl := ycl_le W
  have m60 := w.2.1.2.2.2.1
  have q8 := w.2.2.2.1
  unfold f_X8_mixYard dgY
  rw [mix_ev, Ib, mi.now.1]
  generalize gL h 66 62 = a
  have E0 : Em h (sL h 66 62 (31 * a + (nI (ct (sC Z))).toInt64)) := Em.refl.sL
  generalize ha0 : 31 * a + (nI (ct (sC Z))).toInt64 = a0 at *
  have L0 : gL (sL h 66 62 a0) 66 62 = a0 := gLe
  generalize sL h 66 62 a0 = h0 at *
  generalize hD : hf (dkf Z) (hf (fun n => (nI (cc (sC Z) n)).toInt64) (hf (dqf Z) (hf (fun n => (ofc Z (n / 4) (n % 4)).toInt64) (hf (fun n => (ofm Z (n / 4) (n % 4)).toInt64) (hf (fun c => (bz ((yb (sY Z)).testBit c)).toInt64) a0 (ycl (sY Z))) (4 * yn (sY Z))) (4 * yc (sY Z))) (2 * sq Z)) (cm (sC Z))) 3 = D
  refine fix_post (fun r => ∃ h2, r = some h2 ∧ gL h2 66 62 = D ∧ Em h h2) (fun (k : Nat) (z : Int32 × Hp) => z.1 = nI k ∧ gL z.2 66 62 = hf (fun c => (bz ((yb (sY Z)).testBit c)).toInt64) a0 k ∧ Em h z.2) (ycl (sY Z)) ?_ (by omega) ?_ ?_
  · exact ⟨rfl, L0, E0⟩
  · rintro k ⟨z1, g⟩ hk ⟨rfl, gl, em⟩ self hself
    have M := mi.ofEm em
    simp only at gl em ⊢
    rw [mcells M.my, Ib, if_neg (nle_k (by omega) hk), ld_73 (by omega), M.my.2.2.2.2.1 k hk, Ib, mix_ev, Ib, n_add1, gl]
    exact hself _ ⟨rfl, rfl, em.sL⟩
  rintro ⟨z1, g⟩ ⟨rfl, gl, em⟩ self
  simp only at gl em ⊢
  rw [mcells (mi.ofEm em).my, Ib, if_pos (rf_le (by omega))]
  generalize hf (fun c => (bz ((yb (sY Z)).testBit c)).toInt64) a0 (ycl (sY Z)) = a1 at *
  refine fix_post (fun r => ∃ h2, r = some h2 ∧ gL h2 66 62 = D ∧ Em h h2) (fun (k : Nat) (z : Int32 × Hp) => z.1 = nI k ∧ gL z.2 66 62 = hf (fun n => (ofm Z (n / 4) (n % 4)).toInt64) a1 (4 * k) ∧ Em h z.2) (yn (sY Z)) ?_ (by omega) ?_ ?_
  · exact ⟨rfl, gl, em⟩
  · rintro i ⟨z1, g1⟩ hi ⟨rfl, gl1, em1⟩ self7 hself7
    simp only at gl1 em1 ⊢
    rw [(mi.ofEm em1).my.2.2.1, if_neg (nle_k (by omega) hi)]
    refine fix_post (fun r => ∃ h2, r = some h2 ∧ gL h2 66 62 = D ∧ Em h h2) (fun (q : Nat) (z : Int32 × Hp) => z.1 = nI q ∧ gL z.2 66 62 = hf (fun n => (ofm Z (n / 4) (n % 4)).toInt64) a1 (4 * i + q) ∧ Em h z.2) 4 ?_ (by omega) ?_ ?_
    · exact ⟨rfl, gl1, em1⟩
    · rintro q ⟨z1, g2⟩ hq ⟨rfl, gl2, em2⟩ self44 hself44
      have M := mi.ofEm em2
      simp only at gl2 em2 ⊢
      rw [lit_4, if_neg (nle_k (by decide) hq), mmanT_ev M w hi hq hF, Ib, mix_ev, Ib, n_add1, gl2]
      refine hself44 _ ⟨rfl, ?_, em2.sL⟩
      show 31 * hf (fun n => (ofm Z (n / 4) (n % 4)).toInt64) a1 (4 * i + q) + (ofm Z i q).toInt64 = 31 * hf (fun n => (ofm Z (n / 4) (n % 4)).toInt64) a1 (4 * i + q) + (ofm Z ((4 * i + q) / 4) ((4 * i + q) % 4)).toInt64
      rw [show (4 * i + q) / 4 = i by omega, show (4 * i + q) % 4 = q by omega]
    · rintro ⟨z1, g2⟩ ⟨rfl, gl2, em2⟩ self44
      simp only at gl2 em2 ⊢
      rw [lit_4, if_pos (rf_le (by decide)), n_add1]
      exact hself7 _ ⟨rfl, gl2, em2⟩
  rintro ⟨z1, g1⟩ ⟨rfl, gl1, em1⟩ self7
  simp only at gl1 em1 ⊢
  rw [(mi.ofEm em1).my.2.2.1, if_pos (rf_le (by omega))]
  generalize hf (fun n => (ofm Z (n / 4) (n % 4)).toInt64) a1 (4 * yn (sY Z)) = a2 at *
  refine fix_post (fun r => ∃ h2, r = some h2 ∧ gL h2 66 62 = D ∧ Em h h2) (fun (k : Nat) (z : Int32 × Hp) => z.1 = nI k ∧ gL z.2 66 62 = hf (fun n => (ofc Z (n / 4) (n % 4)).toInt64) a2 (4 * k) ∧ Em h z.2) (yc (sY Z)) ?_ (by omega) ?_ ?_
  · exact ⟨rfl, gl1, em1⟩
  · rintro i ⟨z1, g1⟩ hi ⟨rfl, gl1, em1⟩ self7 hself7
    simp only at gl1 em1 ⊢
    rw [(mi.ofEm em1).my.2.2.2.1, if_neg (nle_k (by omega) hi)]
    refine fix_post (fun r => ∃ h2, r = some h2 ∧ gL h2 66 62 = D ∧ Em h h2) (fun (q : Nat) (z : Int32 × Hp) => z.1 = nI q ∧ gL z.2 66 62 = hf (fun n => (ofc Z (n / 4) (n % 4)).toInt64) a2 (4 * i + q) ∧ Em h z.2) 4 ?_ (by omega) ?_ ?_
    · exact ⟨rfl, gl1, em1⟩
    · rintro q ⟨z1, g2⟩ hq ⟨rfl, gl2, em2⟩ self44 hself44
      have M := mi.ofEm em2
      obtain ⟨g3, t1, t2⟩ := mchainT_ev M w hi hq hF
      have gl3 : gL g3 66 62 = gL g2 66 62 := by show g3.2.2 66 62 = _; rw [t2.2]; rfl
      simp only at gl2 em2 ⊢
      rw [lit_4, if_neg (nle_k (by decide) hq), t1, Ib, mix_ev, Ib, n_add1, gl3, gl2]
      refine hself44 _ ⟨rfl, ?_, (em2.of82 t2).sL⟩
      show 31 * hf (fun n => (ofc Z (n / 4) (n % 4)).toInt64) a2 (4 * i + q) + (ofc Z i q).toInt64 = 31 * hf (fun n => (ofc Z (n / 4) (n % 4)).toInt64) a2 (4 * i + q) + (ofc Z ((4 * i + q) / 4) ((4 * i + q) % 4)).toInt64
      rw [show (4 * i + q) / 4 = i by omega, show (4 * i + q) % 4 = q by omega]
    · rintro ⟨z1, g2⟩ ⟨rfl, gl2, em2⟩ self44
      simp only at gl2 em2 ⊢
      rw [lit_4, if_pos (rf_le (by decide)), n_add1]
      exact hself7 _ ⟨rfl, gl2, em2⟩
  rintro ⟨z1, g2⟩ ⟨rfl, gl2, em2⟩ self8
  simp only at gl2 em2 ⊢
  rw [(mi.ofEm em2).my.2.2.2.1, if_pos (rf_le (by omega))]
  generalize hf (fun n => (ofc Z (n / 4) (n % 4)).toInt64) a2 (4 * yc (sY Z)) = a3 at *
  refine fix_post (fun r => ∃ h2, r = some h2 ∧ gL h2 66 62 = D ∧ Em h h2) (fun (k : Nat) (z : Int32 × Hp) => z.1 = nI k ∧ gL z.2 66 62 = hf (dqf Z) a3 (2 * k) ∧ Em h z.2) (sq Z) ?_ (by omega) ?_ ?_
  · exact ⟨rfl, gl2, em2⟩
  · rintro k ⟨z1, g⟩ hk ⟨rfl, gl, em⟩ self hself
    have M := mi.ofEm em
    have e1 : dqf Z (2 * k) = (nI (sa Z k)).toInt64 := by unfold dqf; rw [if_pos (by omega), show 2 * k / 2 = k by omega]
    have e2 : dqf Z (2 * k + 1) = (nI (sb Z k)).toInt64 := by unfold dqf; rw [if_neg (by omega), show (2 * k + 1) / 2 = k by omega]
    simp only at gl em ⊢
    rw [M.q, if_neg (nle_k (by omega) hk), ld_102 (by omega), (M.qq k hk).1, Ib, mix_ev, Ib, ld_103 (by omega), gI_sL, (M.qq k hk).2, Ib, mix_ev, Ib, n_add1, gLe, gl, ← e1, ← e2]
    exact hself _ ⟨rfl, rfl, em.sL.sL⟩
  rintro ⟨z1, g3⟩ ⟨rfl, gl3, em3⟩ self9
  simp only at gl3 em3 ⊢
  rw [(mi.ofEm em3).q, if_pos (rf_le (by omega))]
  generalize hf (dqf Z) a3 (2 * sq Z) = a4 at *
  refine fix_post (fun r => ∃ h2, r = some h2 ∧ gL h2 66 62 = D ∧ Em h h2) (fun (k : Nat) (z : Int32 × Hp) => z.1 = nI k ∧ gL z.2 66 62 = hf (fun n => (nI (cc (sC Z) n)).toInt64) a4 k ∧ Em h z.2) (cm (sC Z)) ?_ (by omega) ?_ ?_
  · exact ⟨rfl, gl3, em3⟩
  · rintro k ⟨z1, g⟩ hk ⟨rfl, gl, em⟩ self hself
    have M := mi.ofEm em
    have e5 := M.now.2.2.2.2.1 k hk
    rw [Nat.zero_add] at e5
    simp only at gl em ⊢
    rw [M.now.2.1, if_neg (nle_k (by omega) hk), ld_83 (by omega), e5, Ib, mix_ev, Ib, n_add1, gl]
    exact hself _ ⟨rfl, rfl, em.sL⟩
  rintro ⟨z1, g4⟩ ⟨rfl, gl4, em4⟩ self10
  simp only at gl4 em4 ⊢
  rw [(mi.ofEm em4).now.2.1, if_pos (rf_le (by omega))]
  generalize hf (fun n => (nI (cc (sC Z) n)).toInt64) a4 (cm (sC Z)) = a5 at *
  refine fix_post (fun r => ∃ h2, r = some h2 ∧ gL h2 66 62 = D ∧ Em h h2) (fun (k : Nat) (z : Int32 × Hp) => z.1 = nI k ∧ gL z.2 66 62 = hf (dkf Z) a5 k ∧ Em h z.2) 3 ?_ (by omega) ?_ ?_
  · exact ⟨rfl, gl4, em4⟩
  · rintro k ⟨z1, g⟩ hk ⟨rfl, gl, em⟩ self hself
    have M := mi.ofEm em
    simp only at gl em ⊢
    rw [lit_3, if_neg (nle_k (by decide) hk), ld_85 hk, (M.kp k hk).1, Ib, i_bz0, n_add1, ld_86 hk, Ib]
    have fin : ∃ h2, ((f_X8_mix (dkf Z k) g).bind fun h26 => self (nI (k + 1), h26)) = some h2 ∧ gL h2 66 62 = D ∧ Em h h2 := by
      rw [mix_ev, Ib, gl]
      exact hself _ ⟨rfl, rfl, em.sL⟩
    unfold dkf at fin
    by_cases q : sF Z k = true
    · rw [if_pos q] at fin
      rw [if_pos q, Ib, ((M.kp k hk).2 q).2.1]
      exact fin
    · rw [if_neg q] at fin
      rw [if_neg q, Ib]
      exact fin
  rintro ⟨z1, g5⟩ ⟨rfl, gl5, em5⟩ self11
  simp only at gl5 em5 ⊢
  rw [lit_3, if_pos (rf_le (by decide))]
  exact ⟨g5, rfl, gl5.trans hD, em5⟩
theorem mdigest_ev {R T : Nat} (mi : MI Z h) (w : SWf Z) (hR : cnt (fun r => decide (¬ gI h 68 r < 0)) 6 = R) (hT : cnt (fun r => decide (¬ gI h 71 r < 0)) 4 = T) (z1 : ∀ r, r < 6 → gI h 68 r = -1 ∨ ∃ n, n ≤ 40 ∧ gI h 68 r = nI n) (z2 : ∀ r, r < 4 → gI h 71 r = -1 ∨ ∃ n, n ≤ 40 ∧ gI h 71 r = nI n) (hF : 60 < F) : ∃ h2, f_X8_digest F h = some (hrw (gI h 71) (fun r i => gI h 72 (40 * r + i)) (hrw (gI h 68) (fun r i => gI h 69 (40 * r + i)) (dgY Z (dgA Z R T)) 6) 4, h2) ∧ Em h h2 := by
  unfold f_X8_digest dgA
  simp only [nm]
  have E0 : Em h (sL h 66 62 17) := Em.refl.sL
  have L0 : gL (sL h 66 62 17) 66 62 = 17 := gLe
  generalize sL h 66 62 17 = h0 at *
  generalize hD : hrw (gI h 71) (fun r i => gI h 72 (40 * r + i)) (hrw (gI h 68) (fun r i => gI h 69 (40 * r + i)) (dgY Z (hf (fun q => (nI (cvl Z R T q)).toInt64) 17 10)) 6) 4 = D
  refine fix_post (fun r => ∃ h2, r = some (D, h2) ∧ Em h h2) (fun (k : Nat) (z : Int32 × Hp) => z.1 = nI k ∧ gL z.2 66 62 = hf (fun q => (nI (cvl Z R T q)).toInt64) 17 k ∧ Em h z.2) 10 ?_ (by omega) ?_ ?_
  · exact ⟨rfl, L0, E0⟩
  · rintro k ⟨z1, g⟩ hk ⟨rfl, gl, em⟩ self hself
    have M := mi.ofEm em
    have e68 : gI g 68 = gI h 68 := funext fun j => em.1 68 j (by decide)
    have e71 : gI g 71 = gI h 71 := funext fun j => em.1 71 j (by decide)
    simp only at gl em ⊢
    rw [lit_10, if_neg (nle_k (by decide) hk), mcount_ev (r := R) (t := T) M w (by rw [e68]; exact hR) (by rw [e71]; exact hT) hk hF, Ib, mix_ev, Ib, n_add1, gl]
    exact hself _ ⟨rfl, rfl, em.sL⟩
  rintro ⟨z0, g⟩ ⟨rfl, gl, em⟩ self
  simp only at gl em ⊢
  obtain ⟨g1, y1, y2, y3⟩ := myard_ev (mi.ofEm em) w hF
  have em1 : Em h g1 := ⟨fun a k q => (y3.1 a k q).trans (em.1 a k q), y3.2.trans em.2⟩
  rw [gl] at y2
  rw [lit_10, if_pos (rf_le (by decide)), y1, Ib]
  generalize dgY Z (hf (fun q => (nI (cvl Z R T q)).toInt64) 17 10) = a1 at *
  refine fix_post (fun r => ∃ h2, r = some (D, h2) ∧ Em h h2) (fun (k : Nat) (z : Int32 × Hp) => z.1 = nI k ∧ gL z.2 66 62 = hrw (gI h 68) (fun r i => gI h 69 (40 * r + i)) a1 k ∧ Em h z.2) 6 ?_ (by omega) ?_ ?_
  · exact ⟨rfl, y2, em1⟩
  · rintro r ⟨z0, g2⟩ hr ⟨rfl, gl2, em2⟩ self7 hself7
    obtain ⟨-, l2⟩ := sz_le (z1 r hr) (k := 0) (by decide)
    simp only at gl2 em2 ⊢
    rw [lit_6, if_neg (nle_k (by decide) hr), ld_68 hr, em2.1 68 r (by decide), Ib, mix_ev, Ib, gl2]
    refine fix_post (fun r => ∃ h2, r = some (D, h2) ∧ Em h h2) (fun (i : Nat) (z : Int32 × Hp) => z.1 = nI i ∧ gL z.2 66 62 = hf (fun i => (gI h 69 (40 * r + i)).toInt64) (31 * hrw (gI h 68) (fun r i => gI h 69 (40 * r + i)) a1 r + (gI h 68 r).toInt64) i ∧ Em h z.2) (gI h 68 r).toNatClampNeg ?_ (by omega) ?_ ?_
    · exact ⟨rfl, rfl, em2.sL⟩
    · rintro i ⟨z0, g3⟩ hi ⟨rfl, gl3, em3⟩ self25 hself25
      simp only at gl3 em3 ⊢
      rw [ld_68 hr, em3.1 68 r (by decide), Ib]
      simp only [(sz_le (z1 r hr) (k := i) (by omega)).1]
      rw [if_neg (by omega), rowAt_n hr (by omega), em3.1 69 _ (by decide), Ib, mix_ev, Ib, n_add1, gl3]
      exact hself25 _ ⟨rfl, rfl, em3.sL⟩
    · rintro ⟨z0, g3⟩ ⟨rfl, gl3, em3⟩ self25
      simp only at gl3 em3 ⊢
      rw [ld_68 hr, em3.1 68 r (by decide), Ib]
      simp only [(sz_le (z1 r hr) (k := (gI h 68 r).toNatClampNeg) (by omega)).1]
      rw [if_pos (Nat.le_refl _), n_add1]
      exact hself7 _ ⟨rfl, gl3, em3⟩
  rintro ⟨z0, g2⟩ ⟨rfl, gl2, em2⟩ self7
  simp only at gl2 em2 ⊢
  rw [lit_6, if_pos (rf_le (by decide))]
  generalize hrw (gI h 68) (fun r i => gI h 69 (40 * r + i)) a1 6 = a2 at *
  refine fix_post (fun r => ∃ h2, r = some (D, h2) ∧ Em h h2) (fun (k : Nat) (z : Int32 × Hp) => z.1 = nI k ∧ gL z.2 66 62 = hrw (gI h 71) (fun r i => gI h 72 (40 * r + i)) a2 k ∧ Em h z.2) 4 ?_ (by omega) ?_ ?_
  · exact ⟨rfl, gl2, em2⟩
  · rintro r ⟨z0, g2⟩ hr ⟨rfl, gl2, em2⟩ self7 hself7
    obtain ⟨-, l2⟩ := sz_le (z2 r hr) (k := 0) (by decide)
    simp only at gl2 em2 ⊢
    rw [lit_4, if_neg (nle_k (by decide) hr), ld_71 hr, em2.1 71 r (by decide), Ib, mix_ev, Ib, gl2]
    refine fix_post (fun r => ∃ h2, r = some (D, h2) ∧ Em h h2) (fun (i : Nat) (z : Int32 × Hp) => z.1 = nI i ∧ gL z.2 66 62 = hf (fun i => (gI h 72 (40 * r + i)).toInt64) (31 * hrw (gI h 71) (fun r i => gI h 72 (40 * r + i)) a2 r + (gI h 71 r).toInt64) i ∧ Em h z.2) (gI h 71 r).toNatClampNeg ?_ (by omega) ?_ ?_
    · exact ⟨rfl, rfl, em2.sL⟩
    · rintro i ⟨z0, g3⟩ hi ⟨rfl, gl3, em3⟩ self25 hself25
      simp only at gl3 em3 ⊢
      unfold f_X8_byteAt
      rw [ld_71 hr, em3.1 71 r (by decide), Ib, Ib]
      simp only [(sz_le (z2 r hr) (k := i) (by omega)).1]
      rw [if_neg (by omega), if_neg (by omega), lit_40, pk_mul, nI_add, ld_72 (by omega), em3.1 72 _ (by decide), Ib, Ib, Ib, mix_ev, Ib, n_add1, gl3]
      exact hself25 _ ⟨rfl, rfl, em3.sL⟩
    · rintro ⟨z0, g3⟩ ⟨rfl, gl3, em3⟩ self25
      simp only at gl3 em3 ⊢
      rw [ld_71 hr, em3.1 71 r (by decide), Ib]
      simp only [(sz_le (z2 r hr) (k := (gI h 71 r).toNatClampNeg) (by omega)).1]
      rw [if_pos (Nat.le_refl _), n_add1]
      exact hself7 _ ⟨rfl, gl3, em3⟩
  rintro ⟨z0, g2⟩ ⟨rfl, gl2, em2⟩ self7
  simp only at gl2 em2 ⊢
  rw [lit_4, if_pos (rf_le (by decide)), gl2, hD]
  exact ⟨g2, rfl, em2⟩
theorem alk_digest (I : Inv0 (PB B) h) (hF : 60 < F) : AlkL (PB B) (PB B) (f_X7_digest F) (f_X8_digest F) h := by
  obtain ⟨y, Z, w, ci, mi, si⟩ := PB_oth.mp I.2.2.2
  obtain ⟨r1, r2⟩ := rows_eq I
  obtain ⟨h2, e1, e2⟩ := mdigest_ev (F := F) mi w r1 r2 (fun r hr => by rw [← (I.1 r hr).1]; exact (I.1 r hr).2.1) (fun r hr => by rw [← (I.2.1 r hr).1]; exact (I.2.1 r hr).2.1) hF
  refine ⟨_, h2, cdigest_ev I ci w hF, ?_, I.ofEm e2⟩
  rw [e1]
  have a1 : ∀ a, hrw (gI h 68) (fun r i => gI h 69 (40 * r + i)) a 6 = hrw (gI h 9) (fun r i => gI h (3 + r) i) a 6 := fun a => (hrw_congr (fun r hr => ⟨(I.1 r hr).1, fun i hi => (I.1 r hr).2.2 i hi⟩) (fun r hr => (sz_le (I.1 r hr).2.1 (k := 0) (by decide)).2)).symm
  have a2 : ∀ a, hrw (gI h 71) (fun r i => gI h 72 (40 * r + i)) a 4 = hrw (gI h 16) (fun r i => gI h (12 + r) i) a 4 := fun a => (hrw_congr (fun r hr => ⟨(I.2.1 r hr).1, fun i hi => (I.2.1 r hr).2.2 i hi⟩) (fun r hr => (sz_le (I.2.1 r hr).2.1 (k := 0) (by decide)).2)).symm
  rw [a1, a2]
end DIGEST
