/-! the model reads the chains, and the whole -/
section ZMCH
variable {r m F : Nat} {tx : Nat → Int32} {h h' : Hp} {S : RS}
theorem mchn_b {ρ : Type} {n : Nat} {rg : Bool} {f : Int32 → Option ρ} (hn : n ≤ 4) : (Option.bind (α := Int32) (if (2 : Int32) ≤ nI n then (if bz rg = 0 then some (nI n - (1 : Int32)) else (if nI n ≤ (2 : Int32) then some (nI n - (1 : Int32)) else some (nI n))) else some (0 : Int32)) f) = f (nI (chn n rg)) := by
  have e : (if (2 : Int32) ≤ nI n then (if bz rg = 0 then some (nI n - (1 : Int32)) else (if nI n ≤ (2 : Int32) then some (nI n - (1 : Int32)) else some (nI n))) else some (0 : Int32)) = some (nI (chn n rg)) := by
    have : ∀ rg : Bool, ∀ n, n < 5 → (if (2 : Int32) ≤ nI n then (if bz rg = 0 then some (nI n - (1 : Int32)) else (if nI n ≤ (2 : Int32) then some (nI n - (1 : Int32)) else some (nI n))) else some (0 : Int32)) = some (nI (chn n rg)) := by decide
    exact this rg n (by omega)
  rw [e]; rfl
theorem dst_4 {w a b : Nat} (hw : 0 < w) (hw4 : w ≤ 4) : dst 4 (4 * (a / w) + a % w) (4 * (b / w) + b % w) = dst w a b := by
  have h1 := Nat.mod_lt a hw
  have h2 := Nat.mod_lt b hw
  unfold dst
  rw [Nat.mul_add_div (by decide), Nat.mul_add_div (by decide), Nat.mul_add_mod, Nat.mul_add_mod, Nat.div_eq_of_lt (a := a % w) (by omega), Nat.div_eq_of_lt (a := b % w) (by omega), Nat.mod_eq_of_lt (a := a % w) (by omega), Nat.mod_eq_of_lt (a := b % w) (by omega), Nat.add_zero, Nat.add_zero]
theorem c4_lt {w l a : Nat} (hw : 0 < w) (hw4 : w ≤ 4) (hl : l ≤ 3) (ha : a < w * l) : 4 * (a / w) + a % w < 12 := by
  have h1 := Nat.mod_lt a hw
  have h2 : a / w < l := Nat.div_lt_of_lt_mul ha
  omega
theorem in19 {x : Int32} (hx : x < 49 ∨ ¬ x ≤ 57) : f_X8_in (x - 48) 1 9 h = some 0 := by
  refine inAB_n (a := 1) (b := 9) ?_ (by decide) (by decide)
  rintro ⟨q, h1, h2, e⟩
  have e2 : x = nI (q + 48) := by
    have : x - 48 + 48 = nI q + 48 := by rw [e]
    rw [Int32.sub_add_cancel] at this
    rw [this, lit_48, nI_add]
  rw [e2, lit_49, lit_57, n_lt (by omega) (by omega), n_le (by omega) (by omega)] at hx
  omega
theorem in19_0 : f_X8_in ((0 : Int32) - 48) 1 9 h = some 0 := in19 (Or.inl (by decide))
def sMc (a k : Nat) : Prop := a = 66 ∧ (k = 19 ∨ k = 24 ∨ k = 25) ∨ a = 81
theorem ZG.keep {T : Nat → Nat → Prop} (G : ZG S h) (e : Eo T h h') (hT : ∀ a k, T a k → ¬ (a = 66 ∧ 20 ≤ k ∧ k ≤ 23 ∨ 78 ≤ a ∧ a ≤ 80)) : ZG S h' := by
  obtain ⟨m1, m2, m4, m5, m6, m7⟩ := G
  refine ⟨?_, ?_, ?_, fun i j hi hj => ?_, fun i hi => ?_, fun i hi => ?_⟩
  · rw [e.1 _ _ (fun q => hT _ _ q (by omega))]; exact m1
  · rw [e.1 _ _ (fun q => hT _ _ q (by omega))]; exact m2
  · rw [e.1 _ _ (fun q => hT _ _ q (by omega))]; exact m4
  · rw [e.1 _ _ (fun q => hT _ _ q (by omega))]; exact m5 i j hi hj
  · rw [e.1 _ _ (fun q => hT _ _ q (by omega))]; exact m6 i hi
  · rw [e.1 _ _ (fun q => hT _ _ q (by omega))]; exact m7 i hi
theorem mform_no {p : Nat} (X : MX r m tx h) (hp : gI h 66 19 = nI p) (hm : p ≤ m) (hq : m ≤ p ∨ (tx p ≠ 119 ∧ tx p ≠ 114)) : f_X8_readsChains F (nI r) h = some (0, h) := by
  have m40 := X.2.1
  unfold f_X8_readsChains
  simp only [nm, jn]
  rw [hp]
  by_cases u : m ≤ p
  · rw [X.out u (by omega), Ib, if_neg (by decide), if_neg (by decide)]; rfl
  · have h2 : tx p ≠ 119 ∧ tx p ≠ 114 := by
      rcases hq with q | q
      · exact absurd q u
      · exact q
    rw [X.byte (by omega), Ib, if_neg h2.1, if_neg h2.2]; rfl
theorem mchains_ev {p : Nat} (X : MX r m tx h) (W : ZF S) (G : ZG S h) (hp : gI h 66 19 = nI p) (hm : p < m) (hq : tx p = 119 ∨ tx p = 114) (hF : 40 < F) : ∃ h', f_X8_readsChains F (nI r) h = some (bz (zcho tx m S (chn (zrn S) (decide (tx p = 114))) 0 (p + 1) (fun _ => 0)).2, h') ∧ Eo sMc h h' ∧ gI h' 66 19 = nI (zcho tx m S (chn (zrn S) (decide (tx p = 114))) 0 (p + 1) (fun _ => 0)).1.1 ∧ gI h' 66 24 = nI (chn (zrn S) (decide (tx p = 114))) ∧ gI h' 66 25 = bz (decide (tx p = 114)) ∧ ((zcho tx m S (chn (zrn S) (decide (tx p = 114))) 0 (p + 1) (fun _ => 0)).2 = true → ∀ k, k < chn (zrn S) (decide (tx p = 114)) → gI h' 81 k = nI ((zcho tx m S (chn (zrn S) (decide (tx p = 114))) 0 (p + 1) (fun _ => 0)).1.2 k)) := by
  have m40 := X.2.1
  obtain ⟨w1, w2, w3, w4, w5, w6, w7, w8, w9, w10⟩ := W
  have c12 : zrw S * zrl S ≤ 12 := Nat.mul_le_mul w4 w2
  have c4 : chn (zrn S) (decide (tx p = 114)) ≤ 4 := Nat.le_trans chn_le w5
  generalize hrg : decide (tx p = 114) = rg at *
  have e8 : ∀ {ρ : Type} {f : Int32 → Option ρ}, (Option.bind (α := Int32) (if tx p = (114 : Int32) then some (1 : Int32) else some (0 : Int32)) fun t7 => (ckZ t7).bind f) = f (bz rg) := by
    intro ρ f
    rw [← hrg]
    by_cases u : tx p = 114
    · rw [if_pos u, decide_eq_true u]; rfl
    · rw [if_neg u, decide_eq_false u]; rfl
  unfold f_X8_readsChains
  simp only [nm, jn]
  rw [hp, X.byte hm, Ib, e8]
  generalize hh9 : sI (sI h 66 19 (nI p + 1)) 66 25 (bz rg) = h9
  have n9 : gI h9 66 23 = nI (zrn S) := by rw [← hh9, gI_nk (by decide), gI_nk (by decide)]; exact G.2.2.1
  have r9 : gI h9 66 25 = bz rg := by rw [← hh9, gI_eq]
  rw [n9, r9, mchn_b w5]
  generalize hh16 : sI h9 66 24 (nI (chn (zrn S) rg)) = h16
  have o16 : Eo sMc h h16 := by
    rw [← hh16, ← hh9]
    exact ((Eo.refl.sI (Or.inl (by omega))).sI (Or.inl (by omega))).sI (Or.inl (by omega))
  have p16 : gI h16 66 19 = nI (p + 1) := by rw [← hh16, gI_nk (by decide), ← hh9, gI_nk (by decide), gI_eq, n_add1]
  have c16 : gI h16 66 24 = nI (chn (zrn S) rg) := by rw [← hh16, gI_eq]
  have r16 : gI h16 66 25 = bz rg := by rw [← hh16, gI_nk (by decide)]; exact r9
  generalize hc : chn (zrn S) rg = c at *
  have hcn : ∀ k, k < c → k < zrn S := fun k hk => chn_lt (rg := rg) (by rw [hc]; exact hk)
  generalize hR : zcho tx m S c 0 (p + 1) (fun _ => 0) = R
  have main : ∃ h', (fix (σ := Int32 × Hp) (ρ := (Int32 × Hp)) (fun self18 s17 =>
      (if (gI s17.2 66 24) ≤ s17.1 then (
        (ckZ (1 : Int32)).bind fun z => some (z, s17.2))
      else (
        (f_X8_byteAt (nI r) (gI s17.2 66 19) s17.2).bind fun v20 =>
        (rmI (s17.1 + (1 : Int32)) (gI s17.2 66 23)).bind fun v21 =>
        (f_X8_in (v20 - (48 : Int32)) (1 : Int32) (9 : Int32) s17.2).bind fun v22 =>
        (if v22 = 0 then (
          (ckZ (0 : Int32)).bind fun z => some (z, s17.2))
        else (
          (ldI s17.2 80 s17.1).bind fun v23 =>
          (ldI s17.2 80 v21).bind fun v24 =>
          (f_X8_farIn v23 v24 (4 : Int32) s17.2).bind fun v25 =>
          (ldI s17.2 79 s17.1).bind fun v26 =>
          (ldI s17.2 79 v21).bind fun v27 =>
          (f_X8_reachBy (v20 - (48 : Int32)) v26 v27 s17.2).bind fun v28 =>
          (if v25 ≤ v28 then (
            (stI s17.2 81 s17.1 (v20 - (48 : Int32))).bind fun h29 =>
            self18 ((s17.1 + 1), sI h29 66 19 ((gI h29 66 19) + (1 : Int32))))
          else (
            (ckZ (0 : Int32)).bind fun z => some (z, s17.2)))))))) F ((0 : Int32), h16)) = some (bz R.2, h') ∧ Eo sMc h h' ∧ gI h' 66 19 = nI R.1.1 ∧ gI h' 66 24 = nI c ∧ gI h' 66 25 = bz rg ∧ (R.2 = true → ∀ k, k < c → gI h' 81 k = nI (R.1.2 k)) := by
    refine fix_post (fun o => ∃ h', o = some (bz R.2, h') ∧ Eo sMc h h' ∧ gI h' 66 19 = nI R.1.1 ∧ gI h' 66 24 = nI c ∧ gI h' 66 25 = bz rg ∧ (R.2 = true → ∀ k, k < c → gI h' 81 k = nI (R.1.2 k))) (fun (k : Nat) (z : Int32 × Hp) => z.1 = nI k ∧ Eo sMc h z.2 ∧ gI z.2 66 24 = nI c ∧ gI z.2 66 25 = bz rg ∧ ∃ q g, q ≤ m ∧ gI z.2 66 19 = nI q ∧ zcho tx m S (c - k) k q g = R ∧ ∀ i, i < k → gI z.2 81 i = nI (g i)) c ?_ (by omega) ?_ ?_
    · exact ⟨rfl, o16, c16, r16, p + 1, fun _ => 0, hm, p16, hR, fun i hi => absurd hi (Nat.not_lt_zero i)⟩
    · rintro k ⟨x, z⟩ hk ⟨e1, eo, ec, eg5, q, g, hq', e3, er, eg⟩ self hself
      have e1' : x = nI k := e1
      subst e1'
      have eo : Eo sMc h z := eo
      have ec : gI z 66 24 = nI c := ec
      have eg5 : gI z 66 25 = bz rg := eg5
      have e3 : gI z 66 19 = nI q := e3
      have eg : ∀ i, i < k → gI z 81 i = nI (g i) := eg
      have X' := X.keep (eo.mono fun a k q => by unfold sMc at q; unfold sMd; omega)
      have G' : ZG S z := G.keep eo (fun a k q => by unfold sMc at q; omega)
      have hkn := hcn k hk
      have hs : sec (zrn S) k < zrn S := sec_lt (by omega)
      have er0 := er
      rw [show c - k = (c - (k + 1)) + 1 by omega, zcho] at er
      have bad : ((q, g), false) = R → ∃ h', (some ((0 : Int32), z)) = some (bz R.2, h') ∧ Eo sMc h h' ∧ gI h' 66 19 = nI R.1.1 ∧ gI h' 66 24 = nI c ∧ gI h' 66 25 = bz rg ∧ (R.2 = true → ∀ k, k < c → gI h' 81 k = nI (R.1.2 k)) := by
        rintro rfl
        exact ⟨z, rfl, eo, e3, ec, eg5, fun q => by cases q⟩
      have sc : rmI (nI k + 1) (nI (zrn S)) = some (nI (sec (zrn S) k)) := by
        rw [n_add1, rm_n (by omega) (by omega) (by omega)]
        unfold sec
        by_cases u : k + 1 < zrn S
        · rw [if_pos u, Nat.mod_eq_of_lt u]
        · rw [if_neg u, show k + 1 = zrn S by omega, Nat.mod_self]
      simp only
      rw [ec, if_neg (nle_k (by omega) hk), e3, G'.2.2.1, sc]
      by_cases u1 : m ≤ q
      · rw [if_pos (Or.inl u1)] at er
        rw [X'.out u1 (by omega), Ib, Ib, in19_0, Ib, i00]
        exact bad er
      · rw [X'.byte (by omega), Ib, Ib]
        by_cases u2 : tx q < 49 ∨ ¬ tx q ≤ 57
        · rw [if_pos (Or.inr u2)] at er
          rw [in19 u2, Ib, i00]
          exact bad er
        · have u3 : ¬ tx q < 49 := fun a => u2 (Or.inl a)
          have u4 : tx q ≤ 57 := Classical.byContradiction fun a => u2 (Or.inr a)
          rw [if_neg (by rintro (a | a); exact u1 a; exact u2 a)] at er
          obtain ⟨v1, v2, v3⟩ := zvl_ok u3 u4
          have in1 : f_X8_in (nI (zvl (tx q))) (1 : Int32) (9 : Int32) z = some 1 := inAB_y (a := 1) (b := 9) v2 v3 (by decide)
          have b1 : rchb (zvl (tx q)) (zrk S k) (zrk S (sec (zrn S) k)) < 20 := by
            unfold rchb
            split <;> split <;> split <;> split <;> omega
          have b2 := dst_lt (w := zrw S) (show zrq S k < 12 by have := w8 k hkn; omega) (show zrq S (sec (zrn S) k) < 12 by have := w8 _ hs; omega)
          have fr : f_X8_farIn (nI (4 * (zrq S k / zrw S) + zrq S k % zrw S)) (nI (4 * (zrq S (sec (zrn S) k) / zrw S) + zrq S (sec (zrn S) k) % zrw S)) (4 : Int32) z = some (nI (dst (zrw S) (zrq S k) (zrq S (sec (zrn S) k)))) := by
            rw [lit_4, farIn_ev (c4_lt w3 w4 w2 (w8 k hkn)) (c4_lt w3 w4 w2 (w8 _ hs)) (by decide) (by decide), dst_4 w3 w4]
          rw [v1, in1, Ib, i10, ld_80 (by omega), Ib, G'.2.2.2.2.2 k hkn, ld_80 (by omega), Ib, G'.2.2.2.2.2 _ hs, fr, Ib, ld_79 (by omega), Ib, G'.2.2.2.2.1 k hkn, ld_79 (by omega), Ib, G'.2.2.2.2.1 _ hs, reachBy_ev (by omega) (w10 k hkn) (w10 _ hs), Ib, i_le (by omega) (by omega)]
          by_cases v : rchb (zvl (tx q)) (zrk S k) (zrk S (sec (zrn S) k)) < dst (zrw S) (zrq S k) (zrq S (sec (zrn S) k))
          · rw [if_pos v] at er
            rw [if_neg (by omega)]
            exact bad er
          · rw [if_neg v] at er
            rw [if_pos (by omega), st_81 (by omega), Ib, n_add1]
            refine hself _ ⟨rfl, (eo.sI (Or.inr rfl)).sI (Or.inl (by omega)), ?_, ?_, q + 1, _, by omega, ?_, er, fun i hi => ?_⟩
            · show gI (sI (sI z 81 k _) 66 19 _) 66 24 = _
              rw [gI_nk (by decide), gI_ne (by decide)]; exact ec
            · show gI (sI (sI z 81 k _) 66 19 _) 66 25 = _
              rw [gI_nk (by decide), gI_ne (by decide)]; exact eg5
            · show gI (sI (sI z 81 k _) 66 19 _) 66 19 = _
              rw [gI_eq, gI_ne (by decide), e3, n_add1]
            · show gI (sI (sI z 81 k _) 66 19 _) 81 i = nI (if i = k then _ else _)
              rw [gI_ne (by decide), gI_at]
              by_cases w : i = k
              · rw [if_pos w, if_pos w]
              · rw [if_neg w, if_neg w]
                exact eg i (by omega)
    · rintro ⟨x, z⟩ ⟨e1, eo, ec, eg5, q, g, hq', e3, er, eg⟩ self
      have e1' : x = nI c := e1
      subst e1'
      have ec : gI z 66 24 = nI c := ec
      simp only
      rw [ec, if_pos (rf_le (by omega))]
      rw [show c - c = 0 by omega] at er
      subst er
      exact ⟨z, rfl, eo, e3, ec, eg5, fun _ => eg⟩
  rcases hq with q | q
  · rw [if_pos q]; exact main
  · rw [if_neg (by rw [q]; decide), if_pos q]; exact main
def sMf (a k : Nat) : Prop := a = 66 ∧ k = 19
/-- what the model holds behind a good reading -/
def ZO (tx : Nat → Int32) (m : Nat) (h : Hp) : Prop := ZG (zR tx m).1 h ∧ gI h 66 24 = nI (chn (zrn (zR tx m).1) (zg tx m)) ∧ gI h 66 25 = bz (zg tx m) ∧ (∀ k, k < chn (zrn (zR tx m).1) (zg tx m) → gI h 81 k = nI ((zC tx m).1.2 k))
theorem mskip_ev {p : Nat} {z : Hp} (X : MX r m tx h) (eo : Eo sMd h z) (hp : gI z 66 19 = nI p) (hm : p ≤ m) (hF : 40 < F) : ∃ h', fix (σ := Hp) (ρ := (Int32 × Hp)) (fun self12 s11 =>
            (ldI s11 71 (nI r)).bind fun v14 =>
            (if v14 ≤ (gI s11 66 19) then (
              some ((-9 : Int32), s11))
            else (
              (f_X8_byteAt (nI r) (gI s11 66 19) s11).bind fun v15 =>
              (if v15 = (32 : Int32) then (
                self12 (sI s11 66 19 ((gI s11 66 19) + (1 : Int32))))
              else (
                some ((gI s11 66 19), s11))))))
     F z = some (oI (if zsk tx (m - p) p < m then some (zsk tx (m - p) p) else none), h') ∧ Eo sMf z h' := by
  have m40 := X.2.1
  refine fix_post (fun o => ∃ h', o = some (oI (if zsk tx (m - p) p < m then some (zsk tx (m - p) p) else none), h') ∧ Eo sMf z h') (fun (k : Nat) (u : Hp) => Eo sMf z u ∧ gI u 66 19 = nI (p + k) ∧ zsk tx (m - (p + k)) (p + k) = zsk tx (m - p) p) (m - p) ?_ (by omega) ?_ ?_
  · exact ⟨Eo.refl, hp, rfl⟩
  · rintro k u hk ⟨eu, e3, ez⟩ self hself
    have X' := X.keep (eo.trans (eu.mono fun a k q => Or.inl (by unfold sMf at q; omega)))
    rw [X'.ld, Ib, e3, if_neg (nle_k (by omega) (by omega)), X'.byte (by omega), Ib]
    have ed : m - (p + k) = (m - (p + (k + 1))) + 1 := by omega
    rw [ed] at ez
    by_cases q : tx (p + k) = 32
    · rw [if_pos q]
      refine hself _ ⟨eu.sI ⟨rfl, rfl⟩, ?_, ?_⟩
      · rw [gI_eq, n_add1]; rfl
      · rw [← ez]
        show _ = (if tx (p + k) = 32 then _ else _)
        rw [if_pos q]; rfl
    · have ez' : p + k = zsk tx (m - p) p := by
        rw [← ez]
        show _ = (if tx (p + k) = 32 then _ else _)
        rw [if_neg q]
      rw [if_neg q]
      refine ⟨u, ?_, eu⟩
      rw [← ez', if_pos (by omega)]; rfl
  · rintro u ⟨eu, e3, ez⟩ self
    have X' := X.keep (eo.trans (eu.mono fun a k q => Or.inl (by unfold sMf at q; omega)))
    rw [show m - (p + (m - p)) = 0 by omega] at ez
    have ez' : p + (m - p) = zsk tx (m - p) p := ez
    rw [X'.ld, Ib, e3, if_pos (by rw [n_le (by omega) (by omega)]; omega)]
    refine ⟨u, ?_, eu⟩
    rw [← ez', if_neg (by omega)]; rfl
theorem mfault_ev (X : MX r m tx h) (hF : 40 < F) : ∃ h', f_X8_faultOf F (nI r) h = some (oI (zfault tx m), h') ∧ Eo sMd h h' ∧ (zfault tx m = none → ZO tx m h') := by
  have m40 := X.2.1
  obtain ⟨zp0, zp1⟩ := zR_p (tx := tx) (m := m)
  have tail : ∀ z, Eo sMd h z → gI z 66 19 = nI (zsk tx m 0) → ∃ h', ((f_X8_readsLines F (nI r) z).bind fun v9 =>
      (if v9.1 = 0 then (
        some ((gI v9.2 66 19), v9.2))
      else (
        (f_X8_readsChains F (nI r) v9.2).bind fun v10 =>
        (if v10.1 = 0 then (
          some ((gI v10.2 66 19), v10.2))
        else (
          fix (σ := Hp) (ρ := (Int32 × Hp)) (fun self12 s11 =>
            (ldI s11 71 (nI r)).bind fun v14 =>
            (if v14 ≤ (gI s11 66 19) then (
              some ((-9 : Int32), s11))
            else (
              (f_X8_byteAt (nI r) (gI s11 66 19) s11).bind fun v15 =>
              (if v15 = (32 : Int32) then (
                self12 (sI s11 66 19 ((gI s11 66 19) + (1 : Int32))))
              else (
                some ((gI s11 66 19), s11))))))
     F v10.2))))) = some (oI (zfault tx m), h') ∧ Eo sMd h h' ∧ (zfault tx m = none → ZO tx m h') := by
    intro z oz pz
    have Xz := X.keep oz
    obtain ⟨h9, e9, o9, p9, g9⟩ := mlines_ev (F := F) Xz pz zp0 hF
    have eR : zron tx (m - zsk tx m 0) (zS0 (zsk tx m 0)) = zR tx m := rfl
    rw [eR] at e9 p9 g9
    have o9' := oz.trans o9
    have X9 := X.keep o9'
    rw [e9, Ib]
    unfold zfault
    by_cases q1 : (zR tx m).2 = false
    · rw [if_pos q1, q1]
      refine ⟨h9, ?_, o9', fun q => by cases q⟩
      show some ((gI h9 66 19), h9) = _
      rw [p9]; rfl
    · have q1' : (zR tx m).2 = true := by simpa using q1
      obtain ⟨W, hc0⟩ := zR_F q1'
      have G9 := g9 q1'
      rw [if_neg q1, q1']
      simp only [show bz true = 1 from rfl, i10]
      by_cases q2 : m ≤ zrp (zR tx m).1 ∨ (tx (zrp (zR tx m).1) ≠ 119 ∧ tx (zrp (zR tx m).1) ≠ 114)
      · rw [if_pos q2, mform_no X9 p9 zp1 q2]
        refine ⟨h9, ?_, o9', fun q => by cases q⟩
        show some ((gI h9 66 19), h9) = _
        rw [p9]; rfl
      · have q3 : tx (zrp (zR tx m).1) = 119 ∨ tx (zrp (zR tx m).1) = 114 := by
          by_cases a : tx (zrp (zR tx m).1) = 119
          · exact Or.inl a
          · by_cases b : tx (zrp (zR tx m).1) = 114
            · exact Or.inr b
            · exact absurd (Or.inr ⟨a, b⟩) q2
        have q4 : zrp (zR tx m).1 < m := by
          rcases Nat.lt_or_ge (zrp (zR tx m).1) m with a | a
          · exact a
          · exact absurd (Or.inl a) q2
        rw [if_neg q2]
        obtain ⟨h10, e10, o10, p10, c10, r10, g10⟩ := mchains_ev (F := F) X9 W G9 p9 q4 q3 hF
        have eC : zcho tx m (zR tx m).1 (chn (zrn (zR tx m).1) (decide (tx (zrp (zR tx m).1) = 114))) 0 (zrp (zR tx m).1 + 1) (fun _ => 0) = zC tx m := rfl
        rw [eC] at e10 p10 g10
        have o10' := o9'.trans (o10.mono fun a k q => by unfold sMc at q; unfold sMd; omega)
        have zp2 : (zC tx m).1.1 ≤ m := zcho_p _ _ _ _ q4
        rw [e10, Ib]
        by_cases q5 : (zC tx m).2 = false
        · rw [if_pos q5, q5]
          refine ⟨h10, ?_, o10', fun q => by cases q⟩
          show some ((gI h10 66 19), h10) = _
          rw [p10]; rfl
        · have q5' : (zC tx m).2 = true := by simpa using q5
          rw [if_neg q5, q5']
          simp only [show bz true = 1 from rfl, i10]
          obtain ⟨h', e', o'⟩ := mskip_ev (F := F) X o10' p10 zp2 hF
          refine ⟨h', e', o10'.trans (o'.mono fun a k q => Or.inl (by unfold sMf at q; omega)), fun _ => ⟨?_, ?_, ?_, fun k hk => ?_⟩⟩
          · exact (G9.keep o10 (fun a k q => by unfold sMc at q; omega)).keep o' (fun a k q => by unfold sMf at q; omega)
          · rw [o'.1 _ _ (by unfold sMf; omega)]; exact c10
          · rw [o'.1 _ _ (by unfold sMf; omega)]; exact r10
          · rw [o'.1 _ _ (by unfold sMf; omega)]; exact g10 q5' k hk
  unfold f_X8_faultOf
  simp only [nm, jn]
  refine fix_post (fun o => ∃ h', o = some (oI (zfault tx m), h') ∧ Eo sMd h h' ∧ (zfault tx m = none → ZO tx m h')) (fun (k : Nat) (u : Hp) => Eo sMd h u ∧ gI u 66 19 = nI k ∧ zsk tx (m - k) k = zsk tx m 0) m ?_ (by omega) ?_ ?_
  · exact ⟨Eo.refl.sI (Or.inl (by omega)), by rw [gI_eq]; rfl, rfl⟩
  · rintro k u hk ⟨eu, e3, ez⟩ self hself
    have X' := X.keep eu
    rw [X'.ld, Ib, e3, if_neg (nle_k (by omega) (by omega)), X'.byte (by omega), Ib]
    have ed : m - k = (m - (k + 1)) + 1 := by omega
    rw [ed] at ez
    by_cases q : tx k = 32
    · rw [if_pos q]
      refine hself _ ⟨eu.sI (Or.inl (by omega)), ?_, ?_⟩
      · rw [gI_eq, n_add1]
      · rw [← ez]
        show _ = (if tx k = 32 then _ else _)
        rw [if_pos q]
    · have ez' : k = zsk tx m 0 := by
        rw [← ez]
        show _ = (if tx k = 32 then _ else _)
        rw [if_neg q]
      rw [if_neg q]
      exact tail u eu (by rw [e3, ← ez'])
  · rintro u ⟨eu, e3, ez⟩ self
    have X' := X.keep eu
    rw [Nat.sub_self] at ez
    have ez' : m = zsk tx m 0 := ez
    rw [X'.ld, Ib, e3, if_pos (rf_le (by omega))]
    exact tail u eu (by rw [e3, ← ez'])
end ZMCH
