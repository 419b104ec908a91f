/-! undo, keep, on -/
theorem sI_sA_ne {h : Hp} {a b k : Nat} {f : Nat → Int32} {v : Int32} (hab : a ≠ b) : sI (sA h b f) a k v = sA (sI h a k v) b f := by
  unfold sI sA
  refine Prod.ext ?_ rfl
  funext c j
  unfold up2
  by_cases e : c = b
  · subst e
    have : ¬ c = a := fun q => hab q.symm
    simp [this]
  · by_cases e2 : c = a
    · subst e2
      simp [hab]
    · simp [e, e2]
theorem cpy_s {f g : Nat → Int32} {sp dp k : Nat} : upd (va_cpy f g sp dp k) (dp + k) (f (sp + k)) = va_cpy f g sp dp (k + 1) := by
  funext j
  unfold upd
  by_cases q : j = dp + k
  · rw [if_pos q, pk_cpy_in (by omega) (by omega)]
    congr 1
    omega
  · rw [if_neg q]
    by_cases q2 : dp ≤ j ∧ j < dp + k
    · rw [pk_cpy_in q2.1 q2.2, pk_cpy_in q2.1 (by omega)]
    · rw [pk_cpy_out (by omega), pk_cpy_out (by omega)]
theorem sI_self {h : Hp} {a k : Nat} {v : Int32} (e : gI h a k = v) : sI h a k v = h := by
  unfold sI up2
  refine Prod.ext ?_ rfl
  funext b j
  show (if b = a ∧ j = k then v else h.1 b j) = h.1 b j
  by_cases q : b = a ∧ j = k
  · rw [if_pos q, ← e, q.1, q.2]; rfl
  · rw [if_neg q]
theorem fix_succ {σ ρ : Type} {b : (σ → Option ρ) → σ → Option ρ} {F : Nat} {s : σ} : fix b (F + 1) s = b (fix b F) s := rfl
theorem cpy_0 {f g : Nat → Int32} {sp dp : Nat} : va_cpy f g sp dp 0 = g := funext fun j => pk_cpy_out (by omega)
theorem sA_same {h : Hp} {a : Nat} : sA h a (gI h a) = h := sA_self fun _ => rfl
theorem cpy2_loop {ρ : Type} {F a b na nb sp dp a2 b2 na2 nb2 sp2 dp2 n : Nat} {h : Hp} (K : Hp → Option ρ) (bd : Int32) (ia ib ia2 ib2 : Int32 → Int32) (d1 : a ≠ b) (d2 : a ≠ b2) (d3 : a2 ≠ b) (d4 : a2 ≠ b2) (d5 : b ≠ b2) (ha : (sh a).2.2 = na) (hb : (sh b).2.2 = nb) (ha2 : (sh a2).2.2 = na2) (hb2 : (sh b2).2.2 = nb2) (h1 : sp + n ≤ na) (h2 : dp + n ≤ nb) (h3 : na < 200000) (h4 : nb < 200000) (h5 : sp2 + n ≤ na2) (h6 : dp2 + n ≤ nb2) (h7 : na2 < 200000) (h8 : nb2 < 200000) (hbd : bd = nI n) (hia : ∀ k, k < n → ia (nI k) = nI (sp + k)) (hib : ∀ k, k < n → ib (nI k) = nI (dp + k)) (hia2 : ∀ k, k < n → ia2 (nI k) = nI (sp2 + k)) (hib2 : ∀ k, k < n → ib2 (nI k) = nI (dp2 + k)) (hF : n < F) : fix (fun (self : Int32 × Hp → Option ρ) s => if bd ≤ s.1 then K s.2 else (ldI s.2 a (ia s.1)).bind fun v => (stI s.2 b (ib s.1) v).bind fun h1 => (ldI h1 a2 (ia2 s.1)).bind fun v2 => (stI h1 b2 (ib2 s.1) v2).bind fun h2 => self (s.1 + 1, h2)) F (0, h) = K (sA (sA h b (va_cpy (gI h a) (gI h b) sp dp n)) b2 (va_cpy (gI h a2) (gI h b2) sp2 dp2 n)) := by
  subst hbd
  refine fix_seq (fun k => (nI k, sA (sA h b (va_cpy (gI h a) (gI h b) sp dp k)) b2 (va_cpy (gI h a2) (gI h b2) sp2 dp2 k))) n ?_ (fun k hk self => ?_) (fun self => ?_) hF
  · rw [cpy_0, cpy_0, sA_same, sA_same]
    rfl
  · simp only
    rw [if_neg (nle_k (by omega) hk), hia k hk, hib k hk, hia2 k hk, hib2 k hk, ld_n ha (by omega) h3, Ib, st_n hb (by omega) h4, Ib, ld_n ha2 (by omega) h7, Ib, st_n hb2 (by omega) h8, Ib, n_add1]
    rw [gAj_ne d2, gAj_ne d1, gI_ne d3, gAj_ne d4, gAj_ne d3, sI_sA_ne d5, sI_sA, cpy_s, sI_sA, cpy_s]
  · simp only
    rw [if_pos (rf_le (by omega))]
def IsC (a : Nat) : Prop := a = 18 ∨ a = 57 ∨ a = 60 ∨ a = 63
theorem c_rf5 {a : Nat} (h : IsC a) : rf a 5 = a + 1 := by rcases h with rfl | rfl | rfl | rfl <;> rfl
theorem c_rf6 {a : Nat} (h : IsC a) : rf a 6 = a + 2 := by rcases h with rfl | rfl | rfl | rfl <;> rfl
theorem c_s1 {a : Nat} (h : IsC a) : (sh (a + 1)).2.2 = 60 := by rcases h with rfl | rfl | rfl | rfl <;> rfl
theorem c_s2 {a : Nat} (h : IsC a) : (sh (a + 2)).2.2 = 60 := by rcases h with rfl | rfl | rfl | rfl <;> rfl
theorem isC_k {k : Nat} (h : k < 3) : IsC (57 + 3 * k) := by unfold IsC; omega
def becH (a b : Nat) (h : Hp) : Hp := sA (sA (sI (sI (sI (sI h a 1 (gI h b 1)) a 2 (gI h b 2)) a 3 (gI h b 3)) a 4 (gI h b 4)) (a + 1) (va_cpy (gI h (b + 1)) (gI h (a + 1)) 0 0 60)) (a + 2) (va_cpy (gI h (b + 2)) (gI h (a + 2)) 0 0 60)
theorem bec_ev {a b : Nat} {h : Hp} (ha : IsC a) (hb : IsC b) (hab : a ≠ b) : f_X0_become a b h = some (becH a b h) := by
  have d : a + 2 < b ∨ b + 2 < a := by unfold IsC at ha hb; omega
  have e0 : (0 : Int32) = nI 0 := rfl
  unfold f_X0_become becH
  simp only [nm]
  rw [c_rf5 ha, c_rf5 hb, c_rf6 ha, c_rf6 hb, lit_60, lit_0, cp_n (c_s1 hb) (c_s1 ha) (by decide) (by decide) (by decide) (by decide), Ib, cp_n (c_s2 hb) (c_s2 ha) (by decide) (by decide) (by decide) (by decide), Ib]
  simp (disch := omega) only [gf_ne, gA_ne, gI_ne]
theorem bec_g {a b x k : Nat} {h : Hp} (q : ¬ (a ≤ x ∧ x ≤ a + 2)) : gI (becH a b h) x k = gI h x k := by
  unfold becH
  rw [gAj_ne (by omega), gAj_ne (by omega), gI_ne (by omega), gI_ne (by omega), gI_ne (by omega), gI_ne (by omega)]
theorem bec_f {a b : Nat} {h : Hp} : gI (becH a b h) a 0 = gI h a 0 := by
  unfold becH
  rw [gAj_ne (by omega), gAj_ne (by omega), gI_nk (by decide), gI_nk (by decide), gI_nk (by decide), gI_nk (by decide)]
theorem bec_C {a b : Nat} {h : Hp} {C : CS} (hm : cm C ≤ 60) (N : CCr b C h) : CCr a C (becH a b h) := by
  obtain ⟨n1, n2, n3, n4, n5, n6⟩ := N
  unfold becH
  refine ⟨?_, ?_, ?_, ?_, fun j hj => ?_, fun j hj => ?_⟩
  · rw [gAj_ne (by omega), gAj_ne (by omega), gI_nk (by decide), gI_nk (by decide), gI_nk (by decide), gI_eq]; exact n1
  · rw [gAj_ne (by omega), gAj_ne (by omega), gI_nk (by decide), gI_nk (by decide), gI_eq]; exact n2
  · rw [gAj_ne (by omega), gAj_ne (by omega), gI_nk (by decide), gI_eq]; exact n3
  · rw [gAj_ne (by omega), gAj_ne (by omega), gI_eq]; exact n4
  · rw [gAj_ne (by omega), gAj_eq, pk_cpy_in (by omega) (by omega), Nat.sub_zero, Nat.zero_add]; exact n5 j hj
  · rw [gAj_eq, pk_cpy_in (by omega) (by omega), Nat.sub_zero, Nat.zero_add]; exact n6 j hj
def setK (Z : SS) (k : Nat) (C : CS) : SS := (sY Z, sC Z, fun j => if j = k then true else sF Z j, fun j => if j = k then C else sK Z j, sq Z, sa Z, sb Z)
section KEEP
variable {B F : Nat} {h : Hp}
theorem lt3_y {α : Type} {j : Nat} {a b : α} (hj : j < 3) : (if nI j < 0 then a else if nI j < 3 then b else a) = b := by
  rw [i_neg (by omega), lit_3, i_lt (by omega) (by decide), if_pos (by omega)]
theorem lt3_n {α : Type} {x : Int32} {a b : α} (hx : ¬ inR x 3) : (if x < 0 then a else if x < 3 then b else a) = a := by
  by_cases q : x < 0
  · rw [if_pos q]
  · obtain ⟨j, hj, rfl⟩ := nI_of q
    rw [if_neg q, lit_3, i_lt hj (by decide), if_neg (fun z => hx ⟨j, by omega, rfl⟩)]
theorem in2_y {k : Nat} {h : Hp} (hk : k < 3) : f_X8_in (nI k) 0 2 h = some 1 := by rw [lit_2, show (2 : Nat) = 3 - 1 from rfl, in_yes (by decide) hk]
theorem in2_n {x : Int32} {h : Hp} (hx : ¬ inR x 3) : f_X8_in x 0 2 h = some 0 := by rw [lit_2, show (2 : Nat) = 3 - 1 from rfl, in_no (by decide) (by decide) hx]
theorem alk_undo {x : Int32} (I : Inv0 (PB B) h) (hF : 60 < F) : Alk2 (PB B) (PB B) (f_X7_undo x) (f_X8_undo F x) h := by
  obtain ⟨y, Z, w, ci, mi, si⟩ := PB_oth.mp I.2.2.2
  have W := w.1
  have hy : y = 41 ∨ y = 49 := ci.1
  have hn := W.2.2.1
  have m60 := w.2.1.2.2.2.1
  obtain ⟨n1, n2, n3, n4, n5, n6⟩ := ci.now
  by_cases hx : inR x (cm (sC Z) + 1)
  · obtain ⟨n, hn', rfl⟩ := hx
    have hin : ∀ h', gI h' 66 32 = nI (cm (sC Z)) → f_X8_in (nI n) 0 (gI h' 66 32) h' = some 1 := fun h' e => by rw [e, show cm (sC Z) = cm (sC Z) + 1 - 1 from rfl, in_yes (by omega) hn']
    by_cases q : n = cm (sC Z)
    · refine alk_coreZ I mi ⟨0, h, ?_, Sm1.refl, y, Z, w, ci, si, fun h' mi' => ⟨h', ?_, Sm2.refl, mi'⟩⟩
      · unfold f_X7_undo f_X0_goBack
        rw [n4, i_neg (by omega), i_le (by omega) (by omega), if_pos (by omega), i_neg (by omega), i_le (by omega) (by omega), if_pos (by omega), Ib, Ib, pk_sub (by omega), q, Nat.sub_self]; rfl
      · unfold f_X8_undo
        simp only [nm]
        rw [hin h' mi'.now.2.1, Ib, i10, mi'.now.2.1, pk_sub (by omega), q, Nat.sub_self]
        obtain ⟨F, rfl⟩ : ∃ G, F = G + 1 := ⟨F - 1, by omega⟩
        rw [fix_succ]
        rw [if_neg (show ¬ (4 : Int32) ≤ 0 by decide), if_pos (show nI 0 ≤ 0 by decide)]
        have : sI h' 66 32 (nI (cm (sC Z))) = h' := sI_self mi'.now.2.1
        show some (nI 0, sI h' 66 32 (nI (cm (sC Z)))) = _
        rw [this]; rfl
    · have hlt : n < cm (sC Z) := by omega
      refine alk_coreZ I mi ⟨nI (cm (sC Z) - n), sI (sI h 18 1 (nI (cb (sC Z) n))) 18 4 (nI n), ?_, (Sm1.refl.sI (ir_no (by omega) (by omega))).sI (ir_no (by omega) (by omega)), y, setC Z (cb (sC Z) n, ct (sC Z), co (sC Z), n, cc (sC Z), cb (sC Z)), ⟨W, ⟨w.2.1.2.2.2.2.2 n hlt, w.2.1.2.1, w.2.1.2.2.1, by show n ≤ 60; omega, fun j hj => w.2.1.2.2.2.2.1 j (by have : j < n := hj; omega), fun j hj => w.2.1.2.2.2.2.2 j (by have : j < n := hj; omega)⟩, w.2.2⟩, ci.setC (fun a k hc hn => ?_) rfl rfl ⟨ci.rc.1, ?_, ?_⟩ ⟨?_, ?_, ?_, gI_eq, fun j hj => ?_, fun j hj => ?_⟩, SI.keep si (fun a h1 h2 => ?_), fun h' mi' => ⟨sI (sA h' 75 (va_cpy (gI h' 84) (gI h' 75) (4 * n) 0 4)) 66 32 (nI n), ?_, (Sm2.refl.sA (fun k => ir_no (by omega) (by omega))).sI (ir_no (by omega) (by omega)), mi'.setC (fun a k hc hn => ?_) ⟨?_, gI_eq, fun i hi => ?_, fun k hk => ?_, fun j hj => ?_, fun j hj i hi => ?_⟩⟩⟩
      · unfold f_X7_undo f_X0_goBack
        simp only [nm]
        rw [n4, i_neg (by omega), i_le (by omega) (by omega), if_pos (by omega), i_neg (by omega), i_le (by omega) (by omega), if_neg (by omega), rf_18b, ld_20 (by omega), n6 n hlt, Ib, Ib, Ib, pk_sub (by omega)]
      · rw [gI_ne (by omega), gI_ne (by omega)]
      · rw [gI_ne (by decide), gI_ne (by decide)]; exact ci.rc.2.1
      · rw [gI_ne (by decide), gI_ne (by decide)]; exact ci.rc.2.2
      · rw [gI_nk (by decide), gI_eq]; rfl
      · rw [gI_nk (by decide), gI_nk (by decide)]; exact n2
      · rw [gI_nk (by decide), gI_nk (by decide)]; exact n3
      · rw [gI_ne (by decide), gI_ne (by decide)]; exact n5 j (by have : j < n := hj; omega)
      · rw [gI_ne (by decide), gI_ne (by decide)]; exact n6 j (by have : j < n := hj; omega)
      · rw [gf_ne (by omega), gf_ne (by omega)]
      · have hw : ((gI h' 66 32) - nI n ≤ 0) = False := by rw [mi'.now.2.1, pk_sub (by omega), lit_0, n_le (by omega) (by decide)]; exact propext ⟨fun z => by omega, False.elim⟩
        unfold f_X8_undo
        rw [hin h' mi'.now.2.1, Ib, i10]
        simp only [hw, if_false, nm]
        refine (cpy_loop (a := 84) (b := 75) (na := 240) (nb := 4) (sp := 4 * n) (dp := 0) (n := 4) (fun h0 => some ((gI h' 66 32) - nI n, sI h0 66 32 (nI n))) (fun _ => 4) (fun _ x => (4 : Int32) * nI n + x) (fun _ x => x) (by decide) rfl rfl (by omega) (by omega) (by decide) (by decide) (fun f => rfl) (fun f k hk => by rw [lit_4, pk_mul, nI_add]) (fun f k hk => by rw [Nat.zero_add]) (by omega)).trans ?_
        rw [mi'.now.2.1, pk_sub (by omega)]
      · unfold cM at hc
        rw [gI_sI, if_neg (by omega), gI_sA, if_neg (by omega)]
      · rw [gI_nk (by decide), gAj_ne (by decide)]; exact mi'.now.1
      · show gI _ 75 (0 + i) = nI (dg (cb (sC Z) n) i)
        have hi4 : i < yn (sY Z) := hi
        rw [Nat.zero_add, gI_ne (by decide), gAj_eq, pk_cpy_in (by omega) (by omega), Nat.sub_zero]
        have := mi'.now.2.2.2.2.2 n hlt i hi
        rw [Nat.zero_add] at this
        exact this
      · rw [gI_ne (by decide), gAj_ne (by decide)]; exact mi'.now.2.2.2.1 k hk
      · rw [gI_ne (by decide), gAj_ne (by decide)]; exact mi'.now.2.2.2.2.1 j (by have : j < n := hj; omega)
      · rw [gI_ne (by decide), gAj_ne (by decide)]; exact mi'.now.2.2.2.2.2 j (by have : j < n := hj; omega) i hi
  · refine alk_two (fun _ q => q) I (v := -1) ?_ ?_
    · unfold f_X7_undo
      by_cases q : x < 0
      · rw [if_pos q]
      · obtain ⟨j, hj, rfl⟩ := nI_of q
        rw [if_neg q, n4, i_le hj (by omega), if_neg (fun z => hx ⟨j, by omega, rfl⟩)]
    · unfold f_X8_undo
      rw [mi.now.2.1, show cm (sC Z) = cm (sC Z) + 1 - 1 from rfl, in_no (by omega) (by omega) hx, Ib, i00]
end KEEP
