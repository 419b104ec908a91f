/-! the nearest stand at which a man is on a cell -/
def nfs (i c : Nat) (acc : Option Ent) (e : Ent) : Option Ent := if dg e.1 i = c then (match acc with
  | none => some e
  | some b => if e.2.1 = b.2.1 ∧ e.1 < b.1 then some e else some b) else acc
def nst (E : List Ent) (i c : Nat) : Option Ent := E.foldl (nfs i c) none
theorem nfs_no {i c : Nat} {acc : Option Ent} {e : Ent} (h : ¬ dg e.1 i = c) : nfs i c acc e = acc := if_neg h
theorem nfs_new {i c : Nat} {e : Ent} (h : dg e.1 i = c) : nfs i c none e = some e := if_pos h
theorem nfs_old {i c : Nat} {b e : Ent} (h : dg e.1 i = c) : nfs i c (some b) e = if e.2.1 = b.2.1 ∧ e.1 < b.1 then some e else some b := if_pos h
theorem nfs_stop {i c : Nat} {b : Ent} : ∀ (L : List Ent), (∀ e, e ∈ L → b.2.1 < e.2.1) → L.foldl (nfs i c) (some b) = some b
  | [], _ => rfl
  | e :: L, h => by
    rw [List.foldl_cons]
    have e1 : nfs i c (some b) e = some b := by
      by_cases q : dg e.1 i = c
      · rw [nfs_old q, if_neg (fun z => by have := h e List.mem_cons_self; omega)]
      · exact nfs_no q
    rw [e1]
    exact nfs_stop L (fun x hx => h x (List.mem_cons_of_mem _ hx))
theorem nst_stop {E : List Ent} {i c k : Nat} {b ek : Ent} (hb : (E.take k).foldl (nfs i c) none = some b) (mo : Bmo E) (hk : E[k]? = some ek) (hlt : b.2.1 < ek.2.1) : nst E i c = some b := by
  unfold nst
  have : E = E.take k ++ E.drop k := (List.take_append_drop k E).symm
  rw [this, List.foldl_append, hb]
  refine nfs_stop _ (fun e he => ?_)
  obtain ⟨j, hj⟩ := List.mem_iff_getElem?.mp he
  rw [List.getElem?_drop] at hj
  have := mo k (k + j) ek e (by omega) hk hj
  omega
section NEAREST
variable {y : Nat} {Y : YS} {h : Hp} {F t op s0 B i c : Nat}
theorem nearest_ev (C : CX y Y t op h) (I : SI Y t op B h) (W : YW Y) (ho : op < 16) (S : SW Y s0) (hi : i < yn Y) (hc : c < 12) (hB : B < 2000000000) (hF : 20736 < F) : ∃ h', SG Y t op s0 (B + 1) h' ∧ Eo sSe h h' ∧ ((nst (bfin Y t op s0) i c = none ∧ f_X3_nearest F (nI s0) (nI i) (nI c) h = some (-9, h')) ∨ ∃ (b : Ent) (p : Nat), nst (bfin Y t op s0) i c = some b ∧ (bfin Y t op s0)[p]? = some b ∧ LD p h' ∧ f_X3_nearest F (nI s0) (nI i) (nI c) h = some (nI p, h')) := by
  have hn := W.2.2.1
  obtain ⟨h1, b1, G1, eo1⟩ := begin_ev I W S hB hF
  obtain ⟨bk, mo, hlen⟩ := bfin_ok (t := t) (op := op) W S
  have wg1 := wg_le i
  have wg2 := wg_pos i
  unfold f_X3_nearest
  rw [b1, Ib]
  simp only [jn]
  have fin : ∀ (g : Hp) (z1 : Int32), SG Y t op s0 (B + 1) g → Eo sSe h g → ((nst (bfin Y t op s0) i c = none ∧ z1 = -9) ∨ ∃ (b : Ent) (p : Nat), nst (bfin Y t op s0) i c = some b ∧ (bfin Y t op s0)[p]? = some b ∧ LD p g ∧ z1 = nI p) → ∃ h', SG Y t op s0 (B + 1) h' ∧ Eo sSe h h' ∧ ((nst (bfin Y t op s0) i c = none ∧ some (z1, g) = some ((-9 : Int32), h')) ∨ ∃ (b : Ent) (p : Nat), nst (bfin Y t op s0) i c = some b ∧ (bfin Y t op s0)[p]? = some b ∧ LD p h' ∧ some (z1, g) = some (nI p, h')) := by
    intro g z1 Gg eo hcase
    refine ⟨g, Gg, eo, ?_⟩
    rcases hcase with ⟨q1, rfl⟩ | ⟨b, p, q1, q2, q3, rfl⟩
    · exact Or.inl ⟨q1, rfl⟩
    · exact Or.inr ⟨b, p, q1, q2, q3, rfl⟩
  refine fix_post (fun r => ∃ h', SG Y t op s0 (B + 1) h' ∧ Eo sSe h h' ∧ ((nst (bfin Y t op s0) i c = none ∧ r = some (-9, h')) ∨ ∃ (b : Ent) (p : Nat), nst (bfin Y t op s0) i c = some b ∧ (bfin Y t op s0)[p]? = some b ∧ LD p h' ∧ r = some (nI p, h'))) (fun (k : Nat) (z : Int32 × Int32 × Hp) => z.2.1 = nI k ∧ SG Y t op s0 (B + 1) z.2.2 ∧ Eo sSe h z.2.2 ∧ ((((bfin Y t op s0).take k).foldl (nfs i c) none = none ∧ z.1 = -9) ∨ ∃ (b : Ent) (p : Nat), ((bfin Y t op s0).take k).foldl (nfs i c) none = some b ∧ (bfin Y t op s0)[p]? = some b ∧ p < k ∧ LD p z.2.2 ∧ z.1 = nI p)) (bfin Y t op s0).length ?_ (by omega) ?_ ?_
  · exact ⟨rfl, G1, eo1, Or.inl ⟨rfl, rfl⟩⟩
  · rintro k ⟨z1, z2, g⟩ hk ⟨rfl, Gg, eo, hcase⟩ self hself
    simp only at Gg eo hcase ⊢
    obtain ⟨g2, f1, f2, f3, f4⟩ := finds_ev (F := F) (C.keep eo (fun a k q => by unfold sSe at q; omega)) W ho Gg (show k < 11880 by omega) (by omega)
    obtain ⟨e, he⟩ := lt_get hk
    have se := (bk.1 e (List.mem_of_getElem? he)).1
    have se1 := se.1
    have ge := f3.get W (f4 k (Nat.le_refl _) hk) he
    have dk := bk.dep k e he
    have d12 := dg_lt e.1 i
    have dle : e.1 / wgt i ≤ e.1 := Nat.div_le_self _ _
    have tk : ((bfin Y t op s0).take (k + 1)).foldl (nfs i c) none = nfs i c (((bfin Y t op s0).take k).foldl (nfs i c) none) e := by rw [List.take_add_one, he, List.foldl_append]; rfl
    rw [lit_11880, if_neg (nle_k (by decide) (by omega)), f1, Ib, decide_eq_true hk]
    show ∃ h', _ ∧ _ ∧ ((_ ∧ (if bz true = 0 then _ else _) = _) ∨ ∃ b p, _ ∧ _ ∧ _ ∧ (if bz true = 0 then _ else _) = _)
    rw [i_bz0, if_pos rfl]
    have ev : (ldI g2 24 (nI k)).bind (fun v9 => (ldT 0 (nI i)).bind fun v10 => dvI v9 v10) = some (nI (e.1 / wgt i)) := by
      rw [ld_24 (by omega), ge.1, Ib, wg_t (by omega), Ib, dv_n (by omega) wg2 (by omega)]
    rcases hcase with ⟨q1, rfl⟩ | ⟨b, p, q1, q2, q3, q4, rfl⟩
    · rw [if_pos rfl, ld_24 (by omega), ge.1, Ib, wg_t (by omega), Ib, dv_n (by omega) wg2 (by omega), Ib, lit_12, rem_n (by omega) (by decide) (by decide), n_add1]
      show ∃ h', _ ∧ _ ∧ ((_ ∧ (Option.bind (if nI (dg e.1 i) = nI c then _ else _) _) = _) ∨ ∃ b p, _ ∧ _ ∧ _ ∧ (Option.bind (if nI (dg e.1 i) = nI c then _ else _) _) = _)
      rw [i_eq (by omega) (by omega)]
      by_cases q : dg e.1 i = c
      · rw [if_pos q, Ib, i10, if_pos rfl, Ib]
        exact hself _ ⟨rfl, f3, eo.trans f2, Or.inr ⟨e, k, by rw [tk, q1, nfs_new q], he, by omega, f4 k (Nat.le_refl _) hk, rfl⟩⟩
      · rw [if_neg q, Ib, i00, Ib]
        exact hself _ ⟨rfl, f3, eo.trans f2, Or.inl ⟨by rw [tk, q1, nfs_no q], rfl⟩⟩
    · have hp2 : p < (bfin Y t op s0).length := by omega
      have gb := f3.get W (f4 p (by omega) hp2) q2
      have db := bk.dep p b q2
      have sb := (bk.1 b (List.mem_of_getElem? q2)).1.1
      have mo1 := mo p k b e (by omega) q2 he
      rw [i_m9 (by omega), ld_25 (by omega), ge.2.1, Ib, ld_25 (by omega), gb.2.1, Ib, i_le (by omega) (by omega)]
      by_cases q5 : e.2.1 ≤ b.2.1
      · rw [if_pos q5, ld_24 (by omega), ge.1, Ib, wg_t (by omega), Ib, dv_n (by omega) wg2 (by omega), Ib, lit_12, rem_n (by omega) (by decide) (by decide), n_add1]
        show ∃ h', _ ∧ _ ∧ ((_ ∧ (Option.bind (if nI (dg e.1 i) = nI c then _ else _) _) = _) ∨ ∃ b p, _ ∧ _ ∧ _ ∧ (Option.bind (if nI (dg e.1 i) = nI c then _ else _) _) = _)
        rw [i_eq (by omega) (by omega)]
        by_cases q : dg e.1 i = c
        · rw [if_pos q, Ib, i10, i_m9 (by omega), Ib, ld_24 (by omega), gb.1, Ib, i_le (by omega) (by omega)]
          by_cases q6 : b.1 ≤ e.1
          · rw [if_pos q6, Ib]
            exact hself _ ⟨rfl, f3, eo.trans f2, Or.inr ⟨b, p, by rw [tk, q1, nfs_old q, if_neg (by omega)], q2, by omega, f4 p (by omega) hp2, rfl⟩⟩
          · rw [if_neg q6, Ib]
            exact hself _ ⟨rfl, f3, eo.trans f2, Or.inr ⟨e, k, by rw [tk, q1, nfs_old q, if_pos (by omega)], he, by omega, f4 k (Nat.le_refl _) hk, rfl⟩⟩
        · rw [if_neg q, Ib, i00, Ib]
          exact hself _ ⟨rfl, f3, eo.trans f2, Or.inr ⟨b, p, by rw [tk, q1, nfs_no q], q2, by omega, f4 p (by omega) hp2, rfl⟩⟩
      · rw [if_neg q5]
        exact fin g2 _ f3 (eo.trans f2) (Or.inr ⟨b, p, nst_stop q1 mo he (by omega), q2, f4 p (by omega) hp2, rfl⟩)
  · rintro ⟨z1, z2, g⟩ ⟨rfl, Gg, eo, hcase⟩ self
    simp only at Gg eo hcase ⊢
    rw [List.take_length] at hcase
    rw [lit_11880, i_le (by decide) (by omega)]
    by_cases q : 11880 ≤ (bfin Y t op s0).length
    · rw [if_pos q]
      refine fin g z1 Gg eo ?_
      rcases hcase with q1 | ⟨b, p, q1, q2, q3, q4, q5⟩
      · exact Or.inl q1
      · exact Or.inr ⟨b, p, q1, q2, q4, q5⟩
    · obtain ⟨g2, f1, f2, f3, f4⟩ := finds_ev (F := F) (C.keep eo (fun a k q => by unfold sSe at q; omega)) W ho Gg (show (bfin Y t op s0).length < 11880 by omega) (by omega)
      rw [if_neg q, f1, Ib, decide_eq_false (Nat.lt_irrefl _)]
      show ∃ h', _ ∧ _ ∧ ((_ ∧ (if bz false = 0 then _ else _) = _) ∨ ∃ b p, _ ∧ _ ∧ _ ∧ (if bz false = 0 then _ else _) = _)
      rw [i_bz0, if_neg (by decide)]
      refine fin g2 z1 f3 (eo.trans f2) ?_
      rcases hcase with q1 | ⟨b, p, q1, q2, q3, q4, q5⟩
      · exact Or.inl q1
      · exact Or.inr ⟨b, p, q1, q2, f4 p (by omega) q3, q5⟩
def sMB (a k : Nat) : Prop := sML a k ∨ a = 98 ∨ a = 99
/-- the model's search for the same -/
theorem mwant_ev {d st v : Nat} (M : MY Y h) (T : MT Y t op h) (W : YW Y) (S : SW Y s0) (ht : t ≤ 3) (hd : d < 5) (h98 : gI h 98 d = nI (cod (yn Y) s0)) (h99 : gI h 99 d = nI st) (hv : v / 100 = i) (hv2 : v % 100 = c) (hv3 : v < 2147483648) (hi : i < yn Y) (hF : 20736 < F) : ∃ h', Eo sMB h h' ∧ ((nst (bfin Y t op s0) i c = none ∧ f_X8_meetsWant F (nI d) (nI v) h = some (0, h') ∧ Eo sML h h') ∨ ∃ b : Ent, nst (bfin Y t op s0) i c = some b ∧ f_X8_meetsWant F (nI d) (nI v) h = some (1, h') ∧ gI h' 98 (d + 1) = nI (cod (yn Y) b.1) ∧ gI h' 99 (d + 1) = nI (st + b.2.1) ∧ (∀ j, j ≠ d + 1 → gI h' 98 j = gI h 98 j ∧ gI h' 99 j = gI h 99 j)) := by
  have hn := W.2.2.1
  have c1 : cod (yn Y) s0 < 20736 := Nat.lt_of_le_of_lt cod_le S.1
  obtain ⟨bk, mo, hlen⟩ := bfin_ok (t := t) (op := op) W S
  obtain ⟨h2, a1, a2, a3⟩ := layS_ev M T W S ht hF
  unfold f_X8_meetsWant
  rw [ld_98 (by omega), h98, Ib, a1, Ib]
  refine fix_post (fun r => ∃ h', Eo sMB h h' ∧ ((nst (bfin Y t op s0) i c = none ∧ r = some (0, h') ∧ Eo sML h h') ∨ ∃ b : Ent, nst (bfin Y t op s0) i c = some b ∧ r = some (1, h') ∧ gI h' 98 (d + 1) = nI (cod (yn Y) b.1) ∧ gI h' 99 (d + 1) = nI (st + b.2.1) ∧ (∀ j, j ≠ d + 1 → gI h' 98 j = gI h 98 j ∧ gI h' 99 j = gI h 99 j))) (fun (k : Nat) (z : Int32 × Int32 × Hp) => z.2.1 = nI k ∧ Eo s82 h2 z.2.2 ∧ ((((bfin Y t op s0).take k).foldl (nfs i c) none = none ∧ z.1 = -9) ∨ ∃ (b : Ent) (p : Nat), ((bfin Y t op s0).take k).foldl (nfs i c) none = some b ∧ (bfin Y t op s0)[p]? = some b ∧ z.1 = nI (cod (yn Y) b.1))) (bfin Y t op s0).length ?_ (by omega) ?_ ?_
  · exact ⟨rfl, Eo.refl, Or.inl ⟨rfl, rfl⟩⟩
  · rintro k ⟨z1, z2, g⟩ hk ⟨rfl, eo, hcase⟩ self hself
    simp only at eo hcase ⊢
    obtain ⟨e, he⟩ := lt_get hk
    have se := (bk.1 e (List.mem_of_getElem? he)).1
    have ce : cod (yn Y) e.1 < 20736 := Nat.lt_of_le_of_lt cod_le se.1
    have d12 := dg_lt e.1 i
    have dk := bk.dep k e he
    have vd : v / 100 ≤ v := Nat.div_le_self _ _
    have vm : v % 100 < 100 := Nat.mod_lt _ (by decide)
    have me := a2.of82 eo
    obtain ⟨g2, l1, l2, l3⟩ := lookAt_ev ((M.ofML a3).keep eo (fun a k q => by unfold s82 at q; omega)) W se.1 (F := F) (by omega)
    have me2 := me.of82 l3
    have tk : ((bfin Y t op s0).take (k + 1)).foldl (nfs i c) none = nfs i c (((bfin Y t op s0).take k).foldl (nfs i c) none) e := by rw [List.take_add_one, he, List.foldl_append]; rfl
    rw [me.1, if_neg (nle_k (by omega) hk), ld_92 (by omega), (me.2.1 k e he).1, Ib, l1, Ib, lit_100, pk_div hv3 (by decide) (by decide), rem_n hv3 (by decide) (by decide), hv, hv2, ld_82 (by omega), l2 i hi, Ib, i_eq (by omega) (by omega), n_add1, ld_92 (by omega), (me2.2.1 k e he).1, Ib, Ib, Ib, ld_93 ce, (me2.2.1 k e he).2.1, Ib]
    by_cases q : dg e.1 i = c
    · rw [if_pos q, Ib, i10]
      rcases hcase with ⟨q1, rfl⟩ | ⟨b, p, q1, q2, rfl⟩
      · rw [if_pos rfl, Ib, i10, Ib]
        exact hself _ ⟨rfl, eo.trans l3, Or.inr ⟨e, k, by rw [tk, q1, nfs_new q], he, rfl⟩⟩
      · have sb := (bk.1 b (List.mem_of_getElem? q2)).1
        have cb : cod (yn Y) b.1 < 20736 := Nat.lt_of_le_of_lt cod_le sb.1
        have pb := get_lt q2
        have db := bk.dep p b q2
        rw [i_m9 (by omega), ld_93 cb, (me2.2.1 p b q2).2.1, Ib, i_eq (by omega) (by omega), i_le (by omega) (by omega)]
        have cl := cod_lt W se sb
        by_cases q5 : e.2.1 = b.2.1
        · rw [if_pos q5]
          by_cases q6 : cod (yn Y) b.1 ≤ cod (yn Y) e.1
          · have q7 : ¬ e.1 < b.1 := by rw [← cl]; omega
            rw [if_pos q6, Ib, i00, Ib]
            exact hself _ ⟨rfl, eo.trans l3, Or.inr ⟨b, p, by rw [tk, q1, nfs_old q, if_neg (by omega)], q2, rfl⟩⟩
          · have q7 : e.1 < b.1 := by rw [← cl]; omega
            rw [if_neg q6, Ib, i10, Ib]
            exact hself _ ⟨rfl, eo.trans l3, Or.inr ⟨e, k, by rw [tk, q1, nfs_old q, if_pos ⟨q5, q7⟩], he, rfl⟩⟩
        · rw [if_neg q5, Ib, i00, Ib]
          exact hself _ ⟨rfl, eo.trans l3, Or.inr ⟨b, p, by rw [tk, q1, nfs_old q, if_neg (fun z => q5 z.1)], q2, rfl⟩⟩
    · rw [if_neg q, Ib, i00, Ib, i00, Ib]
      refine hself _ ⟨rfl, eo.trans l3, ?_⟩
      rw [tk, nfs_no q]
      exact hcase
  · rintro ⟨z1, z2, g⟩ ⟨rfl, eo, hcase⟩ self
    simp only at eo hcase ⊢
    have me := a2.of82 eo
    have eML : Eo sML h g := a3.trans (eo.mono fun a k q => by unfold s82 at q; unfold sML; omega)
    rw [List.take_length] at hcase
    rw [me.1, if_pos (rf_le (by omega))]
    rcases hcase with ⟨q1, rfl⟩ | ⟨b, p, q1, q2, rfl⟩
    · rw [if_pos rfl]
      exact ⟨g, eML.mono fun a k q => Or.inl q, Or.inl ⟨q1, rfl, eML⟩⟩
    · have sb := (bk.1 b (List.mem_of_getElem? q2)).1
      have cb : cod (yn Y) b.1 < 20736 := Nat.lt_of_le_of_lt cod_le sb.1
      rw [i_m9 (by omega), n_add1, st_98 (by omega), Ib, ld_99 (by omega), gI_ne (by decide), eML.1 99 d (by unfold sML; omega), h99, Ib, ld_93 cb, gI_ne (by decide), (me.2.1 p b q2).2.1, Ib, nI_add, st_99 (by omega), Ib]
      have eMB : Eo sMB h g := eML.mono fun a k q => Or.inl q
      refine ⟨_, (eMB.sI (show sMB 98 (d + 1) from Or.inr (Or.inl rfl))).sI (show sMB 99 (d + 1) from Or.inr (Or.inr rfl)), Or.inr ⟨b, q1, rfl, ?_, gI_eq, fun j hj => ⟨?_, ?_⟩⟩⟩
      · rw [gI_ne (by decide), gI_eq]
      · rw [gI_ne (by decide), gI_nk hj, eML.1 98 j (by unfold sML; omega)]
      · rw [gI_nk hj, gI_ne (by decide), eML.1 99 j (by unfold sML; omega)]
end NEAREST
