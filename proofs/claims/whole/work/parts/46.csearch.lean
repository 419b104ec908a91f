/-! the class's search -/
def sQs (a k : Nat) : Prop := 24 ≤ a ∧ a ≤ 28 ∨ a = 23 ∧ k = 6
def s30 (a k : Nat) : Prop := a = 30 ∨ a = 23 ∧ k = 11
def sLn (a k : Nat) : Prop := a = 29 ∨ a = 30 ∨ a = 23 ∧ k = 11
def sX (a k : Nat) : Prop := 24 ≤ a ∧ a ≤ 30 ∨ a = 23 ∧ (k = 6 ∨ k = 11)
def sSe (a _k : Nat) : Prop := 23 ≤ a ∧ a ≤ 30
def QE (E : List Ent) (T : Nat) (h : Hp) : Prop := gI h 23 6 = nI E.length ∧ gI h 23 8 = nI T ∧ Erep E h ∧ (∀ s, s < 20736 → (gI h 28 s = nI T ↔ ∃ e, e ∈ E ∧ e.1 = s)) ∧ (∀ s, s < 20736 → ∃ v, v ≤ T ∧ gI h 28 s = nI v)
theorem QE.keep {E : List Ent} {T : Nat} {h h' : Hp} (Q : QE E T h) (e : ∀ a k, (24 ≤ a ∧ a ≤ 28 ∨ a = 23 ∧ (k = 6 ∨ k = 8)) → gI h' a k = gI h a k) : QE E T h' := by
  obtain ⟨q1, q2, q3, q4, q5⟩ := Q
  refine ⟨?_, ?_, fun j x hx => ⟨?_, ?_, fun hj => ⟨?_, ?_⟩⟩, fun s hs => ?_, fun s hs => ?_⟩
  · rw [e 23 6 (by omega)]; exact q1
  · rw [e 23 8 (by omega)]; exact q2
  · rw [e 24 j (by omega)]; exact (q3 j x hx).1
  · rw [e 25 j (by omega)]; exact (q3 j x hx).2.1
  · rw [e 26 j (by omega)]; exact ((q3 j x hx).2.2 hj).1
  · rw [e 27 j (by omega)]; exact ((q3 j x hx).2.2 hj).2
  · rw [e 28 s (by omega)]; exact q4 s hs
  · rw [e 28 s (by omega)]; exact q5 s hs
def CX (y : Nat) (Y : YS) (t op : Nat) (h : Hp) : Prop := IsY y ∧ YC y Y h ∧ RC y Y t op h
theorem CX.keep {y : Nat} {Y : YS} {t op : Nat} {h h' : Hp} {S : Nat → Nat → Prop} (C : CX y Y t op h) (e : Eo S h h') (hS : ∀ a k, S a k → ¬ (a = 22 ∨ 41 ≤ a ∧ a ≤ 56)) : CX y Y t op h' := by
  obtain ⟨c1, c2, c3, c4, c5⟩ := C
  have hy : y = 41 ∨ y = 49 := c1
  refine ⟨c1, c2.keep fun b k hb => e.1 b k (fun q => hS _ _ q (by omega)), ?_, ?_, ?_⟩
  · show h'.2.1 22 0 = _
    rw [e.2]; exact c3
  · rw [e.1 22 1 (fun q => hS _ _ q (by omega))]; exact c4
  · rw [e.1 22 2 (fun q => hS _ _ q (by omega))]; exact c5
theorem CI.cx {y : Nat} {Z : SS} {h : Hp} (I : CI y Z h) : CX y (sY Z) (ct (sC Z)) (co (sC Z)) h := ⟨I.1, I.yc, I.rc⟩
section ARR
variable {E : List Ent} {T j dp : Nat} {q : Nat × Nat} {h : Hp}
theorem arr_ev (Q : QE E T h) (hs : q.1 < 20736) (hl : (¬ ∃ e, e ∈ E ∧ e.1 = q.1) → E.length < 11880) : ∃ h', f_X3_arrive (nI q.1) (nI q.2) (nI j) (nI (dp + 1)) h = some h' ∧ QE (bad1 j dp E q) T h' ∧ Eo sQs h h' := by
  have Q0 := Q
  obtain ⟨q1, q2, q3, q4, q5⟩ := Q
  unfold f_X3_arrive
  rw [ld_28 hs, Ib, q2]
  by_cases p : ∃ e, e ∈ E ∧ e.1 = q.1
  · rw [if_pos ((q4 q.1 hs).mpr p), Ib, bad1_y p]
    exact ⟨h, rfl, Q0, Eo.refl⟩
  · have hl' := hl p
    rw [if_neg (fun z => p ((q4 q.1 hs).mp z)), q1, lit_11880, if_neg (nle_k (by decide) hl'), st_28 hs, Ib]
    simp (disch := decide) only [gI_ne, q1, nm]
    rw [st_24 hl', Ib]
    simp (disch := decide) only [gI_ne, q1]
    rw [st_25 hl', Ib]
    simp (disch := decide) only [gI_ne, q1]
    rw [st_26 hl', Ib]
    simp (disch := decide) only [gI_ne, q1]
    rw [st_27 hl', Ib]
    simp (disch := decide) only [gI_ne, q1]
    rw [Ib, n_add1, bad1_n p]
    refine ⟨_, rfl, ⟨?_, ?_, fun i e he => ?_, fun s hs' => ?_, fun s hs' => ?_⟩, (((((Eo.refl.sI (Or.inl ⟨by omega, by omega⟩)).sI (Or.inl ⟨by omega, by omega⟩)).sI (Or.inl ⟨by omega, by omega⟩)).sI (Or.inl ⟨by omega, by omega⟩)).sI (Or.inl ⟨by omega, by omega⟩)).sI (Or.inr ⟨rfl, rfl⟩)⟩
    · rw [gI_eq, List.length_append]; rfl
    · simp (disch := decide) only [gI_nk, gI_ne]; exact q2
    · rcases snoc_get he with he | ⟨rfl, rfl⟩
      · have hi := get_lt he
        have hi2 : i ≠ E.length := by omega
        obtain ⟨r1, r2, r3⟩ := q3 i e he
        refine ⟨?_, ?_, fun h0 => ⟨?_, ?_⟩⟩
        · rw [gI_ne (by decide), gI_ne (by decide), gI_ne (by decide), gI_ne (by decide), gI_nk hi2, gI_ne (by decide)]; exact r1
        · rw [gI_ne (by decide), gI_ne (by decide), gI_ne (by decide), gI_nk hi2, gI_ne (by decide), gI_ne (by decide)]; exact r2
        · rw [gI_ne (by decide), gI_ne (by decide), gI_nk hi2, gI_ne (by decide), gI_ne (by decide), gI_ne (by decide)]; exact (r3 h0).1
        · rw [gI_ne (by decide), gI_nk hi2, gI_ne (by decide), gI_ne (by decide), gI_ne (by decide), gI_ne (by decide)]; exact (r3 h0).2
      · refine ⟨?_, ?_, fun h0 => ⟨?_, ?_⟩⟩
        · rw [gI_ne (by decide), gI_ne (by decide), gI_ne (by decide), gI_ne (by decide), gI_eq]
        · rw [gI_ne (by decide), gI_ne (by decide), gI_ne (by decide), gI_eq]
        · rw [gI_ne (by decide), gI_ne (by decide), gI_eq]
        · rw [gI_ne (by decide), gI_eq]
    · rw [gI_ne (by decide), gI_ne (by decide), gI_ne (by decide), gI_ne (by decide), gI_ne (by decide), gI_at]
      by_cases e : s = q.1
      · rw [if_pos e]
        exact ⟨fun _ => ⟨_, List.mem_append_right _ List.mem_cons_self, e.symm⟩, fun _ => rfl⟩
      · rw [if_neg e, q4 s hs']
        constructor
        · rintro ⟨x, h1, h2⟩
          exact ⟨x, List.mem_append_left _ h1, h2⟩
        · rintro ⟨x, h1, h2⟩
          rcases List.mem_append.mp h1 with h1 | h1
          · exact ⟨x, h1, h2⟩
          · rw [List.mem_singleton.mp h1] at h2
            exact absurd h2.symm e
    · rw [gI_ne (by decide), gI_ne (by decide), gI_ne (by decide), gI_ne (by decide), gI_ne (by decide), gI_at]
      by_cases e : s = q.1
      · rw [if_pos e]; exact ⟨T, Nat.le_refl _, rfl⟩
      · rw [if_neg e]; exact q5 s hs'
end ARR
/-! leads -/
def lgf (Y : YS) (t op s m : Nat) : Option (Nat × Nat) := if m / 4 < yn Y then (aft Y t op s (m / 4) (m % 4)).map (fun s' => (s', 10 * (m / 4) + m % 4)) else none
def ldp (Y : YS) (t op s k : Nat) : List (Nat × Nat) := (List.range k).filterMap (lgf Y t op s)
theorem ldp_16 {Y : YS} {t op s : Nat} : ldp Y t op s 16 = lds Y t op s := rfl
theorem ldp_s {Y : YS} {t op s k : Nat} : ldp Y t op s (k + 1) = ldp Y t op s k ++ (lgf Y t op s k).toList := by
  unfold ldp
  rw [List.range_succ, List.filterMap_append]
  cases e : lgf Y t op s k <;> simp [e]
theorem ldp_pre {Y : YS} {t op s : Nat} : ∀ (d k : Nat), ∃ L, ldp Y t op s (k + d) = ldp Y t op s k ++ L
  | 0, k => ⟨[], (List.append_nil _).symm⟩
  | d + 1, k => by
    obtain ⟨L, h⟩ := ldp_pre (Y := Y) (t := t) (op := op) (s := s) d k
    exact ⟨L ++ (lgf Y t op s (k + d)).toList, by rw [← Nat.add_assoc, ldp_s, h, List.append_assoc]⟩
theorem ldp_len {Y : YS} {t op s k : Nat} (hk : k ≤ 16) : (ldp Y t op s k).length ≤ (lds Y t op s).length := by
  obtain ⟨L, h⟩ := ldp_pre (Y := Y) (t := t) (op := op) (s := s) (16 - k) k
  rw [show k + (16 - k) = 16 by omega, ldp_16] at h
  rw [h, List.length_append]
  omega
theorem lds_16 {Y : YS} {t op s : Nat} : (lds Y t op s).length ≤ 16 := by
  unfold lds
  rw [fm_len]
  exact cnt_le _ _
section LEARN
variable {y : Nat} {Y : YS} {h : Hp} {F t op s u : Nat}
theorem after_no {i d : Nat} (C : CX y Y t op h) (hi : yn Y ≤ i) (hi2 : i < 100) (hn : yn Y ≤ 4) : f_X2_after F (nI s) (nI i) (nI d) h = some (-9) := by
  unfold f_X2_after
  simp only [gO_y C.1 C.2.2.1, Ib, C.2.1.2.2.2.2.1]
  rw [i_neg (by omega), i_le (by omega) (by omega), if_pos hi]
theorem lgf_ev {m : Nat} (C : CX y Y t op h) (W : YW Y) (ho : op < 16) (S : SW Y s) (hm : m < 16) (hF : 4 < F) : f_X2_after F (nI s) (nI (m / 4)) (nI (m % 4)) h = some (oI ((lgf Y t op s m).map (fun q => q.1))) := by
  have hn := W.2.2.1
  unfold lgf
  by_cases p : m / 4 < yn Y
  · rw [after_ev C.2.1 W C.1 C.2.2 S.1 p (Nat.mod_lt _ (by decide)) ho S.2.2.1 hF, if_pos p, Option.map_map]
    cases aft Y t op s (m / 4) (m % 4) <;> rfl
  · rw [after_no C (by omega) (by omega) hn, if_neg p]; rfl
theorem lgf_in {m : Nat} {q : Nat × Nat} (W : YW Y) (S : SW Y s) (hm : m < 16) (h : lgf Y t op s m = some q) : q.1 < 20736 ∧ q.2 = 10 * (m / 4) + m % 4 := by
  unfold lgf at h
  by_cases p : m / 4 < yn Y
  · rw [if_pos p] at h
    cases e : aft Y t op s (m / 4) (m % 4) with
    | none => rw [e] at h; cases h
    | some s' =>
      rw [e] at h
      cases h
      exact ⟨(aft_SW W S p (Nat.mod_lt _ (by decide)) e).1, rfl⟩
  · rw [if_neg p] at h
    cases h
theorem learn_room (W : YW Y) (S : SW Y s) (L : Lcache Y t op u h) (hb : gI h 29 s = 0) : u + (lds Y t op s).length ≤ 97921 := by
  have h1 := lds_tot (t := t) (op := op) (P := fun x => decide (x = s) || !decide (gI h 29 x = 0)) W (fun x hx hp => by
    simp only [Bool.or_eq_true, decide_eq_true_eq, Bool.not_eq_true', decide_eq_false_iff_not] at hp
    rcases hp with rfl | hp
    · exact S
    · rcases L.1 x hx with z | z
      · exact absurd z hp
      · exact z.1)
  have h2 := sumN_upd (f := fun x => if gI h 29 x = 0 then 0 else (lds Y t op x).length) (g := fun x => if (decide (x = s) || !decide (gI h 29 x = 0)) = true then (lds Y t op x).length else 0) (s := s) (m := 20736) S.1 (fun x hx hn => by
    simp only [decide_eq_false hn, Bool.false_or]
    by_cases z : gI h 29 x = 0
    · simp [z]
    · simp [z]) (by simp only [if_pos hb])
  simp only [decide_true, Bool.true_or, if_true] at h2
  rw [h2] at h1
  have h3 := L.2
  omega
theorem learn_ev (C : CX y Y t op h) (W : YW Y) (ho : op < 16) (S : SW Y s) (L : Lcache Y t op u h) (hu : gI h 23 11 = nI u) (hb : gI h 29 s = 0) (hF : 16 < F) : ∃ h', f_X3_learn F (nI s) h = some h' ∧ Eo sLn h h' ∧ gI h' 23 11 = nI (u + (lds Y t op s).length) ∧ Lcache Y t op (u + (lds Y t op s).length) h' ∧ gI h' 29 s = nI (32 * u + (lds Y t op s).length) ∧ ∀ j q, (lds Y t op s)[j]? = some q → gI h' 30 (u + j) = nI (64 * q.1 + q.2) := by
  have room := learn_room W S L hb
  have l16 := lds_16 (Y := Y) (t := t) (op := op) (s := s)
  have u1 : 1 ≤ u := by have := L.2; omega
  unfold f_X3_learn
  refine fix_post (fun r => ∃ h', r = some h' ∧ Eo sLn h h' ∧ gI h' 23 11 = nI (u + (lds Y t op s).length) ∧ Lcache Y t op (u + (lds Y t op s).length) h' ∧ gI h' 29 s = nI (32 * u + (lds Y t op s).length) ∧ ∀ j q, (lds Y t op s)[j]? = some q → gI h' 30 (u + j) = nI (64 * q.1 + q.2)) (fun (n : Nat) (z : Int32 × Hp) => z.1 = nI n ∧ Eo s30 h z.2 ∧ gI z.2 23 11 = nI (u + (ldp Y t op s n).length) ∧ (∀ k, k < u → gI z.2 30 k = gI h 30 k) ∧ ∀ j q, (ldp Y t op s n)[j]? = some q → gI z.2 30 (u + j) = nI (64 * q.1 + q.2)) 16 ?_ hF ?_ ?_
  · exact ⟨rfl, Eo.refl, hu, fun _ _ => rfl, fun j q hq => by simp [ldp] at hq⟩
  · rintro n ⟨z1, g⟩ hn ⟨rfl, eo, g1, g2, g3⟩ self hself
    have Cg : CX y Y t op g := C.keep eo (fun a k q => by unfold s30 at q; omega)
    simp only at eo g1 g2 g3 ⊢
    rw [show (16 : Int32) = nI 16 from rfl, if_neg (nle_k (by decide) hn), lit_4, pk_div (by omega) (by decide) (by decide), rem_n (by omega) (by decide) (by decide), lgf_ev Cg W ho S hn (by omega), Ib, n_add1]
    cases e : lgf Y t op s n with
    | none =>
      show ∃ h', (Option.bind (if (-9 : Int32) = -9 then _ else _) _) = _ ∧ _
      rw [if_pos rfl, Ib]
      refine hself _ ⟨rfl, eo, ?_, g2, ?_⟩
      · rw [ldp_s, e]; simpa using g1
      · rw [ldp_s, e]; simpa using g3
    | some q =>
      obtain ⟨b1, b2⟩ := lgf_in W S hn e
      have hl := ldp_len (Y := Y) (t := t) (op := op) (s := s) (show n + 1 ≤ 16 by omega)
      rw [ldp_s, e, List.length_append] at hl
      have hl2 : (ldp Y t op s n).length + 1 ≤ (lds Y t op s).length := hl
      show ∃ h', (Option.bind (if nI q.1 = (-9 : Int32) then _ else if nI 97921 ≤ gI g 23 11 then _ else _) _) = _ ∧ _
      rw [i_m9 (by omega), g1, if_neg (nle_k (by decide) (by omega)), show oI (Option.map (fun q : Nat × Nat => q.1) (some q)) = nI q.1 from rfl, lit_64, lit_10, pk_mul, pk_mul, nI_add, nI_add, show 64 * q.1 + 10 * (n / 4) + n % 4 = 64 * q.1 + q.2 by omega, st_30 (by omega), Ib]
      simp only [nm]
      rw [gI_ne (by decide), g1, n_add1, Ib]
      refine hself _ ⟨rfl, (eo.sI (Or.inl rfl)).sI (Or.inr ⟨rfl, rfl⟩), ?_, fun k hk => ?_, fun j x hx => ?_⟩
      · show gI (sI _ 23 11 _) 23 11 = _
        rw [gI_eq, ldp_s, e, List.length_append]; rfl
      · show gI (sI (sI g 30 _ _) 23 11 _) 30 k = _
        rw [gI_ne (by decide), gI_nk (by omega)]; exact g2 k hk
      · show gI (sI (sI g 30 _ _) 23 11 _) 30 (u + j) = _
        rw [ldp_s, e] at hx
        rw [gI_ne (by decide), gI_at]
        rcases snoc_get hx with hx | ⟨rfl, rfl⟩
        · have := get_lt hx
          rw [if_neg (by omega)]; exact g3 j x hx
        · rw [if_pos rfl]
  · rintro ⟨z1, g⟩ ⟨rfl, eo, g1, g2, g3⟩ self
    simp only at eo g1 g2 g3 ⊢
    rw [ldp_16] at g1 g3
    rw [show (16 : Int32) = nI 16 from rfl, if_pos (rf_le (by decide)), hu, g1, lit_32, pk_mul, nI_add, pk_sub (by omega), show 32 * u + (u + (lds Y t op s).length) - u = 32 * u + (lds Y t op s).length by omega, st_29 S.1, Ib]
    have e30 : ∀ k, gI (sI g 29 s (nI (32 * u + (lds Y t op s).length))) 30 k = gI g 30 k := fun k => gI_ne (by decide)
    have e29 : ∀ x, gI (sI g 29 s (nI (32 * u + (lds Y t op s).length))) 29 x = if x = s then nI (32 * u + (lds Y t op s).length) else gI h 29 x := fun x => by
      rw [gI_at, eo.1 29 x (by unfold s30; omega)]
    refine ⟨_, rfl, (eo.mono (fun a k q => by unfold s30 at q; unfold sLn; omega)).sI (Or.inl rfl), ?_, ⟨fun x hx => ?_, ?_⟩, ?_, fun j q hq => ?_⟩
    · rw [gI_ne (by decide)]; exact g1
    · rw [e29]
      by_cases e : x = s
      · subst e
        rw [if_pos rfl]
        exact Or.inr ⟨S, u, u1, Nat.le_refl _, rfl, fun j q hq => by rw [e30]; exact g3 j q hq⟩
      · rw [if_neg e]
        rcases L.1 x hx with z | ⟨z1, b, z2, z3, z4, z5⟩
        · exact Or.inl z
        · exact Or.inr ⟨z1, b, z2, by omega, z4, fun j q hq => by
            have := get_lt hq
            rw [e30, g2 _ (by omega)]; exact z5 j q hq⟩
    · have h2 := sumN_upd (f := fun x => if gI h 29 x = 0 then 0 else (lds Y t op x).length) (g := fun x => if gI (sI g 29 s (nI (32 * u + (lds Y t op s).length))) 29 x = 0 then 0 else (lds Y t op x).length) (s := s) (m := 20736) S.1 (fun x hx hn => by simp only [e29, if_neg hn]) (by simp only [if_pos hb])
      simp only [e29, if_true, if_neg (n_nz (show 32 * u + (lds Y t op s).length < 2147483648 by omega) (by omega))] at h2
      simp only [e29]
      rw [h2]
      have := L.2
      omega
    · rw [gI_eq]
    · rw [e30]; exact g3 j q hq
end LEARN
