/-! the whole state: what class and model stand for -/
abbrev CS : Type := Nat × Nat × Nat × Nat × (Nat → Nat) × (Nat → Nat)
def cs (C : CS) : Nat := C.1
def ct (C : CS) : Nat := C.2.1
def co (C : CS) : Nat := C.2.2.1
def cm (C : CS) : Nat := C.2.2.2.1
def cc (C : CS) : Nat → Nat := C.2.2.2.2.1
def cb (C : CS) : Nat → Nat := C.2.2.2.2.2
def SW (Y : YS) (s : Nat) : Prop := s < 20736 ∧ (∀ i, i < 4 → yn Y ≤ i → dg s i = 0) ∧ (∀ i, i < yn Y → dg s i < ycl Y) ∧ (∀ i, i < yn Y → ∀ j, j < yn Y → i ≠ j → dg s i ≠ dg s j)
def CW (Y : YS) (C : CS) : Prop := SW Y (cs C) ∧ ct C ≤ 3 ∧ co C < 2 ^ yc Y ∧ cm C ≤ 60 ∧ (∀ j, j < cm C → cc C j < 40) ∧ (∀ j, j < cm C → SW Y (cb C j))
def CCr (a : Nat) (C : CS) (h : Hp) : Prop := gI h a 1 = nI (cs C) ∧ gI h a 2 = nI (ct C) ∧ gI h a 3 = nI (co C) ∧ gI h a 4 = nI (cm C) ∧ (∀ j, j < cm C → gI h (a + 1) j = nI (cc C j)) ∧ (∀ j, j < cm C → gI h (a + 2) j = nI (cb C j))
def MCr (Y : YS) (C : CS) (ta tk ma mk pa po oa oo ca ck ba bk : Nat) (h : Hp) : Prop := gI h ta tk = nI (ct C) ∧ gI h ma mk = nI (cm C) ∧ (∀ i, i < yn Y → gI h pa (po + i) = nI (dg (cs C) i)) ∧ (∀ k, k < yc Y → gI h oa (oo + k) = bz ((co C).testBit k)) ∧ (∀ j, j < cm C → gI h ca (ck + j) = nI (cc C j)) ∧ (∀ j, j < cm C → ∀ i, i < yn Y → gI h ba (bk + 4 * j + i) = nI (dg (cb C j) i))
abbrev QS : Type := Nat × (Nat → Nat) × (Nat → Nat)
abbrev SS : Type := YS × CS × (Nat → Bool) × (Nat → CS) × QS
def sY (Z : SS) : YS := Z.1
def sC (Z : SS) : CS := Z.2.1
def sF (Z : SS) : Nat → Bool := Z.2.2.1
def sK (Z : SS) : Nat → CS := Z.2.2.2.1
def sq (Z : SS) : Nat := Z.2.2.2.2.1
def sa (Z : SS) : Nat → Nat := Z.2.2.2.2.2.1
def sb (Z : SS) : Nat → Nat := Z.2.2.2.2.2.2
def SWf (Z : SS) : Prop := YW (sY Z) ∧ CW (sY Z) (sC Z) ∧ (∀ k, k < 3 → sF Z k = true → CW (sY Z) (sK Z k)) ∧ sq Z ≤ 8 ∧ (∀ j, j < sq Z → sa Z j < yn (sY Z) ∧ sb Z j < yn (sY Z) ∧ sa Z j ≠ sb Z j)
def CI (y : Nat) (Z : SS) (h : Hp) : Prop := IsY y ∧ gR h 0 11 = some y ∧ gR h 0 12 = some (90 - y) ∧ RC y (sY Z) (ct (sC Z)) (co (sC Z)) h ∧ YC y (sY Z) h ∧ CCr 18 (sC Z) h ∧ (∀ k, k < 3 → gI h (57 + 3 * k) 0 = bz (sF Z k) ∧ (sF Z k = true → CCr (57 + 3 * k) (sK Z k) h)) ∧ gI h 0 13 = nI (sq Z) ∧ (∀ j, j < sq Z → gI h 38 j = nI (sa Z j) ∧ gI h 39 j = nI (sb Z j))
def MI (Z : SS) (h : Hp) : Prop := MY (sY Z) h ∧ MCr (sY Z) (sC Z) 66 13 66 32 75 0 77 0 83 0 84 0 h ∧ (∀ k, k < 3 → gI h 85 k = bz (sF Z k) ∧ (sF Z k = true → MCr (sY Z) (sK Z k) 87 k 86 k 88 (4 * k) 89 (4 * k) 90 (60 * k) 91 (240 * k) h)) ∧ gI h 66 56 = nI (sq Z) ∧ (∀ j, j < sq Z → gI h 102 j = nI (sa Z j) ∧ gI h 103 j = nI (sb Z j))
/-! the search: what is kept between calls -/
def lds (Y : YS) (t op s : Nat) : List (Nat × Nat) := (List.range 16).filterMap (fun m => if m / 4 < yn Y then (aft Y t op s (m / 4) (m % 4)).map (fun s' => (s', 10 * (m / 4) + m % 4)) else none)
abbrev Ent : Type := Nat × Nat × Nat × Nat
def bad1 (j dp : Nat) (E : List Ent) (q : Nat × Nat) : List Ent := if E.any (fun e => e.1 == q.1) = true then E else E ++ [(q.1, dp + 1, j, q.2)]
def bexp (Y : YS) (t op : Nat) (E : List Ent) (j : Nat) : List Ent := match E[j]? with
  | none => E
  | some e => (lds Y t op e.1).foldl (bad1 j e.2.1) E
def brun (Y : YS) (t op s0 : Nat) : Nat → List Ent
  | 0 => [(s0, 0, 0, 0)]
  | k + 1 => bexp Y t op (brun Y t op s0 k) k
def sumN (f : Nat → Nat) : Nat → Nat
  | 0 => 0
  | m + 1 => sumN f m + f m
def Lcache (Y : YS) (t op u : Nat) (h : Hp) : Prop := (∀ s, s < 20736 → gI h 29 s = 0 ∨ (SW Y s ∧ ∃ b, 1 ≤ b ∧ b + (lds Y t op s).length ≤ u ∧ gI h 29 s = nI (32 * b + (lds Y t op s).length) ∧ ∀ j q, (lds Y t op s)[j]? = some q → gI h 30 (b + j) = nI (64 * q.1 + q.2))) ∧ u = 1 + sumN (fun s => if gI h 29 s = 0 then 0 else (lds Y t op s).length) 20736
def Erep (E : List Ent) (h : Hp) : Prop := ∀ j e, E[j]? = some e → gI h 24 j = nI e.1 ∧ gI h 25 j = nI e.2.1 ∧ (0 < j → gI h 26 j = nI e.2.2.1 ∧ gI h 27 j = nI e.2.2.2)
def Qrep (Y : YS) (t op s0 hd tl T : Nat) (h : Hp) : Prop := SW Y s0 ∧ hd ≤ tl ∧ gI h 23 5 = nI hd ∧ (brun Y t op s0 hd).length = tl ∧ Erep (brun Y t op s0 hd) h ∧ (∀ s, s < 20736 → (gI h 28 s = nI T ↔ ∃ e ∈ brun Y t op s0 hd, e.1 = s))
def SI (Y : YS) (t op B : Nat) (h : Hp) : Prop := ∃ T u tl : Nat, T ≤ B ∧ gI h 23 8 = nI T ∧ gI h 23 11 = nI u ∧ gI h 23 6 = nI tl ∧ (∀ s, s < 20736 → ∃ v, v ≤ T ∧ gI h 28 s = nI v) ∧ (u = 0 → tl = 0) ∧ (0 < u → Lcache Y t op u h) ∧ u ≤ 97921 ∧ tl ≤ 11880 ∧ (0 < tl → ∃ s0 hd, Qrep Y t op s0 hd tl T h)
def SIZ (Z : SS) (B : Nat) (h : Hp) : Prop := SI (sY Z) (ct (sC Z)) (co (sC Z)) B h
def PB (B : Nat) (h : Hp) : Prop := ∃ y Z, SWf Z ∧ CI y Z h ∧ MI Z h ∧ SIZ Z B h
/-! what stays when nothing of it changes -/
def cCy (y a k : Nat) : Prop := a = 0 ∧ k = 13 ∨ 18 ≤ a ∧ a ≤ 20 ∨ 57 ≤ a ∧ a ≤ 65 ∨ a = 22 ∨ a = 38 ∨ a = 39 ∨ y ≤ a ∧ a ≤ y + 7
def cM (a k : Nat) : Prop := a = 66 ∧ (8 ≤ k ∧ k ≤ 11 ∨ k = 13 ∨ k = 32 ∨ k = 56) ∨ 73 ≤ a ∧ a ≤ 77 ∨ 83 ≤ a ∧ a ≤ 91 ∨ a = 102 ∨ a = 103
theorem CCr.keep {a : Nat} {C : CS} {h h' : Hp} (I : CCr a C h) (e : ∀ b k, a ≤ b ∧ b ≤ a + 2 → gI h' b k = gI h b k) : CCr a C h' := by
  obtain ⟨i1, i2, i3, i4, i5, i6⟩ := I
  refine ⟨?_, ?_, ?_, ?_, fun j hj => ?_, fun j hj => ?_⟩
  · rw [e a 1 (by omega)]; exact i1
  · rw [e a 2 (by omega)]; exact i2
  · rw [e a 3 (by omega)]; exact i3
  · rw [e a 4 (by omega)]; exact i4
  · rw [e (a + 1) j (by omega)]; exact i5 j hj
  · rw [e (a + 2) j (by omega)]; exact i6 j hj
theorem YC.keep {y : Nat} {Y : YS} {h h' : Hp} (I : YC y Y h) (e : ∀ b k, y ≤ b ∧ b ≤ y + 7 → gI h' b k = gI h b k) : YC y Y h' := by
  obtain ⟨i1, i2, i3, i4, i5, i6, i7, i8, i9, i10, i11, i12⟩ := I
  refine ⟨?_, ?_, ?_, ?_, ?_, ?_, fun j hj => ?_, fun j hj => ?_, fun j hj => ?_, fun j hj k hk => ?_, fun j hj k hk => ?_, fun j hj k hk => ?_⟩
  · rw [e y 0 (by omega)]; exact i1
  · rw [e y 1 (by omega)]; exact i2
  · rw [e y 2 (by omega)]; exact i3
  · rw [e y 3 (by omega)]; exact i4
  · rw [e y 4 (by omega)]; exact i5
  · rw [e y 5 (by omega)]; exact i6
  · rw [e (y + 1) _ (by omega)]; exact i7 j hj
  · rw [e (y + 3) _ (by omega)]; exact i8 j hj
  · rw [e (y + 4) _ (by omega)]; exact i9 j hj
  · rw [e (y + 5) _ (by omega)]; exact i10 j hj k hk
  · rw [e (y + 6) _ (by omega)]; exact i11 j hj k hk
  · rw [e (y + 7) _ (by omega)]; exact i12 j hj k hk
theorem CI.keep {y : Nat} {Z : SS} {h h' : Hp} (I : CI y Z h) (e : ∀ a k, cCy y a k → gI h' a k = gI h a k) (r1 : gR h' 0 11 = gR h 0 11) (r2 : gR h' 0 12 = gR h 0 12) (r3 : gR h' 22 0 = gR h 22 0) : CI y Z h' := by
  obtain ⟨i1, i2, i3, ⟨i4, i5, i6⟩, i7, i8, i9, i10, i11⟩ := I
  refine ⟨i1, r1.trans i2, r2.trans i3, ⟨r3.trans i4, ?_, ?_⟩, i7.keep fun b k hb => e b k ?_, i8.keep fun b k hb => e b k ?_, fun k hk => ⟨?_, fun hf => ((i9 k hk).2 hf).keep fun b j hb => e b j ?_⟩, ?_, fun j hj => ⟨?_, ?_⟩⟩
  · rw [e 22 1 (by unfold cCy; omega)]; exact i5
  · rw [e 22 2 (by unfold cCy; omega)]; exact i6
  · unfold cCy; omega
  · unfold cCy; omega
  · rw [e _ 0 (by unfold cCy; omega)]; exact (i9 k hk).1
  · unfold cCy; omega
  · rw [e 0 13 (by unfold cCy; omega)]; exact i10
  · rw [e 38 j (by unfold cCy; omega)]; exact (i11 j hj).1
  · rw [e 39 j (by unfold cCy; omega)]; exact (i11 j hj).2
theorem MCr.keep {Y : YS} {C : CS} {ta tk ma mk pa po oa oo ca ck ba bk : Nat} {h h' : Hp} (I : MCr Y C ta tk ma mk pa po oa oo ca ck ba bk h) (e1 : gI h' ta tk = gI h ta tk) (e2 : gI h' ma mk = gI h ma mk) (e3 : ∀ k, gI h' pa k = gI h pa k) (e4 : ∀ k, gI h' oa k = gI h oa k) (e5 : ∀ k, gI h' ca k = gI h ca k) (e6 : ∀ k, gI h' ba k = gI h ba k) : MCr Y C ta tk ma mk pa po oa oo ca ck ba bk h' := by
  obtain ⟨i1, i2, i3, i4, i5, i6⟩ := I
  exact ⟨e1.trans i1, e2.trans i2, fun i hi => (e3 _).trans (i3 i hi), fun i hi => (e4 _).trans (i4 i hi), fun i hi => (e5 _).trans (i5 i hi), fun j hj i hi => (e6 _).trans (i6 j hj i hi)⟩
theorem MI.keep {Z : SS} {h h' : Hp} (I : MI Z h) (e : ∀ a k, cM a k → gI h' a k = gI h a k) : MI Z h' := by
  obtain ⟨⟨m1, m2, m3, m4, m5, m6, m7⟩, i2, i3, i4, i5⟩ := I
  refine ⟨⟨?_, ?_, ?_, ?_, fun a ha => ?_, fun a ha => ?_, fun a ha => ?_⟩, i2.keep ?_ ?_ (fun k => ?_) (fun k => ?_) (fun k => ?_) (fun k => ?_), fun k hk => ⟨?_, fun hf => ((i3 k hk).2 hf).keep ?_ ?_ (fun k => ?_) (fun k => ?_) (fun k => ?_) (fun k => ?_)⟩, ?_, fun j hj => ⟨?_, ?_⟩⟩
  · rw [e 66 8 (by unfold cM; omega)]; exact m1
  · rw [e 66 9 (by unfold cM; omega)]; exact m2
  · rw [e 66 10 (by unfold cM; omega)]; exact m3
  · rw [e 66 11 (by unfold cM; omega)]; exact m4
  · rw [e 73 a (by unfold cM; omega)]; exact m5 a ha
  · rw [e 74 a (by unfold cM; omega)]; exact m6 a ha
  · rw [e 76 a (by unfold cM; omega)]; exact m7 a ha
  case refine_14 => rw [e 85 k (by unfold cM; omega)]; exact (i3 k hk).1
  case refine_21 => rw [e 66 56 (by unfold cM; omega)]; exact i4
  case refine_22 => rw [e 102 j (by unfold cM; omega)]; exact (i5 j hj).1
  case refine_23 => rw [e 103 j (by unfold cM; omega)]; exact (i5 j hj).2
  all_goals exact e _ _ (by unfold cM; omega)
theorem SI.keep {Y : YS} {t op B : Nat} {h h' : Hp} (I : SI Y t op B h) (e : ∀ a, 23 ≤ a → a ≤ 30 → gI h' a = gI h a) : SI Y t op B h' := by
  obtain ⟨T, u, tl, i1, i2, i3, i4, i5, i6, i7, i8, i9, i10⟩ := I
  have e23 := e 23 (by omega) (by omega)
  have e24 := e 24 (by omega) (by omega)
  have e25 := e 25 (by omega) (by omega)
  have e26 := e 26 (by omega) (by omega)
  have e27 := e 27 (by omega) (by omega)
  have e28 := e 28 (by omega) (by omega)
  have e29 := e 29 (by omega) (by omega)
  have e30 := e 30 (by omega) (by omega)
  refine ⟨T, u, tl, i1, ?_, ?_, ?_, ?_, i6, fun hu => ?_, i8, i9, fun ht => ?_⟩
  · rw [e23]; exact i2
  · rw [e23]; exact i3
  · rw [e23]; exact i4
  · rw [e28]; exact i5
  · have := i7 hu
    unfold Lcache at this ⊢
    rw [e29, e30]
    exact this
  · obtain ⟨s0, hd, hq⟩ := i10 ht
    refine ⟨s0, hd, ?_⟩
    unfold Qrep Erep at hq ⊢
    rw [e23, e24, e25, e26, e27, e28]
    exact hq
theorem SI.mono {Y : YS} {t op B B' : Nat} {h : Hp} (I : SI Y t op B h) (hB : B ≤ B') : SI Y t op B' h := by
  obtain ⟨T, u, tl, i1, i2⟩ := I
  exact ⟨T, u, tl, Nat.le_trans i1 hB, i2⟩
/-- all that was found is forgotten -/
theorem SI.forget {Y Y' : YS} {t op t' op' B : Nat} {h h' : Hp} (I : SI Y t op B h) (e : gI h' 28 = gI h 28) (e2 : gI h' 23 8 = gI h 23 8) (e3 : gI h' 23 11 = 0) (e4 : gI h' 23 6 = 0) : SI Y' t' op' B h' := by
  obtain ⟨T, u, tl, i1, i2, i3, i4, i5, i6, i7, i8, i9, i10⟩ := I
  refine ⟨T, 0, 0, i1, e2.trans i2, e3, e4, ?_, fun _ => rfl, fun q => absurd q (by decide), by decide, by decide, fun q => absurd q (by decide)⟩
  rw [e]
  exact i5
theorem oth_at {h : Hp} {a k : Nat} (q : irr a k = false) : gI (oth h) a k = gI h a k := by
  show (if irr a k = true then 0 else gI h a k) = _
  rw [if_neg (by rw [q]; decide)]
theorem irr_no {a k : Nat} (q : ¬ (3 ≤ a ∧ a ≤ 9 ∨ 12 ≤ a ∧ a ≤ 16 ∨ a = 40 ∨ 67 ≤ a ∧ a ≤ 72 ∨ a = 0 ∧ (k = 14 ∨ k = 15) ∨ a = 66 ∧ (k = 0 ∨ k = 2))) : irr a k = false := by
  unfold irr
  simp only [Bool.or_eq_false_iff, decide_eq_false_iff_not]
  omega
theorem irr_iff {a k : Nat} : irr a k = true ↔ (3 ≤ a ∧ a ≤ 9 ∨ 12 ≤ a ∧ a ≤ 16 ∨ a = 40 ∨ 67 ≤ a ∧ a ≤ 72 ∨ a = 0 ∧ (k = 14 ∨ k = 15) ∨ a = 66 ∧ (k = 0 ∨ k = 2)) := by
  unfold irr
  simp only [Bool.or_eq_true, decide_eq_true_eq]
  omega
theorem PB.keep {B : Nat} {h h' : Hp} (I : PB B h) (e : ∀ a k, irr a k = false → gI h' a k = gI h a k) (r : gR h' = gR h) : PB B h' := by
  obtain ⟨y, Z, w, i1, i2, i3⟩ := I
  have hy : y = 41 ∨ y = 49 := i1.1
  refine ⟨y, Z, w, i1.keep (fun a k q => e a k (irr_no (by unfold cCy at q; omega))) (by rw [r]) (by rw [r]) (by rw [r]), i2.keep (fun a k q => e a k (irr_no (by unfold cM at q; omega))), SI.keep i3 (fun a h1 h2 => funext fun k => e a k (irr_no (by omega)))⟩
theorem PB_oth {B : Nat} {h : Hp} : PB B (oth h) ↔ PB B h := ⟨fun I => I.keep (fun a k q => (oth_at q).symm) rfl, fun I => I.keep (fun a k q => oth_at q) rfl⟩
/-- what the class's half leaves alone; what the model's half leaves alone -/
def Sm1 (h h1 : Hp) : Prop := ∀ a k, (irr a k = true ∨ 66 ≤ a) → gI h1 a k = gI h a k
def Sm2 (h h2 : Hp) : Prop := (∀ a k, (irr a k = true ∨ a < 66) → gI h2 a k = gI h a k) ∧ gR h2 = gR h
theorem inv_irr {P Q : Hp → Prop} {h h' : Hp} (I : Inv0 P h) (e : ∀ a k, irr a k = true → gI h' a k = gI h a k) (q : Q (oth h')) : Inv0 Q h' := by
  obtain ⟨I1, I2, ⟨m1, m2, m3⟩, -⟩ := I
  have ea : ∀ a, (3 ≤ a ∧ a ≤ 9 ∨ 12 ≤ a ∧ a ≤ 16 ∨ a = 40 ∨ 67 ≤ a ∧ a ≤ 72) → gI h' a = gI h a := fun a ha => funext fun k => e a k (irr_row ha)
  refine ⟨I1.keep (ea _ (by omega)) (ea _ (by omega)) (fun r hr => ea _ (by omega)) (ea _ (by omega)), I2.keep (ea _ (by omega)) (ea _ (by omega)) (fun r hr => ea _ (by omega)) (ea _ (by omega)), ⟨?_, ?_, fun f hf => ?_⟩, q⟩
  · rw [e 0 14 rfl, e 66 2 rfl]; exact m1
  · rw [e 0 15 rfl, e 66 0 rfl]; exact m2
  · rw [ea 40 (by omega), ea 67 (by omega)]; exact m3 f hf
/-- both answer alike, and all stays related; B may grow -/
def Alk2 (P Q : Hp → Prop) (A B : Hp → Option (Int32 × Hp)) (h : Hp) : Prop := ∃ v h1 h2, A h = some (v, h1) ∧ B h1 = some (v, h2) ∧ Inv0 Q h2
theorem Alk.two {P : Hp → Prop} {A B : Hp → Option (Int32 × Hp)} {h : Hp} (H : Alk P A B h) : Alk2 P P A B h := H
section CORE
variable {B B' : Nat} {h : Hp} {A M : Hp → Option (Int32 × Hp)}
/-- rows, texts, findings and what is told stay -/
theorem alk_coreZ {Z : SS} (I : Inv0 (PB B) h) (i2 : MI Z h) (K : ∃ v h1, A h = some (v, h1) ∧ Sm1 h h1 ∧ ∃ y' Z', SWf Z' ∧ CI y' Z' h1 ∧ SIZ Z' B' h1 ∧ ∀ h', MI Z h' → ∃ h2, M h' = some (v, h2) ∧ Sm2 h' h2 ∧ MI Z' h2) : Alk2 (PB B) (PB B') A M h := by
  obtain ⟨v, h1, e1, s1, y', Z', w', c1, d1, k⟩ := K
  obtain ⟨h2, e2, s2, m2⟩ := k h1 (i2.keep fun a k q => s1 a k (Or.inr (by unfold cM at q; omega)))
  refine ⟨v, h1, h2, e1, e2, inv_irr I (fun a k q => (s2.1 a k (Or.inl q)).trans (s1 a k (Or.inl q))) (PB_oth.mpr ⟨y', Z', w', ?_, m2, ?_⟩)⟩
  · have hy : y' = 41 ∨ y' = 49 := c1.1
    exact c1.keep (fun a k q => s2.1 a k (Or.inr (by unfold cCy at q; omega))) (by rw [s2.2]) (by rw [s2.2]) (by rw [s2.2])
  · exact SI.keep d1 (fun a h1 h2 => funext fun k => s2.1 a k (Or.inr (by omega)))
/-- the same, and both tell t -/
theorem alk_toldZ {Z : SS} (I : Inv0 (PB B) h) (i2 : MI Z h) (K : ∃ v t h1, A h = some (v, sI h1 0 14 t) ∧ Sm1 h h1 ∧ ∃ y' Z', SWf Z' ∧ CI y' Z' h1 ∧ SIZ Z' B' h1 ∧ ∀ h', MI Z h' → ∃ h2, M h' = some (v, sI h2 66 2 t) ∧ Sm2 h' h2 ∧ MI Z' h2) : Alk2 (PB B) (PB B') A M h := by
  obtain ⟨v, t, h1, e1, s1, y', Z', w', c1, d1, k⟩ := K
  obtain ⟨h2, e2, s2, m2⟩ := k (sI h1 0 14 t) (i2.keep fun a k q => by rw [gI_ne (by unfold cM at q; omega)]; exact s1 a k (Or.inr (by unfold cM at q; omega)))
  have key : ∀ a k, irr a k = true → ¬ (a = 0 ∧ k = 14) → ¬ (a = 66 ∧ k = 2) → gI (sI h2 66 2 t) a k = gI h a k := by
    intro a k q q1 q2
    rw [gI_sI, if_neg q2, s2.1 a k (Or.inl q), gI_sI, if_neg q1, s1 a k (Or.inl q)]
  obtain ⟨I1, I2, ⟨m1, m2', m3⟩, -⟩ := I
  have ea : ∀ a, (3 ≤ a ∧ a ≤ 9 ∨ 12 ≤ a ∧ a ≤ 16 ∨ a = 40 ∨ 67 ≤ a ∧ a ≤ 72) → gI (sI h2 66 2 t) a = gI h a := fun a ha => funext fun k => key a k (irr_row ha) (by omega) (by omega)
  refine ⟨v, _, _, e1, e2, I1.keep (ea _ (by omega)) (ea _ (by omega)) (fun r hr => ea _ (by omega)) (ea _ (by omega)), I2.keep (ea _ (by omega)) (ea _ (by omega)) (fun r hr => ea _ (by omega)) (ea _ (by omega)), ⟨?_, ?_, fun f hf => ?_⟩, PB_oth.mpr ⟨y', Z', w', ?_, ?_, ?_⟩⟩
  · rw [gI_eq, gI_ne (by decide), s2.1 0 14 (Or.inl rfl), gI_eq]
  · rw [key 0 15 rfl (by omega) (by omega), key 66 0 rfl (by omega) (by omega)]; exact m2'
  · rw [ea 40 (by omega), ea 67 (by omega)]; exact m3 f hf
  · have hy : y' = 41 ∨ y' = 49 := c1.1
    refine c1.keep (fun a k q => ?_) ?_ ?_ ?_
    · unfold cCy at q
      rw [gI_sI, if_neg (by omega), s2.1 a k (Or.inr (by omega)), gI_sI, if_neg (by omega)]
    all_goals
      show gR h2 _ _ = _
      rw [s2.2]
      rfl
  · exact m2.keep fun a k q => by rw [gI_sI, if_neg (by unfold cM at q; omega)]
  · exact SI.keep d1 (fun a h1 h2 => funext fun k => by rw [gI_sI, if_neg (by omega), s2.1 a k (Or.inr (by omega)), gI_sI, if_neg (by omega)])
theorem alk_core (I : Inv0 (PB B) h) (K : ∀ y Z, SWf Z → CI y Z h → MI Z h → SIZ Z B h → ∃ v h1, A h = some (v, h1) ∧ Sm1 h h1 ∧ ∃ y' Z', SWf Z' ∧ CI y' Z' h1 ∧ SIZ Z' B' h1 ∧ ∀ h', MI Z h' → ∃ h2, M h' = some (v, h2) ∧ Sm2 h' h2 ∧ MI Z' h2) : Alk2 (PB B) (PB B') A M h := by
  obtain ⟨y, Z, w, i1, i2, i3⟩ := PB_oth.mp I.2.2.2
  exact alk_coreZ I i2 (K y Z w i1 i2 i3)
end CORE
