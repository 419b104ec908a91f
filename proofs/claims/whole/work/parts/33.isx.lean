/-! men, chains, cells: are they such; quarrel, peace -/
section ISX
variable {y : Nat} {Z : SS} {h : Hp} {x : Int32}
theorem CI.n (I : CI y Z h) : gI h y 4 = nI (yn (sY Z)) := I.2.2.2.2.1.2.2.2.2.1
theorem CI.c (I : CI y Z h) : gI h y 5 = nI (yc (sY Z)) := I.2.2.2.2.1.2.2.2.2.2.1
theorem CI.cl (I : CI y Z h) : gI h y 2 = nI (ycl (sY Z)) := I.2.2.2.2.1.2.2.1
theorem CI.w (I : CI y Z h) : gI h y 0 = nI (yw (sY Z)) := I.2.2.2.2.1.1
theorem CI.o (I : CI y Z h) : gO h 0 11 (0, 6, 14) = some y := gO_y I.1 I.2.1
theorem CI.yc (I : CI y Z h) : YC y (sY Z) h := I.2.2.2.2.1
theorem CI.rc (I : CI y Z h) : RC y (sY Z) (ct (sC Z)) (co (sC Z)) h := I.2.2.2.1
theorem CI.now (I : CI y Z h) : CCr 18 (sC Z) h := I.2.2.2.2.2.1
theorem CI.kp (I : CI y Z h) : ∀ k, k < 3 → gI h (57 + 3 * k) 0 = bz (sF Z k) ∧ (sF Z k = true → CCr (57 + 3 * k) (sK Z k) h) := I.2.2.2.2.2.2.1
theorem CI.q (I : CI y Z h) : gI h 0 13 = nI (sq Z) := I.2.2.2.2.2.2.2.1
theorem CI.qq (I : CI y Z h) : ∀ j, j < sq Z → gI h 38 j = nI (sa Z j) ∧ gI h 39 j = nI (sb Z j) := I.2.2.2.2.2.2.2.2
theorem MI.my (I : MI Z h) : MY (sY Z) h := I.1
theorem MI.now (I : MI Z h) : MCr (sY Z) (sC Z) 66 13 66 32 75 0 77 0 83 0 84 0 h := I.2.1
theorem MI.kp (I : MI Z h) : ∀ k, k < 3 → gI h 85 k = bz (sF Z k) ∧ (sF Z k = true → MCr (sY Z) (sK Z k) 87 k 86 k 88 (4 * k) 89 (4 * k) 90 (60 * k) 91 (240 * k) h) := I.2.2.1
theorem MI.q (I : MI Z h) : gI h 66 56 = nI (sq Z) := I.2.2.2.1
theorem MI.qq (I : MI Z h) : ∀ j, j < sq Z → gI h 102 j = nI (sa Z j) ∧ gI h 103 j = nI (sb Z j) := I.2.2.2.2
theorem MI.mt (I : MI Z h) : MT (sY Z) (ct (sC Z)) (co (sC Z)) h := ⟨I.now.1, fun k hk => by have := I.now.2.2.2.1 k hk; rw [Nat.zero_add] at this; exact this⟩
theorem MI.p (I : MI Z h) {i : Nat} (hi : i < yn (sY Z)) : gI h 75 i = nI (dg (cs (sC Z)) i) := by
  have := I.now.2.2.1 i hi
  rw [Nat.zero_add] at this
  exact this
theorem below_c {m : Nat} (hm : m < 2147483648) {g : Int32} (hg : g = nI m) : (inR x m → ¬ x < 0 ∧ ¬ g ≤ x) ∧ (¬ inR x m → x < 0 ∨ g ≤ x) := by
  subst hg
  constructor
  · rintro ⟨j, hj, rfl⟩
    exact ⟨nI_pos (by omega), nle_k hm hj⟩
  · exact inR_no hm
theorem cman_y (I : CI y Z h) (W : YW (sY Z)) (hx : inR x (yn (sY Z))) : f_X7_isMan x h = some 1 := by
  have hn := W.2.2.1
  obtain ⟨q1, q2⟩ := (below_c (by omega) I.n).1 hx
  unfold f_X7_isMan
  rw [if_neg q1, I.o, Ib, if_neg q2]
  rfl
theorem cman_n (I : CI y Z h) (W : YW (sY Z)) (hx : ¬ inR x (yn (sY Z))) : f_X7_isMan x h = some 0 := by
  have hn := W.2.2.1
  unfold f_X7_isMan
  by_cases q : x < 0
  · rw [if_pos q]; rfl
  · rw [if_neg q, I.o, Ib, if_pos (((below_c (by omega) I.n).2 hx).resolve_left q)]; rfl
theorem mman_y (I : MI Z h) (W : YW (sY Z)) (hx : inR x (yn (sY Z))) : f_X8_isMan x h = some 1 := by
  have hn := W.2.2.1
  unfold f_X8_isMan
  rw [I.my.2.2.1, (in_len (by omega)).1 hx]; rfl
theorem mman_n (I : MI Z h) (W : YW (sY Z)) (hx : ¬ inR x (yn (sY Z))) : f_X8_isMan x h = some 0 := by
  have hn := W.2.2.1
  unfold f_X8_isMan
  rw [I.my.2.2.1, (in_len (by omega)).2 hx]; rfl
theorem cchain_y (I : CI y Z h) (W : YW (sY Z)) (hx : inR x (yc (sY Z))) : f_X7_isChain x h = some 1 := by
  have hn := yc_le W
  obtain ⟨q1, q2⟩ := (below_c (by omega) I.c).1 hx
  unfold f_X7_isChain
  rw [if_neg q1, I.o, Ib, if_neg q2]
  rfl
theorem cchain_n (I : CI y Z h) (W : YW (sY Z)) (hx : ¬ inR x (yc (sY Z))) : f_X7_isChain x h = some 0 := by
  have hn := yc_le W
  unfold f_X7_isChain
  by_cases q : x < 0
  · rw [if_pos q]; rfl
  · rw [if_neg q, I.o, Ib, if_pos (((below_c (by omega) I.c).2 hx).resolve_left q)]; rfl
theorem mchain_y (I : MI Z h) (W : YW (sY Z)) (hx : inR x (yc (sY Z))) : f_X8_isChain x h = some 1 := by
  have hn := yc_le W
  unfold f_X8_isChain
  rw [I.my.2.2.2.1, (in_len (by omega)).1 hx]; rfl
theorem mchain_n (I : MI Z h) (W : YW (sY Z)) (hx : ¬ inR x (yc (sY Z))) : f_X8_isChain x h = some 0 := by
  have hn := yc_le W
  unfold f_X8_isChain
  rw [I.my.2.2.2.1, (in_len (by omega)).2 hx]; rfl
theorem ccell_y (I : CI y Z h) (W : YW (sY Z)) (hx : inR x (ycl (sY Z))) : f_X7_isCell x h = some 1 := by
  have hn := ycl_le W
  obtain ⟨q1, q2⟩ := (below_c (by omega) I.cl).1 hx
  unfold f_X7_isCell
  rw [if_neg q1, I.o, Ib, if_neg q2]
  rfl
theorem ccell_n (I : CI y Z h) (W : YW (sY Z)) (hx : ¬ inR x (ycl (sY Z))) : f_X7_isCell x h = some 0 := by
  have hn := ycl_le W
  unfold f_X7_isCell
  by_cases q : x < 0
  · rw [if_pos q]; rfl
  · rw [if_neg q, I.o, Ib, if_pos (((below_c (by omega) I.cl).2 hx).resolve_left q)]; rfl
theorem mcells (I : MY (sY Z) h) : f_X8_cellMany h = some (nI (ycl (sY Z))) := by
  unfold f_X8_cellMany
  rw [I.1, I.2.1, pk_mul, Nat.mul_comm]
  rfl
theorem mcell_y (I : MY (sY Z) h) (W : YW (sY Z)) (hx : inR x (ycl (sY Z))) : f_X8_isCell x h = some 1 := by
  have hn := ycl_le W
  unfold f_X8_isCell
  rw [mcells I, Ib, (in_len (by omega)).1 hx]; rfl
theorem mcell_n (I : MY (sY Z) h) (W : YW (sY Z)) (hx : ¬ inR x (ycl (sY Z))) : f_X8_isCell x h = some 0 := by
  have hn := ycl_le W
  unfold f_X8_isCell
  rw [mcells I, Ib, (in_len (by omega)).2 hx]; rfl
end ISX
theorem Sm1.refl {h : Hp} : Sm1 h h := fun _ _ _ => rfl
theorem Sm2.refl {h : Hp} : Sm2 h h := ⟨fun _ _ _ => rfl, rfl⟩
theorem Sm1.sI {h h1 : Hp} {a k : Nat} {v : Int32} (s : Sm1 h h1) (q : ¬ (irr a k = true ∨ 66 ≤ a)) : Sm1 h (sI h1 a k v) := fun b j hb => by
  rw [gI_sI, if_neg, s b j hb]
  rintro ⟨rfl, rfl⟩
  exact q hb
theorem Sm1.sA {h h1 : Hp} {a : Nat} {f : Nat → Int32} (s : Sm1 h h1) (q : ∀ k, ¬ (irr a k = true ∨ 66 ≤ a)) : Sm1 h (sA h1 a f) := fun b j hb => by
  rw [gI_sA, if_neg, s b j hb]
  rintro rfl
  exact q j hb
theorem Sm1.sR {h h1 : Hp} {a k : Nat} {v : Option Nat} (s : Sm1 h h1) : Sm1 h (sR h1 a k v) := s
theorem Sm2.sI {h h1 : Hp} {a k : Nat} {v : Int32} (s : Sm2 h h1) (q : ¬ (irr a k = true ∨ a < 66)) : Sm2 h (sI h1 a k v) := ⟨fun b j hb => by
  rw [gI_sI, if_neg, s.1 b j hb]
  rintro ⟨rfl, rfl⟩
  exact q hb, s.2⟩
theorem Sm2.sA {h h1 : Hp} {a : Nat} {f : Nat → Int32} (s : Sm2 h h1) (q : ∀ k, ¬ (irr a k = true ∨ a < 66)) : Sm2 h (sA h1 a f) := ⟨fun b j hb => by
  rw [gI_sA, if_neg, s.1 b j hb]
  rintro rfl
  exact q j hb, s.2⟩
theorem ir_no {a k : Nat} {Q : Prop} (hQ : ¬ Q) (q : ¬ (3 ≤ a ∧ a ≤ 9 ∨ 12 ≤ a ∧ a ≤ 16 ∨ a = 40 ∨ 67 ≤ a ∧ a ≤ 72 ∨ a = 0 ∧ (k = 14 ∨ k = 15) ∨ a = 66 ∧ (k = 0 ∨ k = 2))) : ¬ (irr a k = true ∨ Q) := by
  rintro (z | z)
  · rw [irr_no q] at z
    cases z
  · exact hQ z
def setQ (Z : SS) (q : Nat) (a b : Nat → Nat) : SS := (sY Z, sC Z, sF Z, sK Z, q, a, b)
theorem CI.setQ {y : Nat} {Z : SS} {h h' : Hp} {q : Nat} {a b : Nat → Nat} (I : CI y Z h) (e : ∀ a k, cCy y a k → ¬ (a = 0 ∨ a = 38 ∨ a = 39) → gI h' a k = gI h a k) (r : gR h' = gR h) (q1 : gI h' 0 13 = nI q) (q2 : ∀ j, j < q → gI h' 38 j = nI (a j) ∧ gI h' 39 j = nI (b j)) : CI y (setQ Z q a b) h' := by
  obtain ⟨i1, i2, i3, ⟨i4, i5, i6⟩, i7, i8, i9, i10, i11⟩ := I
  have hy : y = 41 ∨ y = 49 := i1
  refine ⟨i1, by rw [r]; exact i2, by rw [r]; exact i3, ⟨by rw [r]; exact i4, ?_, ?_⟩, i7.keep fun b k hb => e b k ?_ ?_, i8.keep fun b k hb => e b k ?_ ?_, fun k hk => ⟨?_, fun hf => ((i9 k hk).2 hf).keep fun b j hb => e b j ?_ ?_⟩, q1, q2⟩
  · rw [e 22 1 (by unfold cCy; omega) (by omega)]; exact i5
  · rw [e 22 2 (by unfold cCy; omega) (by omega)]; exact i6
  · unfold cCy; omega
  · omega
  · unfold cCy; omega
  · omega
  · rw [e _ 0 (by unfold cCy; omega) (by omega)]; exact (i9 k hk).1
  · unfold cCy; omega
  · omega
theorem MI.setQ {Z : SS} {h h' : Hp} {q : Nat} {a b : Nat → Nat} (I : MI Z h) (e : ∀ a k, cM a k → ¬ (a = 66 ∧ k = 56 ∨ a = 102 ∨ a = 103) → gI h' a k = gI h a k) (q1 : gI h' 66 56 = nI q) (q2 : ∀ j, j < q → gI h' 102 j = nI (a j) ∧ gI h' 103 j = nI (b j)) : MI (setQ Z q a b) h' := by
  obtain ⟨⟨m1, m2, m3, m4, m5, m6, m7⟩, i2, i3, i4, i5⟩ := I
  refine ⟨⟨?_, ?_, ?_, ?_, fun a ha => ?_, fun a ha => ?_, fun a ha => ?_⟩, i2.keep ?_ ?_ (fun k => ?_) (fun k => ?_) (fun k => ?_) (fun k => ?_), fun k hk => ⟨?_, fun hf => ((i3 k hk).2 hf).keep ?_ ?_ (fun k => ?_) (fun k => ?_) (fun k => ?_) (fun k => ?_)⟩, q1, q2⟩
  · rw [e 66 8 (by unfold cM; omega) (by omega)]; exact m1
  · rw [e 66 9 (by unfold cM; omega) (by omega)]; exact m2
  · rw [e 66 10 (by unfold cM; omega) (by omega)]; exact m3
  · rw [e 66 11 (by unfold cM; omega) (by omega)]; exact m4
  · rw [e 73 a (by unfold cM; omega) (by omega)]; exact m5 a ha
  · rw [e 74 a (by unfold cM; omega) (by omega)]; exact m6 a ha
  · rw [e 76 a (by unfold cM; omega) (by omega)]; exact m7 a ha
  case refine_14 => rw [e 85 k (by unfold cM; omega) (by omega)]; exact (i3 k hk).1
  all_goals exact e _ _ (by unfold cM; omega) (by omega)
section QUARREL
variable {B : Nat} {h : Hp}
/-- refused, nothing changes -/
theorem rs {y : Nat} {Z : SS} {A M : Hp → Option (Int32 × Hp)} {v : Int32} (w : SWf Z) (ci : CI y Z h) (si : SIZ Z B h) (h1 : A h = some (v, h)) (h2 : ∀ h', MI Z h' → ∃ h2, M h' = some (v, h2) ∧ Sm2 h' h2 ∧ MI Z h2) : ∃ v h1, A h = some (v, h1) ∧ Sm1 h h1 ∧ ∃ y' Z', SWf Z' ∧ CI y' Z' h1 ∧ SIZ Z' B h1 ∧ ∀ h', MI Z h' → ∃ h2, M h' = some (v, h2) ∧ Sm2 h' h2 ∧ MI Z' h2 := ⟨v, h, h1, Sm1.refl, y, Z, w, ci, si, h2⟩
theorem rs0 {y : Nat} {Z : SS} {A M : Hp → Option (Int32 × Hp)} {v : Int32} (w : SWf Z) (ci : CI y Z h) (si : SIZ Z B h) (h1 : A h = some (v, h)) (h2 : ∀ h', MI Z h' → M h' = some (v, h')) : ∃ v h1, A h = some (v, h1) ∧ Sm1 h h1 ∧ ∃ y' Z', SWf Z' ∧ CI y' Z' h1 ∧ SIZ Z' B h1 ∧ ∀ h', MI Z h' → ∃ h2, M h' = some (v, h2) ∧ Sm2 h' h2 ∧ MI Z' h2 := rs w ci si h1 (fun h' mi' => ⟨h', h2 h' mi', Sm2.refl, mi'⟩)
theorem alk_quarrel {i j : Int32} (I : Inv0 (PB B) h) : Alk2 (PB B) (PB B) (f_X7_quarrel i j) (f_X8_quarrel i j) h := by
  refine alk_core I (fun y Z w ci mi si => ?_)
  have w0 := w
  obtain ⟨W, -, -, w8, wq⟩ := w0
  by_cases hi : inR i (yn (sY Z))
  · by_cases hj : inR j (yn (sY Z))
    · by_cases hij : i = j
      · refine rs0 (v := -1) w ci si ?_ (fun h' mi' => ?_)
        · unfold f_X7_quarrel
          rw [cman_y ci W hi, Ib, i10, cman_y ci W hj, Ib, i10, if_pos hij]
        · unfold f_X8_quarrel
          rw [mman_y mi' W hi, Ib, i10, mman_y mi' W hj, Ib, i10, if_pos hij]
      · have hi0 := hi
        have hj0 := hj
        obtain ⟨a, ha, rfl⟩ := hi
        obtain ⟨b, hb, rfl⟩ := hj
        have hn := W.2.2.1
        have hab : a ≠ b := fun q => hij (by rw [q])
        by_cases q8 : sq Z = 8
        · refine ⟨-2, h, ?_, Sm1.refl, y, Z, w, ci, si, fun h' mi' => ⟨h', ?_, Sm2.refl, mi'⟩⟩
          · unfold f_X7_quarrel
            rw [cman_y ci W hi0, Ib, i10, cman_y ci W hj0, Ib, i10, if_neg hij, ci.q, q8, if_neg (by decide)]
          · unfold f_X8_quarrel
            rw [mman_y mi' W hi0, Ib, i10, mman_y mi' W hj0, Ib, i10, if_neg hij, mi'.q, q8, if_pos (by decide)]
        · have q7 : sq Z < 8 := by omega
          refine ⟨nI (sq Z), sI (sI (sI h 38 (sq Z) (nI a)) 39 (sq Z) (nI b)) 0 13 (nI (sq Z + 1)), ?_, ((Sm1.refl.sI (ir_no (by omega) (by omega))).sI (ir_no (by omega) (by omega))).sI (ir_no (by omega) (by omega)), y, setQ Z (sq Z + 1) (fun k => if k = sq Z then a else sa Z k) (fun k => if k = sq Z then b else sb Z k), ⟨W, w.2.1, w.2.2.1, q7, fun k hk => ?_⟩, ci.setQ (fun a' k' hc hn' => ?_) rfl gI_eq (fun k hk => ⟨?_, ?_⟩), SI.keep si (fun a' h1 h2 => ?_), fun h' mi' => ⟨sI (sI (sI h' 102 (sq Z) (nI a)) 103 (sq Z) (nI b)) 66 56 (nI (sq Z + 1)), ?_, ((Sm2.refl.sI (ir_no (by omega) (by omega))).sI (ir_no (by omega) (by omega))).sI (ir_no (by omega) (by omega)), mi'.setQ (fun a' k' hc hn' => ?_) gI_eq (fun k hk => ⟨?_, ?_⟩)⟩⟩
          · unfold f_X7_quarrel
            simp only [nm]
            rw [cman_y ci W hi0, Ib, i10, cman_y ci W hj0, Ib, i10, if_neg hij, ci.q, lit_8, i_lt (by omega) (by decide), if_pos q7, st_38 q7, Ib, gI_ne (by decide), ci.q, st_39 q7, Ib]
            simp (disch := decide) only [gI_ne, gI_eq, ci.q, n_add1]
            rw [nI_pred]
          · show (if k = sq Z then a else sa Z k) < yn (sY Z) ∧ (if k = sq Z then b else sb Z k) < yn (sY Z) ∧ (if k = sq Z then a else sa Z k) ≠ (if k = sq Z then b else sb Z k)
            by_cases e : k = sq Z
            · simp only [if_pos e]
              exact ⟨ha, hb, hab⟩
            · simp only [if_neg e]
              exact wq k (by have : k < sq Z + 1 := hk; omega)
          · rw [gI_ne (by omega), gI_ne (by omega), gI_ne (by omega)]
          · rw [gI_ne (by decide), gI_ne (by decide), gI_at]
            by_cases e : k = sq Z
            · rw [if_pos e, if_pos e]
            · rw [if_neg e, if_neg e]
              exact (ci.qq k (by omega)).1
          · rw [gI_ne (by decide), gI_at]
            by_cases e : k = sq Z
            · rw [if_pos e, if_pos e]
            · rw [if_neg e, if_neg e, gI_ne (by decide)]
              exact (ci.qq k (by omega)).2
          · rw [gf_ne (by omega), gf_ne (by omega), gf_ne (by omega)]
          · unfold f_X8_quarrel
            simp only [nm]
            rw [mman_y mi' W hi0, Ib, i10, mman_y mi' W hj0, Ib, i10, if_neg hij, mi'.q, lit_8, i_eq (by omega) (by decide), if_neg q8, st_102 q7, Ib, gI_ne (by decide), mi'.q, st_103 q7, Ib]
            simp (disch := decide) only [gI_ne, gI_eq, mi'.q, n_add1]
            rw [nI_pred]
          · unfold cM at hc
            rw [gI_sI, if_neg (by omega), gI_sI, if_neg (by omega), gI_sI, if_neg (by omega)]
          · rw [gI_ne (by decide), gI_ne (by decide), gI_at]
            by_cases e : k = sq Z
            · rw [if_pos e, if_pos e]
            · rw [if_neg e, if_neg e]
              exact (mi'.qq k (by omega)).1
          · rw [gI_ne (by decide), gI_at]
            by_cases e : k = sq Z
            · rw [if_pos e, if_pos e]
            · rw [if_neg e, if_neg e, gI_ne (by decide)]
              exact (mi'.qq k (by omega)).2
    · refine rs0 (v := -1) w ci si ?_ (fun h' mi' => ?_)
      · unfold f_X7_quarrel
        rw [cman_y ci W hi, Ib, i10, cman_n ci W hj, Ib, i00]
      · unfold f_X8_quarrel
        rw [mman_y mi' W hi, Ib, i10, mman_n mi' W hj, Ib, i00]
  · refine rs0 (v := -1) w ci si ?_ (fun h' mi' => ?_)
    · unfold f_X7_quarrel
      rw [cman_n ci W hi, Ib, i00]
    · unfold f_X8_quarrel
      rw [mman_n mi' W hi, Ib, i00]
theorem alk_peace {x : Int32} (I : Inv0 (PB B) h) : Alk2 (PB B) (PB B) (f_X7_peace x) (f_X8_peace x) h := by
  refine alk_core I (fun y Z w ci mi si => ?_)
  have w8 := w.2.2.2.1
  by_cases hx : inR x (sq Z + 1)
  · obtain ⟨n, hn, rfl⟩ := hx
    refine ⟨nI (sq Z - n), sI h 0 13 (nI n), ?_, Sm1.refl.sI (ir_no (by omega) (by omega)), y, setQ Z n (sa Z) (sb Z), ⟨w.1, w.2.1, w.2.2.1, by show n ≤ 8; omega, fun j hj => w.2.2.2.2 j (by have : j < n := hj; omega)⟩, ci.setQ (fun a k hc hn' => ?_) rfl gI_eq (fun j hj => ?_), SI.keep si (fun a h1 h2 => ?_), fun h' mi' => ⟨sI h' 66 56 (nI n), ?_, Sm2.refl.sI (ir_no (by omega) (by omega)), mi'.setQ (fun a k hc hn' => ?_) gI_eq (fun j hj => ?_)⟩⟩
    · unfold f_X7_peace
      simp only [nm]
      rw [i_neg (by omega), ci.q, i_le (by omega) (by omega), if_pos (by omega), pk_sub (by omega)]
    · rw [gI_ne (by omega)]
    · rw [gI_ne (by decide), gI_ne (by decide)]
      exact ci.qq j (by omega)
    · rw [gf_ne (by omega)]
    · unfold f_X8_peace
      simp only [nm]
      rw [mi'.q, show sq Z = sq Z + 1 - 1 from rfl, in_yes (by omega) hn, Ib, i10, pk_sub (by omega)]
    · unfold cM at hc
      rw [gI_sI, if_neg (by omega)]
    · rw [gI_ne (by decide), gI_ne (by decide)]
      exact mi'.qq j (by omega)
  · refine ⟨-1, h, ?_, Sm1.refl, y, Z, w, ci, si, fun h' mi' => ⟨h', ?_, Sm2.refl, mi'⟩⟩
    · unfold f_X7_peace
      by_cases q : x < 0
      · rw [if_pos q]
      · obtain ⟨j, hj, rfl⟩ := nI_of q
        rw [if_neg q, ci.q, i_le hj (by omega), if_neg (fun z => hx ⟨j, by omega, rfl⟩)]
    · unfold f_X8_peace
      rw [mi'.q, show sq Z = sq Z + 1 - 1 from rfl, in_no (by omega) (by omega) hx, Ib, i00]
end QUARREL
