/-! laying out, the form, the chains -/
section ZLAY
variable {d r m F : Nat} {tx : Nat → Int32} {h h' : Hp} {S : RS} {rg : Bool} {g : Nat → Nat}
/-- what layOut leaves -/
def ZL (d : Nat) (Y : YS) (h : Hp) : Prop := gI h d 5 = nI (yc Y) ∧ (∀ a, a < ycl Y → ∀ b, b < ycl Y → gI h (d + 5) (a * 12 + b) = nI (dst (yw Y) a b)) ∧ (∀ a, a < ycl Y → ∀ t, t < 4 → gI h (d + 6) (a * 4 + t) = oI (nxc Y a t)) ∧ (∀ k, k < yc Y → ∀ i, i < 4 → gI h (d + 7) (k * 4 + i) = oI (prt (yn Y) k i))
def sLy (d a k : Nat) : Prop := a = d ∧ k = 5 ∨ d + 5 ≤ a ∧ a ≤ d + 7
theorem chn_ev {n : Nat} {rg : Bool} (hn : n ≤ 4) : (if bz rg = 0 then some (mxI (nI n - (1 : Int32)) (0 : Int32)) else (if nI n < (3 : Int32) then some (mxI (nI n - (1 : Int32)) (0 : Int32)) else some (nI n))) = some (nI (chn n rg)) := by
  have : ∀ rg : Bool, ∀ n, n < 5 → (if bz rg = 0 then some (mxI (nI n - (1 : Int32)) (0 : Int32)) else (if nI n < (3 : Int32) then some (mxI (nI n - (1 : Int32)) (0 : Int32)) else some (nI n))) = some (nI (chn n rg)) := by decide
  exact this rg n (by omega)
theorem chn_b {ρ : Type} {n : Nat} {rg : Bool} {f : Int32 → Option ρ} (hn : n ≤ 4) : (Option.bind (α := Int32) (if bz rg = 0 then some (mxI (nI n - (1 : Int32)) (0 : Int32)) else (if nI n < (3 : Int32) then some (mxI (nI n - (1 : Int32)) (0 : Int32)) else some (nI n))) f) = f (nI (chn n rg)) := by
  rw [chn_ev hn]; rfl
theorem prt_ne {n k : Nat} {rg : Bool} (hk : k < chn n rg) : sec n k ≠ k := by
  obtain ⟨h1, h2⟩ := chn_2 hk
  unfold sec
  split <;> omega
theorem lay_ev {Y : YS} (hd : IsY d) (H0 : gI h d 0 = nI (yw Y)) (H1 : gI h d 1 = nI (yl Y)) (H2 : gI h d 2 = nI (ycl Y)) (H3 : gI h d 3 = nI (yb Y)) (H4 : gI h d 4 = nI (yn Y)) (H6 : gI h d 6 = bz (yr Y)) (hw : 0 < yw Y) (hw4 : yw Y ≤ 4) (hl : yl Y ≤ 3) (hn : yn Y ≤ 4) (hb : yb Y < 4096) (hF : 40 < F) : ∃ h', f_X6_layOut F d h = some h' ∧ Eo (sLy d) h h' ∧ ZL d Y h' := by
  have hy : d = 41 ∨ d = 49 := hd
  have c12 : ycl Y ≤ 12 := Nat.mul_le_mul hw4 hl
  have c4 : yc Y ≤ 4 := Nat.le_trans chn_le hn
  unfold f_X6_layOut
  simp only [nm]
  rw [H6, H4, chn_b hn, y_rf13 hd, fill_all (y_s7 hd) (by decide) (by omega), Ib]
  generalize hh6 : sA (sI h d 5 (nI (chn (yn Y) (yr Y)))) (d + 7) (fil (gI (sI h d 5 (nI (chn (yn Y) (yr Y)))) (d + 7)) 0 16 (-9)) = h6
  have e6 : Eo (sLy d) h h6 := by
    rw [← hh6]
    exact (Eo.refl.sI (Or.inl ⟨rfl, rfl⟩)).sA (fun k => Or.inr (by omega))
  have e65 : gI h6 d 5 = nI (yc Y) := by
    rw [← hh6, gAj_ne (by omega), gI_eq]; rfl
  have e67 : ∀ j, j < 16 → gI h6 (d + 7) j = -9 := fun j hj => by
    rw [← hh6, gA_eq]
    unfold fil
    rw [if_pos (by omega)]
  have key : ∀ z, Eo (fun a _k => d + 5 ≤ a ∧ a ≤ d + 7) h6 z → gI z d 0 = nI (yw Y) ∧ gI z d 1 = nI (yl Y) ∧ gI z d 2 = nI (ycl Y) ∧ gI z d 3 = nI (yb Y) ∧ gI z d 4 = nI (yn Y) ∧ gI z d 5 = nI (yc Y) := by
    intro z ez
    have k : ∀ j, gI z d j = gI h6 d j := fun j => ez.1 d j (by omega)
    refine ⟨?_, ?_, ?_, ?_, ?_, ?_⟩
    · rw [k, e6.1 _ _ (by unfold sLy; omega)]; exact H0
    · rw [k, e6.1 _ _ (by unfold sLy; omega)]; exact H1
    · rw [k, e6.1 _ _ (by unfold sLy; omega)]; exact H2
    · rw [k, e6.1 _ _ (by unfold sLy; omega)]; exact H3
    · rw [k, e6.1 _ _ (by unfold sLy; omega)]; exact H4
    · rw [k]; exact e65
  have fin : ∀ z, Eo (fun a _k => d + 5 ≤ a ∧ a ≤ d + 7) h6 z → Eo (sLy d) h z := fun z ez => e6.trans (ez.mono fun a k q => Or.inr q)
  refine fix_post (fun o => ∃ h', o = some h' ∧ Eo (sLy d) h h' ∧ ZL d Y h') (fun (j : Nat) (z : Int32 × Hp) => z.1 = nI j ∧ Eo (fun a _k => d + 5 ≤ a ∧ a ≤ d + 7) h6 z.2 ∧ (∀ k, k < j → ∀ i, i < 4 → gI z.2 (d + 7) (k * 4 + i) = oI (prt (yn Y) k i)) ∧ (∀ i, j * 4 ≤ i → i < 16 → gI z.2 (d + 7) i = -9)) (yc Y) ?_ (by omega) ?_ ?_
  · exact ⟨rfl, Eo.refl, fun k hk => absurd hk (Nat.not_lt_zero k), fun i _ hi => e67 i hi⟩
  · rintro j ⟨x, z⟩ hj ⟨rfl, ez, p1, p2⟩ self hself
    obtain ⟨k0, k1, k2, k3, k4, k5⟩ := key z ez
    have p1 : ∀ k, k < j → ∀ i, i < 4 → gI z (d + 7) (k * 4 + i) = oI (prt (yn Y) k i) := p1
    have p2 : ∀ i, j * 4 ≤ i → i < 16 → gI z (d + 7) i = -9 := p2
    have ez : Eo (fun a _k => d + 5 ≤ a ∧ a ≤ d + 7) h6 z := ez
    obtain ⟨n2, jn'⟩ := chn_2 hj
    have s4 : sec (yn Y) j < 4 := by have := sec_lt (n := yn Y) (k := j) (by omega); omega
    have sne : sec (yn Y) j ≠ j := prt_ne hj
    have f5 : gI z d 5 = nI (yc Y) := k5
    simp only [f5]
    rw [if_neg (nle_k (by omega) hj), sec_ev k4 hn (by omega), Ib, lit_4, pk_mul, nI_add, st_n (y_s7 hd) (by omega) (by decide), Ib, sec_ev (by rw [gI_ne (by omega)]; exact k4) hn (by omega), Ib, nI_add, st_n (y_s7 hd) (by omega) (by decide), Ib, n_add1]
    refine hself _ ⟨rfl, (ez.sI (by omega)).sI (by omega), fun k hk i hi => ?_, fun i hi1 hi2 => ?_⟩
    · show gI (sI (sI z (d + 7) (j * 4 + j) (nI (sec (yn Y) j))) (d + 7) (j * 4 + sec (yn Y) j) (nI j)) (d + 7) (k * 4 + i) = _
      rw [gI_at, gI_at]
      by_cases u : k = j
      · subst u
        unfold prt
        by_cases u1 : i = sec (yn Y) k
        · rw [if_pos (by omega), if_pos u1]; rfl
        · rw [if_neg (by omega), if_neg u1]
          by_cases u2 : i = k
          · rw [if_pos (by omega), if_pos u2]; rfl
          · rw [if_neg (by omega), if_neg u2]
            exact p2 _ (by omega) (by omega)
      · rw [if_neg (by omega), if_neg (by omega)]
        exact p1 k (by omega) i hi
    · show gI (sI (sI z (d + 7) (j * 4 + j) (nI (sec (yn Y) j))) (d + 7) (j * 4 + sec (yn Y) j) (nI j)) (d + 7) i = _
      rw [gI_at, gI_at, if_neg (by omega), if_neg (by omega)]
      exact p2 i (by omega) hi2
  · rintro ⟨x, z⟩ ⟨rfl, ez, p1, -⟩ self
    obtain ⟨k0, k1, k2, k3, k4, k5⟩ := key z ez
    have p1 : ∀ k, k < yc Y → ∀ i, i < 4 → gI z (d + 7) (k * 4 + i) = oI (prt (yn Y) k i) := p1
    have ez : Eo (fun a _k => d + 5 ≤ a ∧ a ≤ d + 7) h6 z := ez
    have f5 : gI z d 5 = nI (yc Y) := k5
    simp only [f5]
    rw [if_pos (rf_le (by omega))]
    refine fix_post (fun o => ∃ h', o = some h' ∧ Eo (sLy d) h h' ∧ ZL d Y h') (fun (j : Nat) (y : Int32 × Hp) => y.1 = nI j ∧ Eo (fun a _k => d + 5 ≤ a ∧ a ≤ d + 6) z y.2 ∧ (∀ a, a < j → ∀ b, b < ycl Y → gI y.2 (d + 5) (a * 12 + b) = nI (dst (yw Y) a b)) ∧ (∀ a, a < j → ∀ t, t < 4 → gI y.2 (d + 6) (a * 4 + t) = oI (nxc Y a t))) (ycl Y) ?_ (by omega) ?_ ?_
    · exact ⟨rfl, Eo.refl, fun k hk => absurd hk (Nat.not_lt_zero k), fun k hk => absurd hk (Nat.not_lt_zero k)⟩
    · rintro a ⟨x, y⟩ ha ⟨rfl, ey, q1, q2⟩ self hself
      have q1 : ∀ b, b < a → ∀ c, c < ycl Y → gI y (d + 5) (b * 12 + c) = nI (dst (yw Y) b c) := q1
      have q2 : ∀ b, b < a → ∀ t, t < 4 → gI y (d + 6) (b * 4 + t) = oI (nxc Y b t) := q2
      have ey : Eo (fun a _k => d + 5 ≤ a ∧ a ≤ d + 6) z y := ey
      have ky := key y (ez.trans (ey.mono fun a k q => by omega))
      have f2 : gI y d 2 = nI (ycl Y) := ky.2.2.1
      simp only [f2]
      rw [if_neg (nle_k (by omega) ha)]
      refine fix_post (fun o => ∃ h', o = some h' ∧ Eo (sLy d) h h' ∧ ZL d Y h') (fun (j : Nat) (u : Int32 × Hp) => u.1 = nI j ∧ Eo (fun a _k => a = d + 5) y u.2 ∧ (∀ b, b < a → ∀ c, c < ycl Y → gI u.2 (d + 5) (b * 12 + c) = nI (dst (yw Y) b c)) ∧ (∀ c, c < j → gI u.2 (d + 5) (a * 12 + c) = nI (dst (yw Y) a c))) (ycl Y) ?_ (by omega) ?_ ?_
      · exact ⟨rfl, Eo.refl, q1, fun k hk => absurd hk (Nat.not_lt_zero k)⟩
      · rintro b ⟨x, u⟩ hb' ⟨rfl, eu, r1, r2⟩ self2 hself2
        have r1 : ∀ b, b < a → ∀ c, c < ycl Y → gI u (d + 5) (b * 12 + c) = nI (dst (yw Y) b c) := r1
        have r2 : ∀ c, c < b → gI u (d + 5) (a * 12 + c) = nI (dst (yw Y) a c) := r2
        have eu : Eo (fun a _k => a = d + 5) y u := eu
        have ku := key u (ez.trans ((ey.mono fun a k q => by omega).trans (eu.mono fun a k q => by omega)))
        have g2 : gI u d 2 = nI (ycl Y) := ku.2.2.1
        have b1 := Nat.div_le_self a (yw Y)
        have b2 := Nat.div_le_self b (yw Y)
        have b3 := Nat.mod_le a (yw Y)
        have b4 := Nat.mod_le b (yw Y)
        have ed : abI (nI (a % yw Y) - nI (b % yw Y)) + abI (nI (a / yw Y) - nI (b / yw Y)) = nI (dst (yw Y) a b) := by
          rw [ab_n (by omega) (by omega), ab_n (by omega) (by omega), nI_add]
          unfold dst
          rw [Nat.add_comm]
        simp only [g2]
        rw [if_neg (nle_k (by omega) hb'), col_ev ku.1 hw hw4 (by omega), Ib, col_ev ku.1 hw hw4 (by omega), Ib, line_ev ku.1 hw hw4 (by omega), Ib, line_ev ku.1 hw hw4 (by omega), Ib, ed, lit_12, pk_mul, nI_add, y_rf11 hd, st_n (y_s5 hd) (by omega) (by decide), Ib, n_add1]
        refine hself2 _ ⟨rfl, eu.sI rfl, fun c hc e he => ?_, fun c hc => ?_⟩
        · show gI (sI u (d + 5) (a * 12 + b) _) (d + 5) (c * 12 + e) = _
          rw [gI_at, if_neg (by omega)]
          exact r1 c hc e he
        · show gI (sI u (d + 5) (a * 12 + b) _) (d + 5) (a * 12 + c) = _
          rw [gI_at]
          by_cases v : c = b
          · rw [if_pos (by omega), v]
          · rw [if_neg (by omega)]
            exact r2 c (by omega)
      · rintro ⟨x, u⟩ ⟨rfl, eu, r1, r2⟩ self2
        have r1 : ∀ b, b < a → ∀ c, c < ycl Y → gI u (d + 5) (b * 12 + c) = nI (dst (yw Y) b c) := r1
        have r2 : ∀ c, c < ycl Y → gI u (d + 5) (a * 12 + c) = nI (dst (yw Y) a c) := r2
        have eu : Eo (fun a _k => a = d + 5) y u := eu
        have ku := key u (ez.trans ((ey.mono fun a k q => by omega).trans (eu.mono fun a k q => by omega)))
        have g2 : gI u d 2 = nI (ycl Y) := ku.2.2.1
        simp only [g2]
        rw [if_pos (rf_le (by omega))]
        refine fix_post (fun o => ∃ h', o = some h' ∧ Eo (sLy d) h h' ∧ ZL d Y h') (fun (j : Nat) (v : Int32 × Hp) => v.1 = nI j ∧ Eo (fun a _k => a = d + 6) u v.2 ∧ (∀ b, b < a → ∀ t, t < 4 → gI v.2 (d + 6) (b * 4 + t) = oI (nxc Y b t)) ∧ (∀ t, t < j → gI v.2 (d + 6) (a * 4 + t) = oI (nxc Y a t))) 4 ?_ (by omega) ?_ ?_
        · refine ⟨rfl, Eo.refl, fun b hb' t ht => ?_, fun k hk => absurd hk (Nat.not_lt_zero k)⟩
          show gI u (d + 6) (b * 4 + t) = _
          rw [eu.1 _ _ (by omega)]
          exact q2 b hb' t ht
        · rintro t ⟨x, v⟩ ht ⟨rfl, ev, s1, s2⟩ self3 hself3
          have s1 : ∀ b, b < a → ∀ t, t < 4 → gI v (d + 6) (b * 4 + t) = oI (nxc Y b t) := s1
          have s2 : ∀ c, c < t → gI v (d + 6) (a * 4 + c) = oI (nxc Y a c) := s2
          have ev : Eo (fun a _k => a = d + 6) u v := ev
          have kv := key v (ez.trans ((ey.mono fun a k q => by omega).trans ((eu.mono fun a k q => by omega).trans (ev.mono fun a k q => by omega))))
          rw [if_neg (by rw [lit_4, n_le (by omega) (by omega)]; show ¬ 4 ≤ t; omega)]
          show ∃ h', ((f_X6_neighbour d (nI a) (nI t) v).bind fun v19 => (stI v (rf d 12) (nI a * (4 : Int32) + nI t) v19).bind fun h20 => self3 (nI t + 1, h20)) = some h' ∧ _
          rw [nb_ev kv.1 kv.2.1 kv.2.2.2.1 hb hw hw4 hl ha ht, Ib, lit_4, pk_mul, nI_add, y_rf12 hd, st_n (y_s6 hd) (by omega) (by decide), Ib, n_add1]
          refine hself3 _ ⟨rfl, ev.sI rfl, fun c hc e he => ?_, fun c hc => ?_⟩
          · show gI (sI v (d + 6) (a * 4 + t) _) (d + 6) (c * 4 + e) = _
            rw [gI_at, if_neg (by omega)]
            exact s1 c hc e he
          · show gI (sI v (d + 6) (a * 4 + t) _) (d + 6) (a * 4 + c) = _
            rw [gI_at]
            by_cases w : c = t
            · rw [if_pos (by omega), w]
            · rw [if_neg (by omega)]
              exact s2 c (by omega)
        · rintro ⟨x, v⟩ ⟨rfl, ev, s1, s2⟩ self3
          have s1 : ∀ b, b < a → ∀ t, t < 4 → gI v (d + 6) (b * 4 + t) = oI (nxc Y b t) := s1
          have s2 : ∀ c, c < 4 → gI v (d + 6) (a * 4 + c) = oI (nxc Y a c) := s2
          have ev : Eo (fun a _k => a = d + 6) u v := ev
          rw [if_pos (show (4 : Int32) ≤ nI 4 by decide)]
          show ∃ h', self (nI a + 1, v) = some h' ∧ _
          rw [n_add1]
          refine hself _ ⟨rfl, ey.trans ((eu.mono fun a k q => by omega).trans (ev.mono fun a k q => by omega)), fun b hb' c hc => ?_, fun b hb' t ht => ?_⟩
          · show gI v (d + 5) (b * 12 + c) = _
            rw [ev.1 _ _ (by omega)]
            by_cases w : b = a
            · rw [w]; exact r2 c hc
            · exact r1 b (by omega) c hc
          · by_cases w : b = a
            · rw [w]; exact s2 t ht
            · exact s1 b (by omega) t ht
    · rintro ⟨x, y⟩ ⟨rfl, ey, q1, q2⟩ self
      have ey : Eo (fun a _k => d + 5 ≤ a ∧ a ≤ d + 6) z y := ey
      have ey7 := ez.trans (ey.mono fun a k q => by omega)
      have ky := key y ey7
      have f2 : gI y d 2 = nI (ycl Y) := ky.2.2.1
      simp only [f2]
      rw [if_pos (rf_le (by omega))]
      refine ⟨y, rfl, fin y ey7, ky.2.2.2.2.2, q1, q2, fun k hk i hi => ?_⟩
      rw [ey.1 _ _ (by omega)]
      exact p1 k hk i hi
end ZLAY
