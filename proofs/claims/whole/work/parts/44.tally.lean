/-! counting stands and leads -/
theorem fix_postG {σ ρ : Type} {b : (σ → Option ρ) → σ → Option ρ} (Q : Option ρ → Prop) (I : Nat → σ → Prop) (n : Nat) (hs : ∀ k s, k < n → I k s → ∀ self, (∀ s', I (k + 1) s' → Q (self s')) → Q (b self s)) (he : ∀ s, I n s → ∀ self, Q (b self s)) : ∀ (d k F : Nat) (s : σ), k + d = n → d < F → I k s → Q (fix b F s)
  | 0, k, F + 1, s, hk, _, h => by
    have : k = n := by omega
    subst this
    exact he s h _
  | d + 1, k, F + 1, s, hk, hF, h => by
    show Q (b (fix b F) s)
    exact hs k s (by omega) h _ (fun s' h' => fix_postG Q I n hs he d (k + 1) F s' (by omega) (by omega) h')
/-- a loop of at most n turns, by an invariant; it may end early; what holds of its end -/
theorem fix_post {σ ρ : Type} {b : (σ → Option ρ) → σ → Option ρ} {F : Nat} {s0 : σ} (Q : Option ρ → Prop) (I : Nat → σ → Prop) (n : Nat) (h0 : I 0 s0) (hF : n < F) (hs : ∀ k s, k < n → I k s → ∀ self, (∀ s', I (k + 1) s' → Q (self s')) → Q (b self s)) (he : ∀ s, I n s → ∀ self, Q (b self s)) : Q (fix b F s0) := fix_postG Q I n hs he n 0 F s0 (by omega) hF h0
theorem sumN_add {f : Nat → Nat} {m : Nat} : ∀ k, sumN f (m + k) = sumN f m + sumN (fun b => f (m + b)) k
  | 0 => rfl
  | k + 1 => by
    show sumN f (m + k) + f (m + k) = sumN f m + (sumN (fun b => f (m + b)) k + f (m + k))
    rw [sumN_add k, Nat.add_assoc]
theorem sumN_mul {f : Nat → Nat} {k : Nat} : ∀ m, sumN f (m * k) = sumN (fun a => sumN (fun b => f (a * k + b)) k) m
  | 0 => by rw [Nat.zero_mul]; rfl
  | m + 1 => by
    rw [Nat.succ_mul, sumN_add, sumN_mul m]
    rfl
theorem sumN_le {f g : Nat → Nat} : ∀ {m : Nat}, (∀ j, j < m → f j ≤ g j) → sumN f m ≤ sumN g m
  | 0, _ => Nat.le_refl _
  | m + 1, h => Nat.add_le_add (sumN_le fun j hj => h j (by omega)) (h m (by omega))
theorem sumN_0 {f : Nat → Nat} : ∀ {m : Nat}, (∀ j, j < m → f j = 0) → sumN f m = 0
  | 0, _ => rfl
  | m + 1, h => by
    show sumN f m + f m = 0
    rw [sumN_0 fun j hj => h j (by omega), h m (by omega)]
theorem sumN_congr {f g : Nat → Nat} : ∀ {m : Nat}, (∀ j, j < m → f j = g j) → sumN f m = sumN g m
  | 0, _ => rfl
  | m + 1, h => by
    show sumN f m + f m = sumN g m + g m
    rw [sumN_congr fun j hj => h j (by omega), h m (by omega)]
theorem sumN_upd {f g : Nat → Nat} {s : Nat} : ∀ {m : Nat}, s < m → (∀ j, j < m → j ≠ s → g j = f j) → f s = 0 → sumN g m = sumN f m + g s
  | m + 1, hs, h, h0 => by
    show sumN g m + g m = sumN f m + f m + g s
    by_cases e : s = m
    · subst e
      rw [sumN_congr (fun j hj => h j (by omega) (by omega)), h0]
      rfl
    · rw [sumN_upd (m := m) (by omega) (fun j hj hn => h j (by omega) hn) h0, h m (by omega) (by omega)]
      omega
def zfr (w l a m d : Nat) : Nat := match nxg w l a d with
  | none => 0
  | some b => if m.testBit b = true then 0 else 1
def zdg (w l n i a m : Nat) : Nat := if i < n then zfr w l a m 0 + zfr w l a m 1 + zfr w l a m 2 + zfr w l a m 3 else 0
def zok (w l n i c m : Nat) : Bool := if i < n then decide (c < w * l) && !m.testBit c else decide (c = 0)
def znx (n i c m : Nat) : Nat := if i < n then m ||| 2 ^ c else m
def zT (w l n : Nat) (lf : Nat → Nat → Nat → Nat → Nat → Nat) : Nat := sumN (fun a => if zok w l n 0 a 0 = true then sumN (fun b => if zok w l n 1 b (znx n 0 a 0) = true then sumN (fun c => if zok w l n 2 c (znx n 1 b (znx n 0 a 0)) = true then sumN (fun d => if zok w l n 3 d (znx n 2 c (znx n 1 b (znx n 0 a 0))) = true then lf a b c d (znx n 3 d (znx n 2 c (znx n 1 b (znx n 0 a 0)))) else 0) 12 else 0) 12 else 0) 12 else 0) 12
def zlf (w l n a b c d m : Nat) : Nat := zdg w l n 0 a m + zdg w l n 1 b m + zdg w l n 2 c m + zdg w l n 3 d m
def frc {α : Type} (m : Nat) (f : Nat → α) : α := match m with
  | 0 => f 0
  | k + 1 => f (k + 1)
theorem frc_eq {α : Type} {m : Nat} {f : Nat → α} : frc m f = f m := by cases m <;> rfl
def zV (w l n : Nat) (G : Nat → Nat) : Nat → Nat → Nat
  | 0, m => frc m G
  | j + 1, m => frc m (fun m => sumN (fun c => if zok w l n (3 - j) c m = true then zV w l n G j (znx n (3 - j) c m) else 0) 12)
theorem zV_T {w l n : Nat} {G : Nat → Nat} : zT w l n (fun _ _ _ _ m => G m) = zV w l n G 4 0 := by
  unfold zT
  simp only [zV, frc_eq]
def gz (w l m : Nat) : Nat := sumN (fun x => if m.testBit x = true then zfr w l x m 0 + zfr w l x m 1 + zfr w l x m 2 + zfr w l x m 3 else 0) 12
set_option maxRecDepth 100000 in
theorem zT_fin1 : alN 5 (fun w => alN 4 fun l => alN 5 fun n => decide (zV w l n (fun _ => 1) 4 0 ≤ 11880)) = true := by decide +kernel
set_option maxRecDepth 100000 in
theorem zT_fin2 : alN 5 (fun w => alN 4 fun l => alN 5 fun n => decide (zV w l n (gz w l) 4 0 ≤ 97920)) = true := by decide +kernel
theorem occ_sum {s : Nat} {f : Nat → Nat} : ∀ {i : Nat}, (∀ a, a < i → ∀ b, b < i → a ≠ b → dg s a ≠ dg s b) → sumN (fun j => f (dg s j)) i = sumN (fun x => if ocb s x i = true then f x else 0) 12
  | 0, _ => by
    have : sumN (fun x => if ocb s x 0 = true then f x else 0) 12 = 0 := sumN_0 (fun j _ => if_neg (by show ¬ false = true; decide))
    rw [this]; rfl
  | i + 1, h => by
    show sumN (fun j => f (dg s j)) i + f (dg s i) = _
    rw [occ_sum (fun a ha b hb hab => h a (by omega) b (by omega) hab)]
    have no : ocb s (dg s i) i = false := by
      cases e : ocb s (dg s i) i with
      | false => rfl
      | true =>
        obtain ⟨j, hj, hd⟩ := ocb_iff.mp e
        exact absurd hd (h j (by omega) i (by omega) (by omega))
    have yes : ocb s (dg s i) (i + 1) = true := ocb_iff.mpr ⟨i, by omega, rfl⟩
    have := sumN_upd (f := fun x => if ocb s x i = true then f x else 0) (g := fun x => if ocb s x (i + 1) = true then f x else 0) (s := dg s i) (m := 12) (dg_lt s i) (fun x hx hn => by
      have : ocb s x (i + 1) = ocb s x i := by
        show (ocb s x i || decide (dg s i = x)) = _
        rw [decide_eq_false (fun z => hn z.symm), Bool.or_false]
      simp only [this]) (by simp only [no]; rfl)
    rw [this]
    simp only [yes, if_true]
theorem zlf_le {Y : YS} {s : Nat} (W : YW Y) (S : SW Y s) : zlf (yw Y) (yl Y) (yn Y) (dg s 0) (dg s 1) (dg s 2) (dg s 3) (tkb s (yn Y)) = gz (yw Y) (yl Y) (tkb s (yn Y)) := by
  have hn := W.2.2.1
  have e1 : zlf (yw Y) (yl Y) (yn Y) (dg s 0) (dg s 1) (dg s 2) (dg s 3) (tkb s (yn Y)) = sumN (fun j => (fun x => zfr (yw Y) (yl Y) x (tkb s (yn Y)) 0 + zfr (yw Y) (yl Y) x (tkb s (yn Y)) 1 + zfr (yw Y) (yl Y) x (tkb s (yn Y)) 2 + zfr (yw Y) (yl Y) x (tkb s (yn Y)) 3) (dg s j)) (yn Y) := by
    unfold zlf zdg
    generalize tkb s (yn Y) = m
    generalize yn Y = n at *
    have : n = 0 ∨ n = 1 ∨ n = 2 ∨ n = 3 ∨ n = 4 := by omega
    rcases this with rfl | rfl | rfl | rfl | rfl <;> simp [sumN]
  rw [e1, occ_sum (f := fun x => zfr (yw Y) (yl Y) x (tkb s (yn Y)) 0 + zfr (yw Y) (yl Y) x (tkb s (yn Y)) 1 + zfr (yw Y) (yl Y) x (tkb s (yn Y)) 2 + zfr (yw Y) (yl Y) x (tkb s (yn Y)) 3) S.2.2.2]
  unfold gz
  refine sumN_congr fun x _ => ?_
  rw [tkb_tb]
theorem zok_SW {Y : YS} {s i : Nat} (S : SW Y s) (hi : i < 4) : zok (yw Y) (yl Y) (yn Y) i (dg s i) (tkb s (min i (yn Y))) = true := by
  unfold zok
  by_cases q : i < yn Y
  · rw [if_pos q, Nat.min_eq_left (by omega), tkb_tb]
    have h1 : dg s i < yw Y * yl Y := S.2.2.1 i q
    have h2 : ocb s (dg s i) i = false := by
      cases e : ocb s (dg s i) i with
      | false => rfl
      | true =>
        obtain ⟨j, hj, hd⟩ := ocb_iff.mp e
        exact absurd hd (S.2.2.2 j (by omega) i q (by omega))
    rw [h2, decide_eq_true h1]; rfl
  · rw [if_neg q, S.2.1 i hi (by omega)]; rfl
theorem znx_tk {s n i : Nat} : znx n i (dg s i) (tkb s (min i n)) = tkb s (min (i + 1) n) := by
  unfold znx
  by_cases q : i < n
  · rw [if_pos q, Nat.min_eq_left (by omega), Nat.min_eq_left (by omega)]; rfl
  · rw [if_neg q, Nat.min_eq_right (by omega), Nat.min_eq_right (by omega)]
theorem zlev {f : Nat → Nat} {k : Nat} {G : Nat → Nat} {z : Nat → Bool} (h1 : ∀ a, a < 12 → z a = true → sumN (fun b => f (a * k + b)) k ≤ G a) (h2 : ∀ a, a < 12 → z a = false → ∀ b, b < k → f (a * k + b) = 0) : sumN f (12 * k) ≤ sumN (fun a => if z a = true then G a else 0) 12 := by
  rw [sumN_mul]
  refine sumN_le fun a ha => ?_
  by_cases q : z a = true
  · rw [if_pos q]; exact h1 a ha q
  · rw [if_neg q, sumN_0 (h2 a ha (by simpa using q))]
    exact Nat.le_refl _
theorem zT_le {Y : YS} {P : Nat → Bool} {f : Nat → Nat} {lf : Nat → Nat → Nat → Nat → Nat → Nat} (W : YW Y) (hP : ∀ s, s < 20736 → P s = true → SW Y s ∧ f s ≤ lf (dg s 0) (dg s 1) (dg s 2) (dg s 3) (tkb s (yn Y))) : sumN (fun s => if P s = true then f s else 0) 20736 ≤ zT (yw Y) (yl Y) (yn Y) lf := by
  have hn := W.2.2.1
  have key : ∀ a b c d, a < 12 → b < 12 → c < 12 → d < 12 → P (a * 1728 + (b * 144 + (c * 12 + d))) = true → zok (yw Y) (yl Y) (yn Y) 0 a 0 = true ∧ zok (yw Y) (yl Y) (yn Y) 1 b (znx (yn Y) 0 a 0) = true ∧ zok (yw Y) (yl Y) (yn Y) 2 c (znx (yn Y) 1 b (znx (yn Y) 0 a 0)) = true ∧ zok (yw Y) (yl Y) (yn Y) 3 d (znx (yn Y) 2 c (znx (yn Y) 1 b (znx (yn Y) 0 a 0))) = true ∧ f (a * 1728 + (b * 144 + (c * 12 + d))) ≤ lf a b c d (znx (yn Y) 3 d (znx (yn Y) 2 c (znx (yn Y) 1 b (znx (yn Y) 0 a 0)))) := by
    intro a b c d ha hb hc hd hp
    generalize hs : a * 1728 + (b * 144 + (c * 12 + d)) = s at *
    have g0 : dg s 0 = a := by unfold dg; simp only [wg_0]; omega
    have g1 : dg s 1 = b := by unfold dg; simp only [wg_1]; omega
    have g2 : dg s 2 = c := by unfold dg; simp only [wg_2]; omega
    have g3 : dg s 3 = d := by unfold dg; simp only [wg_3]; omega
    obtain ⟨S, hf⟩ := hP s (by omega) hp
    have z0 := zok_SW S (show 0 < 4 by decide)
    have z1 := zok_SW S (show 1 < 4 by decide)
    have z2 := zok_SW S (show 2 < 4 by decide)
    have z3 := zok_SW S (show 3 < 4 by decide)
    have n0 : znx (yn Y) 0 a 0 = tkb s (min 1 (yn Y)) := by
      have := znx_tk (s := s) (n := yn Y) (i := 0)
      rw [g0, Nat.zero_min] at this
      exact this
    have n1 : znx (yn Y) 1 b (tkb s (min 1 (yn Y))) = tkb s (min 2 (yn Y)) := by
      have := znx_tk (s := s) (n := yn Y) (i := 1)
      rw [g1] at this
      exact this
    have n2 : znx (yn Y) 2 c (tkb s (min 2 (yn Y))) = tkb s (min 3 (yn Y)) := by
      have := znx_tk (s := s) (n := yn Y) (i := 2)
      rw [g2] at this
      exact this
    have n3 : znx (yn Y) 3 d (tkb s (min 3 (yn Y))) = tkb s (min 4 (yn Y)) := by
      have := znx_tk (s := s) (n := yn Y) (i := 3)
      rw [g3] at this
      exact this
    rw [g0, Nat.zero_min] at z0
    rw [g1] at z1
    rw [g2] at z2
    rw [g3] at z3
    rw [g0, g1, g2, g3] at hf
    rw [n0, n1, n2, n3, Nat.min_eq_right hn]
    exact ⟨z0, z1, z2, z3, hf⟩
  unfold zT
  refine zlev (f := fun s => if P s = true then f s else 0) (k := 1728) (fun a ha qa => ?_) (fun a ha qa r hr => ?_)
  · refine zlev (f := fun r => if P (a * 1728 + r) = true then f (a * 1728 + r) else 0) (k := 144) (fun b hb qb => ?_) (fun b hb qb r hr => ?_)
    · refine zlev (f := fun r => if P (a * 1728 + (b * 144 + r)) = true then f (a * 1728 + (b * 144 + r)) else 0) (k := 12) (fun c hc qc => ?_) (fun c hc qc r hr => ?_)
      · refine sumN_le fun d hd => ?_
        by_cases p : P (a * 1728 + (b * 144 + (c * 12 + d))) = true
        · obtain ⟨-, -, -, k4, k5⟩ := key a b c d ha hb hc hd p
          simp only [if_pos p, if_pos k4]
          exact k5
        · simp only [if_neg p]
          exact Nat.zero_le _
      · by_cases p : P (a * 1728 + (b * 144 + (c * 12 + r))) = true
        · obtain ⟨-, -, k3, -, -⟩ := key a b c r ha hb hc hr p
          rw [qc] at k3
          cases k3
        · simp only [if_neg p]
    · obtain ⟨c, d, hc, hd, rfl⟩ : ∃ c d, c < 12 ∧ d < 12 ∧ r = c * 12 + d := ⟨r / 12, r % 12, by omega, by omega, by omega⟩
      by_cases p : P (a * 1728 + (b * 144 + (c * 12 + d))) = true
      · obtain ⟨-, k2, -, -, -⟩ := key a b c d ha hb hc hd p
        rw [qb] at k2
        cases k2
      · simp only [if_neg p]
  · obtain ⟨b, c, d, hb, hc, hd, rfl⟩ : ∃ b c d, b < 12 ∧ c < 12 ∧ d < 12 ∧ r = b * 144 + (c * 12 + d) := ⟨r / 144, r % 144 / 12, r % 12, by omega, by omega, by omega, by omega⟩
    by_cases p : P (a * 1728 + (b * 144 + (c * 12 + d))) = true
    · obtain ⟨k1, -, -, -, -⟩ := key a b c d ha hb hc hd p
      rw [qa] at k1
      cases k1
    · simp only [if_neg p]
theorem fm_len {α : Type} {g : Nat → Option α} : ∀ m, ((List.range m).filterMap g).length = cnt (fun k => (g k).isSome) m
  | 0 => rfl
  | m + 1 => by
    rw [List.range_succ, List.filterMap_append, List.length_append, fm_len m]
    cases e : g m with
    | none => rw [cnt_s0 (by rw [e]; rfl)]; simp [e]
    | some x => rw [cnt_s1 (by rw [e]; rfl)]; simp [e]
theorem cnt_sum {p : Nat → Bool} {g : Nat → Nat} : ∀ {m : Nat}, (∀ j, j < m → p j = true → 1 ≤ g j) → cnt p m ≤ sumN g m
  | 0, _ => Nat.le_refl _
  | m + 1, h => by
    have ih := cnt_sum (p := p) (g := g) (m := m) (fun j hj => h j (by omega))
    show cnt p m + (if p m = true then 1 else 0) ≤ sumN g m + g m
    by_cases q : p m = true
    · rw [if_pos q]
      have := h m (by omega) q
      omega
    · rw [if_neg q]
      omega
theorem aft_free {Y : YS} {t op s i d s' : Nat} (h : aft Y t op s i d = some s') : ∃ b, nxg (yw Y) (yl Y) (dg s i) d = some b ∧ ocb s b (yn Y) = false := by
  unfold aft at h
  split at h
  · cases hb : nxc Y (dg s i) d with
    | none => rw [hb] at h; cases h
    | some b =>
      rw [hb] at h
      simp only at h
      split at h
      · cases h
      · rename_i hno
        unfold nxc at hb
        cases e : nxg (yw Y) (yl Y) (dg s i) d with
        | none => rw [e] at hb; cases hb
        | some c =>
          rw [e] at hb
          simp only at hb
          split at hb
          · cases hb
          · cases hb
            exact ⟨b, rfl, by
              cases q : ocb s b (yn Y) with
              | false => rfl
              | true => exact absurd (Or.inr q) hno⟩
  · cases h
theorem lds_le {Y : YS} {t op s : Nat} : (lds Y t op s).length ≤ zlf (yw Y) (yl Y) (yn Y) (dg s 0) (dg s 1) (dg s 2) (dg s 3) (tkb s (yn Y)) := by
  unfold lds
  rw [fm_len]
  refine Nat.le_trans (cnt_sum (g := fun k => if k / 4 < yn Y then zfr (yw Y) (yl Y) (dg s (k / 4)) (tkb s (yn Y)) (k % 4) else 0) (fun j hj hp => ?_)) ?_
  · have hp := hp
    by_cases q : j / 4 < yn Y
    · rw [if_pos q] at hp ⊢
      cases e : aft Y t op s (j / 4) (j % 4) with
      | none => rw [e] at hp; cases hp
      | some s' =>
        obtain ⟨b, h1, h2⟩ := aft_free e
        unfold zfr
        rw [h1]
        simp only
        rw [tkb_tb, h2]
        decide
    · rw [if_neg q] at hp
      cases hp
  · refine Nat.le_of_eq ?_
    rw [show (16 : Nat) = 4 * 4 from rfl, sumN_mul]
    have e : ∀ i, i < 4 → sumN (fun b => (fun k => if k / 4 < yn Y then zfr (yw Y) (yl Y) (dg s (k / 4)) (tkb s (yn Y)) (k % 4) else 0) (i * 4 + b)) 4 = zdg (yw Y) (yl Y) (yn Y) i (dg s i) (tkb s (yn Y)) := by
      intro i hi
      unfold zdg
      simp only [sumN]
      rw [show (i * 4 + 0) / 4 = i by omega, show (i * 4 + 1) / 4 = i by omega, show (i * 4 + 2) / 4 = i by omega, show (i * 4 + 3) / 4 = i by omega, show (i * 4 + 0) % 4 = 0 by omega, show (i * 4 + 1) % 4 = 1 by omega, show (i * 4 + 2) % 4 = 2 by omega, show (i * 4 + 3) % 4 = 3 by omega]
      by_cases q : i < yn Y
      · simp only [if_pos q, Nat.zero_add]
      · simp only [if_neg q]
    rw [sumN_congr e]
    unfold zlf
    simp only [sumN, Nat.zero_add]
theorem lds_tot {Y : YS} {t op : Nat} {P : Nat → Bool} (W : YW Y) (hP : ∀ s, s < 20736 → P s = true → SW Y s) : sumN (fun s => if P s = true then (lds Y t op s).length else 0) 20736 ≤ 97920 := by
  refine Nat.le_trans (zT_le (lf := fun _ _ _ _ m => gz (yw Y) (yl Y) m) W (fun s hs hp => ⟨hP s hs hp, Nat.le_trans lds_le (Nat.le_of_eq (zlf_le W (hP s hs hp)))⟩)) ?_
  rw [zV_T]
  exact of_decide_eq_true (alN_get (alN_get (alN_get zT_fin2 (show yw Y < 5 by have := W.1; omega)) (show yl Y < 4 by have := W.2.1; omega)) (show yn Y < 5 by have := W.2.2.1; omega))
theorem nodup_len : ∀ (N : Nat) (L : List Nat), L.Nodup → (∀ x, x ∈ L → x < N) → L.length ≤ sumN (fun s => if decide (s ∈ L) = true then 1 else 0) N
  | 0, L, _, h => by
    cases L with
    | nil => exact Nat.le_refl _
    | cons x L => exact absurd (h x List.mem_cons_self) (Nat.not_lt_zero x)
  | N + 1, L, hd, h => by
    show L.length ≤ sumN (fun s => if decide (s ∈ L) = true then 1 else 0) N + (if decide (N ∈ L) = true then 1 else 0)
    by_cases q : N ∈ L
    · rw [if_pos (decide_eq_true q)]
      have ih := nodup_len N (L.erase N) (hd.erase N) (fun x hx => by
        have := (hd.mem_erase_iff).mp hx
        have := h x this.2
        omega)
      rw [List.length_erase_of_mem q] at ih
      have e : sumN (fun s => if decide (s ∈ L.erase N) = true then 1 else 0) N = sumN (fun s => if decide (s ∈ L) = true then 1 else 0) N := sumN_congr fun j hj => by
        have : (j ∈ L.erase N) = (j ∈ L) := propext ⟨fun z => (hd.mem_erase_iff.mp z).2, fun z => hd.mem_erase_iff.mpr ⟨by omega, z⟩⟩
        simp only [this]
      rw [e] at ih
      omega
    · rw [if_neg (by simpa using q)]
      exact nodup_len N L hd (fun x hx => by
        have := h x hx
        rcases Nat.lt_or_ge x N with z | z
        · exact z
        · have : x = N := by omega
          rw [this] at hx
          exact absurd hx q)
theorem SW_cnt {Y : YS} {L : List Nat} (W : YW Y) (hn : L.Nodup) (hs : ∀ s, s ∈ L → SW Y s) : L.length ≤ 11880 := by
  refine Nat.le_trans (nodup_len 20736 L hn (fun x hx => (hs x hx).1)) ?_
  refine Nat.le_trans (zT_le (P := fun s => decide (s ∈ L)) (f := fun _ => 1) (lf := fun _ _ _ _ _ => 1) W (fun s _ hp => ⟨hs s (of_decide_eq_true hp), Nat.le_refl _⟩)) ?_
  rw [zV_T (G := fun _ => 1)]
  exact of_decide_eq_true (alN_get (alN_get (alN_get zT_fin1 (show yw Y < 5 by have := W.1; omega)) (show yl Y < 4 by have := W.2.1; omega)) (show yn Y < 5 by have := W.2.2.1; omega))
