/-! the yard as numbers: width, lines, men, ring, walls, kinds, lengths -/
abbrev YS : Type := Nat × Nat × Nat × Bool × Nat × (Nat → Nat) × (Nat → Nat)
def yw (Y : YS) : Nat := Y.1
def yl (Y : YS) : Nat := Y.2.1
def yn (Y : YS) : Nat := Y.2.2.1
def yr (Y : YS) : Bool := Y.2.2.2.1
def yb (Y : YS) : Nat := Y.2.2.2.2.1
def yk (Y : YS) : Nat → Nat := Y.2.2.2.2.2.1
def yg (Y : YS) : Nat → Nat := Y.2.2.2.2.2.2
def chn (n : Nat) (r : Bool) : Nat := if n < 2 then 0 else if r = true ∧ 2 < n then n else n - 1
def yc (Y : YS) : Nat := chn (yn Y) (yr Y)
def ycl (Y : YS) : Nat := yw Y * yl Y
def sec (n k : Nat) : Nat := if k + 1 < n then k + 1 else 0
def dst (w a b : Nat) : Nat := (a / w - b / w) + (b / w - a / w) + ((a % w - b % w) + (b % w - a % w))
def rchb (g k1 k2 : Nat) : Nat := max 1 (g + (if k1 = 1 then 1 else 0) + (if k2 = 1 then 1 else 0) - (if k1 = 5 then 1 else 0) - (if k2 = 5 then 1 else 0))
def rch (Y : YS) (k : Nat) : Nat := rchb (yg Y k) (yk Y k) (yk Y (sec (yn Y) k))
def nxg (w l a d : Nat) : Option Nat := if d = 0 then (if a / w = 0 then none else some (a - w)) else if d = 1 then (if a % w + 1 < w then some (a + 1) else none) else if d = 2 then (if a / w + 1 < l then some (a + w) else none) else (if a % w = 0 then none else some (a - 1))
def nxc (Y : YS) (a d : Nat) : Option Nat := match nxg (yw Y) (yl Y) a d with
  | none => none
  | some b => if (yb Y).testBit b = true then none else some b
def prt (n k i : Nat) : Option Nat := if i = sec n k then some k else if i = k then some (sec n k) else none
def oI : Option Nat → Int32
  | none => -9
  | some b => nI b
def YW (Y : YS) : Prop := yw Y ≤ 4 ∧ yl Y ≤ 3 ∧ yn Y ≤ 4 ∧ yn Y ≤ ycl Y ∧ yb Y < 4096 ∧ (∀ i, i < yn Y → yk Y i < 6) ∧ (∀ k, k < yc Y → 1 ≤ yg Y k ∧ yg Y k ≤ 9)
/-- the class's yard object y -/
def YC (y : Nat) (Y : YS) (h : Hp) : Prop := gI h y 0 = nI (yw Y) ∧ gI h y 1 = nI (yl Y) ∧ gI h y 2 = nI (ycl Y) ∧ gI h y 3 = nI (yb Y) ∧ gI h y 4 = nI (yn Y) ∧ gI h y 5 = nI (yc Y) ∧ (∀ i, i < yn Y → gI h (y + 1) i = nI (yk Y i)) ∧ (∀ k, k < yc Y → gI h (y + 3) k = nI (yg Y k)) ∧ (∀ k, k < yc Y → gI h (y + 4) k = nI (rch Y k)) ∧ (∀ a, a < ycl Y → ∀ b, b < ycl Y → gI h (y + 5) (a * 12 + b) = nI (dst (yw Y) a b)) ∧ (∀ a, a < ycl Y → ∀ d, d < 4 → gI h (y + 6) (a * 4 + d) = oI (nxc Y a d)) ∧ (∀ k, k < yc Y → ∀ i, i < 4 → gI h (y + 7) (k * 4 + i) = oI (prt (yn Y) k i))
def IsY (y : Nat) : Prop := y = 41 ∨ y = 49
theorem ycl_le {Y : YS} (W : YW Y) : ycl Y ≤ 12 := by
  have := Nat.mul_le_mul W.1 W.2.1
  exact this
theorem chn_le {n : Nat} {r : Bool} : chn n r ≤ n := by
  unfold chn
  split
  · omega
  · split <;> omega
theorem yc_le {Y : YS} (W : YW Y) : yc Y ≤ 4 := Nat.le_trans chn_le W.2.2.1
theorem chn_2 {n k : Nat} {r : Bool} (h : k < chn n r) : 2 ≤ n ∧ k < n := by
  unfold chn at h
  split at h
  · omega
  · split at h <;> omega
theorem sec_lt {n k : Nat} (h : 0 < n) : sec n k < n := by
  unfold sec
  split <;> omega
section ISY
variable {y : Nat} {h : Hp}
theorem y_rf7 (hy : IsY y) : rf y 7 = y + 1 := by rcases hy with rfl | rfl <;> rfl
theorem y_rf8 (hy : IsY y) : rf y 8 = y + 2 := by rcases hy with rfl | rfl <;> rfl
theorem y_rf9 (hy : IsY y) : rf y 9 = y + 3 := by rcases hy with rfl | rfl <;> rfl
theorem y_rf10 (hy : IsY y) : rf y 10 = y + 4 := by rcases hy with rfl | rfl <;> rfl
theorem y_rf11 (hy : IsY y) : rf y 11 = y + 5 := by rcases hy with rfl | rfl <;> rfl
theorem y_rf12 (hy : IsY y) : rf y 12 = y + 6 := by rcases hy with rfl | rfl <;> rfl
theorem y_rf13 (hy : IsY y) : rf y 13 = y + 7 := by rcases hy with rfl | rfl <;> rfl
theorem y_s1 (hy : IsY y) : (sh (y + 1)).2.2 = 4 := by rcases hy with rfl | rfl <;> rfl
theorem y_s2 (hy : IsY y) : (sh (y + 2)).2.2 = 4 := by rcases hy with rfl | rfl <;> rfl
theorem y_s3 (hy : IsY y) : (sh (y + 3)).2.2 = 4 := by rcases hy with rfl | rfl <;> rfl
theorem y_s4 (hy : IsY y) : (sh (y + 4)).2.2 = 4 := by rcases hy with rfl | rfl <;> rfl
theorem y_s5 (hy : IsY y) : (sh (y + 5)).2.2 = 144 := by rcases hy with rfl | rfl <;> rfl
theorem y_s6 (hy : IsY y) : (sh (y + 6)).2.2 = 48 := by rcases hy with rfl | rfl <;> rfl
theorem y_s7 (hy : IsY y) : (sh (y + 7)).2.2 = 16 := by rcases hy with rfl | rfl <;> rfl
theorem y_ld1 {j : Nat} (hy : IsY y) (hj : j < 4) : ldI h (y + 1) (nI j) = some (gI h (y + 1) j) := ld_n (y_s1 hy) hj (by decide)
theorem y_ld2 {j : Nat} (hy : IsY y) (hj : j < 4) : ldI h (y + 2) (nI j) = some (gI h (y + 2) j) := ld_n (y_s2 hy) hj (by decide)
theorem y_ld3 {j : Nat} (hy : IsY y) (hj : j < 4) : ldI h (y + 3) (nI j) = some (gI h (y + 3) j) := ld_n (y_s3 hy) hj (by decide)
theorem y_ld4 {j : Nat} (hy : IsY y) (hj : j < 4) : ldI h (y + 4) (nI j) = some (gI h (y + 4) j) := ld_n (y_s4 hy) hj (by decide)
theorem y_ld5 {j : Nat} (hy : IsY y) (hj : j < 144) : ldI h (y + 5) (nI j) = some (gI h (y + 5) j) := ld_n (y_s5 hy) hj (by decide)
theorem y_ld6 {j : Nat} (hy : IsY y) (hj : j < 48) : ldI h (y + 6) (nI j) = some (gI h (y + 6) j) := ld_n (y_s6 hy) hj (by decide)
theorem y_ld7 {j : Nat} (hy : IsY y) (hj : j < 16) : ldI h (y + 7) (nI j) = some (gI h (y + 7) j) := ld_n (y_s7 hy) hj (by decide)
theorem gO_y {a k : Nat} (hy : IsY y) (hr : gR h a k = some y) : gO h a k (0, 6, 14) = some y := by
  unfold gO
  rw [hr]
  show (if sh y = (0, 6, 14) then some y else none) = some y
  rw [if_pos]
  rcases hy with rfl | rfl <;> rfl
end ISY
/-! a stand: four figures to the base of twelve -/
def wgt (i : Nat) : Nat := 12 ^ (3 - i)
def dg (s i : Nat) : Nat := s / wgt i % 12
def pt (s i c : Nat) : Nat := s - dg s i * wgt i + c * wgt i
theorem wg_0 : wgt 0 = 1728 := rfl
theorem wg_1 : wgt 1 = 144 := rfl
theorem wg_2 : wgt 2 = 12 := rfl
theorem wg_3 : wgt 3 = 1 := rfl
theorem wg_pos (i : Nat) : 0 < wgt i := Nat.pow_pos (by decide)
theorem wg_le (i : Nat) : wgt i ≤ 1728 := Nat.pow_le_pow_right (n := 12) (by decide) (show 3 - i ≤ 3 by omega)
theorem i4 {i : Nat} (h : i < 4) : i = 0 ∨ i = 1 ∨ i = 2 ∨ i = 3 := by omega
theorem dg_lt (s i : Nat) : dg s i < 12 := Nat.mod_lt _ (by decide)
theorem pt_lt {s i c : Nat} (hs : s < 20736) (hi : i < 4) (hc : c < 12) : pt s i c < 20736 := by
  unfold pt dg
  rcases i4 hi with rfl | rfl | rfl | rfl <;> simp only [wg_0, wg_1, wg_2, wg_3] <;> omega
theorem dg_pt {s i c : Nat} (hs : s < 20736) (hi : i < 4) (hc : c < 12) : dg (pt s i c) i = c := by
  unfold pt dg
  rcases i4 hi with rfl | rfl | rfl | rfl <;> simp only [wg_0, wg_1, wg_2, wg_3] <;> omega
theorem dg_pt_ne {s i j c : Nat} (hs : s < 20736) (hi : i < 4) (hj : j < 4) (hc : c < 12) (hij : j ≠ i) : dg (pt s i c) j = dg s j := by
  unfold pt dg
  rcases i4 hi with rfl | rfl | rfl | rfl <;> rcases i4 hj with rfl | rfl | rfl | rfl <;> first | omega | (simp only [wg_0, wg_1, wg_2, wg_3] <;> omega)
theorem dg_ext {s t : Nat} (hs : s < 20736) (ht : t < 20736) (h : ∀ i, i < 4 → dg s i = dg t i) : s = t := by
  have h0 := h 0 (by decide)
  have h1 := h 1 (by decide)
  have h2 := h 2 (by decide)
  have h3 := h 3 (by decide)
  unfold dg at h0 h1 h2 h3
  simp only [wg_0, wg_1, wg_2, wg_3] at h0 h1 h2 h3
  omega
theorem dg_le {s i : Nat} : dg s i * wgt i ≤ s := by
  unfold dg
  exact Nat.le_trans (Nat.mul_le_mul_right _ (Nat.mod_le _ _)) (Nat.div_mul_le_self _ _)
theorem wg_t {i : Nat} (hi : i < 4) : ldT 0 (nI i) = some (nI (wgt i)) := by
  rw [ldT_n (n := 4) rfl hi (by decide)]
  exact congrArg some ((show ∀ i, i < 4 → stv 0 i = nI (wgt i) by decide) i hi)
theorem cell_ev {s i : Nat} {h : Hp} (hs : s < 2147483648) (hi : i < 4) : f_X7_cellOf (nI s) (nI i) h = some (nI (dg s i)) := by
  have e1 : ¬ nI i < 0 := nI_pos (by omega)
  have e2 : nI i < (4 : Int32) := by rw [lit_4, n_lt (by omega) (by decide)]; exact hi
  have e3 := wg_le i
  have e4 := wg_pos i
  have e5 : s / wgt i ≤ s := Nat.div_le_self _ _
  unfold f_X7_cellOf
  rw [if_neg e1, if_pos e2, wg_t hi, Ib, dv_n hs e4 (by omega), Ib, lit_12, rem_n (by omega) (by decide) (by decide)]
  rfl
/-- s with man i from where he is to c -/
theorem pt_ev {s i c : Nat} : nI s + (nI c - nI (dg s i)) * nI (wgt i) = nI (pt s i c) := by
  have h := dg_le (s := s) (i := i)
  unfold pt
  rw [zn, zn, zn, zn, zn, z_sub, z_mul, z_add]
  congr 1
  rw [Int.natCast_add, Int.natCast_sub h, Int.natCast_mul, Int.natCast_mul, Int.sub_mul]
  omega
/-! the class's yard: what its methods answer -/
section YEV
variable {y : Nat} {Y : YS} {h : Hp} {F : Nat}
theorem sec_ev {k : Nat} (H : gI h y 4 = nI (yn Y)) (hn : yn Y ≤ 4) (hk : k < 4) : f_X6_secondEnd y (nI k) h = some (nI (sec (yn Y) k)) := by
  unfold f_X6_secondEnd sec
  rw [H, n_add1, i_le (by omega) (by omega)]
  by_cases q : k + 1 < yn Y
  · rw [if_neg (by omega), if_pos q]; rfl
  · rw [if_pos (by omega), if_neg q]; rfl
theorem dist_ev {a b : Nat} (H : YC y Y h) (W : YW Y) (hy : IsY y) (ha : a < ycl Y) (hb : b < ycl Y) : f_X6_distance y (nI a) (nI b) h = some (nI (dst (yw Y) a b)) := by
  have hc := ycl_le W
  unfold f_X6_distance
  rw [if_neg (nI_pos (by omega)), if_neg (nI_pos (by omega)), if_neg (by rw [lit_12, n_le (by omega) (by omega)]; omega), if_pos (by rw [lit_12, n_lt (by omega) (by omega)]; omega), y_rf11 hy, lit_12, pk_mul, nI_add, y_ld5 hy (by omega), H.2.2.2.2.2.2.2.2.2.1 a ha b hb]
  rfl
theorem apart_ev {s i j : Nat} (H : YC y Y h) (W : YW Y) (hy : IsY y) (hr : gR h 0 11 = some y) (hs : s < 2147483648) (hi : i < 4) (hj : j < 4) (ha : dg s i < ycl Y) (hb : dg s j < ycl Y) : f_X7_apart (nI s) (nI i) (nI j) h = some (nI (dst (yw Y) (dg s i) (dg s j))) := by
  unfold f_X7_apart
  rw [gO_y hy hr, Ib, cell_ev hs hi, Ib, cell_ev hs hj, Ib, dist_ev H W hy ha hb]
  rfl
def brk (Y : YS) (op s k : Nat) : Bool := !op.testBit k && decide (rch Y k < dst (yw Y) (dg s k) (dg s (sec (yn Y) k)))
def trn (Y : YS) (op s : Nat) : Nat := bts (brk Y op s) (yc Y)
theorem trn_lt (W : YW Y) (op s : Nat) : trn Y op s < 16 := Nat.lt_of_lt_of_le (bts_lt _ _) (Nat.pow_le_pow_right (n := 2) (by decide) (yc_le W))
theorem rch_lt (W : YW Y) {k : Nat} (hk : k < yc Y) : rch Y k < 20 := by
  have h := (W.2.2.2.2.2.2 k hk).2
  unfold rch rchb
  split <;> split <;> split <;> split <;> omega
theorem dst_lt {w a b : Nat} (ha : a < 12) (hb : b < 12) : dst w a b < 100 := by
  unfold dst
  have h1 := Nat.div_le_self a w
  have h2 := Nat.div_le_self b w
  have h3 := Nat.mod_le a w
  have h4 := Nat.mod_le b w
  generalize a / w = p1 at *
  generalize b / w = p2 at *
  generalize a % w = p3 at *
  generalize b % w = p4 at *
  omega
theorem bt16 {x : Nat} {k : Nat} (h : x < 2 ^ k) (hk : k ≤ 4) : x < 16 := Nat.lt_of_lt_of_le h (Nat.pow_le_pow_right (n := 2) (by decide) hk)
theorem tooFar_ev {s op : Nat} (H : YC y Y h) (W : YW Y) (hy : IsY y) (hs : s < 2147483648) (ho : op < 16) (hd : ∀ i, i < yn Y → dg s i < ycl Y) (hF : 4 < F) : f_X6_tooFar F y (nI s) (nI op) h = some (nI (trn Y op s)) := by
  have hc := yc_le W
  have hn := W.2.2.1
  have hcl := ycl_le W
  obtain ⟨-, -, -, -, e4, e5, -, -, er, ed, -, -⟩ := H
  unfold f_X6_tooFar
  refine fix_seq (fun k => (nI (bts (brk Y op s) k), nI k)) (yc Y) rfl (fun k hk self => ?_) (fun self => ?_) (by omega)
  · have e1 : ¬ nI (yc Y) ≤ nI k := by rw [n_le (by omega) (by omega)]; omega
    have hk2 := chn_2 hk
    have hs2 : sec (yn Y) k < yn Y := sec_lt (by omega)
    have eS : (if gI h y 4 ≤ nI k + 1 then some (0 : Int32) else some (nI k + 1)) = some (nI (sec (yn Y) k)) := by
      unfold sec
      rw [e4, n_add1, i_le (by omega) (by omega)]
      by_cases q : k + 1 < yn Y
      · rw [if_neg (by omega), if_pos q]
      · rw [if_pos (by omega), if_neg q]; rfl
    have w1 := wg_le k
    have w2 := wg_pos k
    have w3 := wg_le (sec (yn Y) k)
    have w4 := wg_pos (sec (yn Y) k)
    have b1 : s / wgt k ≤ s := Nat.div_le_self _ _
    have b2 : s / wgt (sec (yn Y) k) ≤ s := Nat.div_le_self _ _
    have hb := bt16 (bts_lt (brk Y op s) k) (by omega)
    have d1 := hd k hk2.2
    have d2 := hd _ hs2
    simp only [e5]
    rw [if_neg e1, eS, Ib, wg_t (by omega), Ib, dv_n hs w2 (by omega), Ib, wg_t (by omega), Ib, dv_n hs w4 (by omega), Ib, lit_12, rem_n (by omega) (by decide) (by decide), rem_n (by omega) (by decide) (by decide), pk_mul, nI_add, y_rf11 hy, y_rf10 hy]
    show (Option.bind (if (nI op >>> (nI k &&& 31)) &&& 1 = 0 then (ldI h (y + 5) (nI (dg s k * 12 + dg s (sec (yn Y) k)))).bind _ else _) _) = _
    rw [y_ld5 hy (by omega), ed _ d1 _ d2, Ib, y_ld4 hy (by omega), er k hk, Ib, n_add1]
    have r1 := rch_lt W hk
    have r2 : dst (yw Y) (dg s k) (dg s (sec (yn Y) k)) < 100 := dst_lt (dg_lt _ _) (dg_lt _ _)
    rw [i_tb0 (by omega) (by omega), i_le (by omega) (by omega)]
    by_cases q : op.testBit k = true
    · rw [if_pos q, Ib, bts_s0 (by unfold brk; rw [q]; rfl)]
    · rw [if_neg q]
      by_cases q2 : dst (yw Y) (dg s k) (dg s (sec (yn Y) k)) ≤ rch Y k
      · rw [if_pos q2, Ib, bts_s0 (by unfold brk; simp; intro _; omega)]
      · rw [if_neg q2, n_shl (by omega)]
        show Option.bind (some (nI _ ||| nI (2 ^ k))) _ = _
        have p1 : 2 ^ k < 16 := bt16 (pow_lt (show k < 4 by omega)) (by omega)
        rw [Ib, n_or (by omega) (by omega), bts_s1 (by unfold brk; simp; exact ⟨by simpa using q, by omega⟩)]
  · have e1 : nI (yc Y) ≤ nI (yc Y) := by rw [n_le (by omega) (by omega)]; exact Nat.le_refl _
    simp only [e5]
    rw [if_pos e1]
    rfl
end YEV
