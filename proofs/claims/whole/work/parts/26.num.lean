/-! numbers: quotients, rests, bits -/
def zI (z : Int) : Int32 := Int32.ofInt z
theorem zn (a : Nat) : nI a = zI (a : Int) := Int32.ofInt_eq_ofNat.symm
theorem z_add (a b : Int) : zI a + zI b = zI (a + b) := (Int32.ofInt_add a b).symm
theorem z_sub (a b : Int) : zI a - zI b = zI (a - b) := (Int32.ofInt_sub a b).symm
theorem z_mul (a b : Int) : zI a * zI b = zI (a * b) := (Int32.ofInt_mul a b).symm
theorem z_neg (a : Int) : - zI a = zI (-a) := (Int32.ofInt_neg a).symm
theorem z_int {z : Int} (h : -2147483648 ≤ z) (h2 : z < 2147483648) : (zI z).toInt = z := Int32.toInt_ofInt_of_le h h2
theorem z_lt {a b : Int} (h1 : -2147483648 ≤ a) (h2 : a < 2147483648) (h3 : -2147483648 ≤ b) (h4 : b < 2147483648) : (zI a < zI b) = (a < b) := by
  rw [Int32.lt_iff_toInt_lt, z_int h1 h2, z_int h3 h4]
theorem z_le {a b : Int} (h1 : -2147483648 ≤ a) (h2 : a < 2147483648) (h3 : -2147483648 ≤ b) (h4 : b < 2147483648) : (zI a ≤ zI b) = (a ≤ b) := by
  rw [Int32.le_iff_toInt_le, z_int h1 h2, z_int h3 h4]
theorem z_eq {a b : Int} (h1 : -2147483648 ≤ a) (h2 : a < 2147483648) (h3 : -2147483648 ≤ b) (h4 : b < 2147483648) : (zI a = zI b) = (a = b) := by
  rw [← Int32.toInt_inj, z_int h1 h2, z_int h3 h4]
theorem z_m9 : (-9 : Int32) = zI (-9) := rfl
theorem z_m1 : (-1 : Int32) = zI (-1) := rfl
theorem z_m10 : (-10 : Int32) = zI (-10) := rfl
theorem z_0 : (0 : Int32) = zI 0 := rfl
theorem z_1 : (1 : Int32) = zI 1 := rfl
theorem z_2 : (2 : Int32) = zI 2 := rfl
theorem z_12 : (12 : Int32) = zI 12 := rfl
theorem n_m9 {a : Nat} (h : a < 2147483648) : ¬ nI a = -9 := by rw [zn, z_m9, z_eq (by omega) (by omega) (by omega) (by omega)]; omega
theorem n_m10 {a : Nat} (h : a < 2147483648) : ¬ nI a = -10 := by rw [zn, z_m10, z_eq (by omega) (by omega) (by omega) (by omega)]; omega
theorem n_nz {a : Nat} (h : a < 2147483648) (h2 : 0 < a) : ¬ nI a = 0 := by rw [lit_0, n_eq h (by decide)]; omega
theorem dv_n {a d : Nat} (ha : a < 2147483648) (h0 : 0 < d) (hd : d < 2147483648) : dvI (nI a) (nI d) = some (nI (a / d)) := by
  unfold dvI
  rw [if_neg (n_nz hd h0), pk_div ha h0 hd]
theorem rm_n {a d : Nat} (ha : a < 2147483648) (h0 : 0 < d) (hd : d < 2147483648) : rmI (nI a) (nI d) = some (nI (a % d)) := by
  unfold rmI
  rw [if_neg (n_nz hd h0), pk_rem ha h0 hd]
theorem rem_n {a d : Nat} (ha : a < 2147483648) (h0 : 0 < d) (hd : d < 2147483648) : rem32 (nI a) (nI d) = nI (a % d) := pk_rem ha h0 hd
theorem n_add1 (a : Nat) : nI a + 1 = nI (a + 1) := nI_1 a
/-! bits -/
theorem sm_k {k : Nat} (hk : k < 32) : ((nI k).toBitVec.smod 32).toNat = k := (show ∀ k, k < 32 → ((nI k).toBitVec.smod 32).toNat = k by decide) k hk
theorem n_31 {k : Nat} (hk : k < 32) : nI k &&& 31 = nI k := (show ∀ k, k < 32 → nI k &&& 31 = nI k by decide) k hk
theorem n_shl {k : Nat} (hk : k < 31) : (1 : Int32) <<< (nI k &&& 31) = nI (2 ^ k) := by
  have h := pk_shlN (n := 1) (nI k) k (sm_k (by omega)) (by rw [Nat.one_mul]; exact Nat.pow_lt_pow_right (by decide) (by omega))
  rw [n_31 (by omega), lit_1, h, Nat.one_mul]
theorem n_shr {x k : Nat} (hx : x < 2147483648) (hk : k < 32) : nI x >>> (nI k &&& 31) = nI (x / 2 ^ k) := by
  rw [n_31 hk]
  exact pk_shrN hx (nI k) k (sm_k hk)
theorem n_and1 {x : Nat} (hx : x < 4294967296) : nI x &&& 1 = nI (x % 2) := by
  have := pk_andN (n := x) (m := 1) hx 1 rfl
  simpa using this
theorem n_tb {x k : Nat} (hx : x < 2147483648) (hk : k < 32) : (nI x >>> (nI k &&& 31)) &&& 1 = nI (x / 2 ^ k % 2) := by
  rw [n_shr hx hk, n_and1]
  exact Nat.lt_of_le_of_lt (Nat.div_le_self _ _) (by omega)
theorem tb_one {x k : Nat} : x / 2 ^ k % 2 = if x.testBit k = true then 1 else 0 := by
  rw [Nat.testBit_eq_decide_div_mod_eq]
  by_cases q : x / 2 ^ k % 2 = 1
  · rw [q]; rfl
  · rw [if_neg (by simpa using q)]; omega
theorem tb_1 {x k : Nat} (hx : x < 2147483648) (hk : k < 32) : ((nI x >>> (nI k &&& 31)) &&& 1 = 1) = (x.testBit k = true) := by
  rw [n_tb hx hk, tb_one]
  by_cases q : x.testBit k = true
  · simp only [q, if_true]; exact propext ⟨fun _ => trivial, fun _ => rfl⟩
  · simp only [q, if_false]; exact propext ⟨fun h => absurd h (by decide), fun h => absurd h (by decide)⟩
theorem tb_0 {x k : Nat} (hx : x < 2147483648) (hk : k < 32) : ((nI x >>> (nI k &&& 31)) &&& 1 = 0) = (x.testBit k = false) := by
  rw [n_tb hx hk, tb_one]
  by_cases q : x.testBit k = true
  · simp only [q, if_true]; exact propext ⟨fun h => absurd h (by decide), fun h => absurd h (by decide)⟩
  · simp only [q, if_false]; exact propext ⟨fun _ => by simpa using q, fun _ => rfl⟩
theorem nI_inj {x : Int32} {n : Nat} (h : x.toBitVec.toNat = n) : x = nI n := by
  apply Int32.toBitVec_inj.1
  apply BitVec.eq_of_toNat_eq
  rw [h, pk_tn]
  rw [← h]
  exact x.toBitVec.isLt
theorem n_or {a b : Nat} (ha : a < 2147483648) (hb : b < 2147483648) : nI a ||| nI b = nI (a ||| b) := by
  apply nI_inj
  rw [Int32.toBitVec_or, BitVec.toNat_or, pk_tn (by omega), pk_tn (by omega)]
theorem n_and {a b : Nat} (ha : a < 2147483648) (hb : b < 2147483648) : nI a &&& nI b = nI (a &&& b) := by
  apply nI_inj
  rw [Int32.toBitVec_and, BitVec.toNat_and, pk_tn (by omega), pk_tn (by omega)]
theorem or_lt {a b k : Nat} (ha : a < 2 ^ k) (hb : b < 2 ^ k) : a ||| b < 2 ^ k := Nat.or_lt_two_pow ha hb
theorem tb_or (a b k : Nat) : (a ||| b).testBit k = (a.testBit k || b.testBit k) := Nat.testBit_or a b k
theorem tb_pow (i j : Nat) : (2 ^ i).testBit j = decide (i = j) := Nat.testBit_two_pow
theorem pow_lt {k n : Nat} (h : k < n) : 2 ^ k < 2 ^ n := Nat.pow_lt_pow_right (by decide) h
/-- numbers below 2^k are told by their first k bits -/
theorem tb_ext {a b k : Nat} (ha : a < 2 ^ k) (hb : b < 2 ^ k) (h : ∀ j, j < k → a.testBit j = b.testBit j) : a = b := by
  apply Nat.eq_of_testBit_eq
  intro j
  by_cases q : j < k
  · exact h j q
  · rw [Nat.testBit_lt_two_pow (Nat.lt_of_lt_of_le ha (Nat.pow_le_pow_right (by decide) (by omega))), Nat.testBit_lt_two_pow (Nat.lt_of_lt_of_le hb (Nat.pow_le_pow_right (by decide) (by omega)))]
theorem tb_hi {a k j : Nat} (ha : a < 2 ^ k) (h : k ≤ j) : a.testBit j = false := Nat.testBit_lt_two_pow (Nat.lt_of_lt_of_le ha (Nat.pow_le_pow_right (by decide) h))
/-- the bits below m for which p holds -/
def bts (p : Nat → Bool) : Nat → Nat
  | 0 => 0
  | m + 1 => if p m then bts p m ||| 2 ^ m else bts p m
theorem bts_lt (p : Nat → Bool) : ∀ m, bts p m < 2 ^ m
  | 0 => by simp [bts]
  | m + 1 => by
    have h := bts_lt p m
    have h2 : 2 ^ m < 2 ^ (m + 1) := pow_lt (by omega)
    unfold bts
    split
    · exact or_lt (by omega) h2
    · omega
theorem bts_tb (p : Nat → Bool) : ∀ m j, (bts p m).testBit j = (decide (j < m) && p j)
  | 0, j => by simp [bts]
  | m + 1, j => by
    have h := bts_tb p m j
    unfold bts
    by_cases q : p m = true
    · rw [if_pos q, tb_or, h, tb_pow]
      by_cases e : m = j
      · subst e
        simp [q]
      · by_cases e2 : j < m
        · simp [e, e2, show j < m + 1 by omega]
        · simp [e, e2, show ¬ j < m + 1 by omega]
    · rw [if_neg q, h]
      by_cases e : m = j
      · subst e
        simp [q]
      · by_cases e2 : j < m
        · simp [e2, show j < m + 1 by omega]
        · simp [e2, show ¬ j < m + 1 by omega]
theorem bts_congr {p q : Nat → Bool} : ∀ {m : Nat}, (∀ j, j < m → p j = q j) → bts p m = bts q m
  | 0, _ => rfl
  | m + 1, h => by
    unfold bts
    rw [h m (by omega), bts_congr (fun j hj => h j (by omega))]
theorem bts_0 {p : Nat → Bool} {m : Nat} : (bts p m = 0) = (∀ j, j < m → p j = false) := by
  apply propext
  constructor
  · intro h j hj
    have := bts_tb p m j
    rw [h, Nat.zero_testBit] at this
    simpa [hj] using this.symm
  · intro h
    apply tb_ext (k := m) (bts_lt p m) (Nat.two_pow_pos m)
    intro j hj
    rw [bts_tb, h j hj, Nat.zero_testBit]
    simp
theorem bts_s1 {p : Nat → Bool} {k : Nat} (h : p k = true) : bts p (k + 1) = bts p k ||| 2 ^ k := by
  show (if p k = true then _ else _) = _
  rw [if_pos h]
theorem bts_s0 {p : Nat → Bool} {k : Nat} (h : p k = false) : bts p (k + 1) = bts p k := by
  show (if p k = true then _ else _) = _
  rw [if_neg (by rw [h]; decide)]
theorem i_le {α : Type} {a b : Nat} {x y : α} (ha : a < 2147483648) (hb : b < 2147483648) : (if nI a ≤ nI b then x else y) = if a ≤ b then x else y := by
  simp only [n_le ha hb]
theorem i_lt {α : Type} {a b : Nat} {x y : α} (ha : a < 2147483648) (hb : b < 2147483648) : (if nI a < nI b then x else y) = if a < b then x else y := by
  simp only [n_lt ha hb]
theorem i_eq {α : Type} {a b : Nat} {x y : α} (ha : a < 2147483648) (hb : b < 2147483648) : (if nI a = nI b then x else y) = if a = b then x else y := by
  simp only [n_eq ha hb]
theorem i_neg {α : Type} {a : Nat} {x y : α} (ha : a < 2147483648) : (if nI a < 0 then x else y) = y := if_neg (nI_pos ha)
theorem i_m9 {α : Type} {a : Nat} {x y : α} (ha : a < 2147483648) : (if nI a = -9 then x else y) = y := if_neg (n_m9 ha)
theorem i_tb1 {α : Type} {a k : Nat} {x y : α} (ha : a < 2147483648) (hk : k < 32) : (if (nI a >>> (nI k &&& 31)) &&& 1 = 1 then x else y) = if a.testBit k = true then x else y := by
  simp only [tb_1 ha hk]
theorem i_tb0 {α : Type} {a k : Nat} {x y : α} (ha : a < 2147483648) (hk : k < 32) : (if (nI a >>> (nI k &&& 31)) &&& 1 = 0 then x else y) = if a.testBit k = true then y else x := by
  simp only [tb_0 ha hk]
  by_cases q : a.testBit k = true
  · simp [q]
  · simp [q]
theorem rf_le {n : Nat} (h : n < 2147483648) : nI n ≤ nI n := by rw [n_le h h]; exact Nat.le_refl _
theorem nle_k {n k : Nat} (h : n < 2147483648) (hk : k < n) : ¬ nI n ≤ nI k := by rw [n_le h (by omega)]; omega
theorem fix_invG {σ ρ : Type} {b : (σ → Option ρ) → σ → Option ρ} {R : Option ρ} (I : Nat → σ → Prop) (n : Nat) (hs : ∀ k s, k < n → I k s → ∀ self, (∀ s', I (k + 1) s' → self s' = R) → b self s = R) (he : ∀ s, I n s → ∀ self, b self s = R) : ∀ (d k F : Nat) (s : σ), k + d = n → d < F → I k s → fix b F s = R
  | 0, k, F + 1, s, hk, _, h => by
    have : k = n := by omega
    subst this
    exact he s h _
  | d + 1, k, F + 1, s, hk, hF, h => by
    show b (fix b F) s = R
    exact hs k s (by omega) h _ (fun s' h' => fix_invG I n hs he d (k + 1) F s' (by omega) (by omega) h')
/-- a loop of at most n turns, by an invariant; it may end early with the same R -/
theorem fix_inv {σ ρ : Type} {b : (σ → Option ρ) → σ → Option ρ} {R : Option ρ} {F : Nat} {s0 : σ} (I : Nat → σ → Prop) (n : Nat) (h0 : I 0 s0) (hF : n < F) (hs : ∀ k s, k < n → I k s → ∀ self, (∀ s', I (k + 1) s' → self s' = R) → b self s = R) (he : ∀ s, I n s → ∀ self, b self s = R) : fix b F s0 = R := fix_invG I n hs he n 0 F s0 (by omega) hF h0
def alN (N : Nat) (f : Nat → Bool) : Bool := (List.range N).all f
theorem alN_get {N : Nat} {f : Nat → Bool} (h : alN N f = true) {x : Nat} (hx : x < N) : f x = true := List.all_eq_true.mp h x (List.mem_range.mpr hx)
theorem i10 {α : Type} {x y : α} : (if (1 : Int32) = 0 then x else y) = y := if_neg (by decide)
theorem i00 {α : Type} {x y : α} : (if (0 : Int32) = 0 then x else y) = x := if_pos rfl
theorem i01 {α : Type} {x y : α} : (if (0 : Int32) = 1 then x else y) = y := if_neg (by decide)
theorem i11 {α : Type} {x y : α} : (if (1 : Int32) = 1 then x else y) = x := if_pos rfl
theorem i99 {α : Type} {x y : α} : (if (-9 : Int32) = -9 then x else y) = x := if_pos rfl
theorem i9n {α : Type} {x y : α} : (if (-9 : Int32) < 0 then x else y) = x := if_pos (by decide)
