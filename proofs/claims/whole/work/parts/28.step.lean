/-! a step: what it does -/
def wet (Y : YS) (t c : Nat) : Bool := decide (yl Y ≤ c / yw Y + t)
def wtr (Y : YS) (t : Nat) : Nat := bts (wet Y t) (ycl Y)
def ocb (s c : Nat) : Nat → Bool
  | 0 => false
  | m + 1 => ocb s c m || decide (dg s m = c)
def tkb (s : Nat) : Nat → Nat
  | 0 => 0
  | m + 1 => tkb s m ||| 2 ^ dg s m
def mgo (k d : Nat) : Bool := !decide (k = 2) && !decide (k = 4) && (!(decide (k = 3) || decide (k = 5)) || decide (d % 2 = 1))
def asl (Y : YS) : Nat := bts (fun j => decide (yk Y j = 2)) (yn Y)
def sl1 (n i B A k : Nat) : Option Nat := if B.testBit k = true then (match prt n k i with
  | some o => if A.testBit o = true then some o else none
  | none => none) else none
def slv (n c i B A : Nat) : List Nat := (List.range c).filterMap (sl1 n i B A)
def alg (Y : YS) (t op s1 from_ : Nat) : List Nat → Option Nat
  | [o] => if wet Y t from_ = true then none else if trn Y op (pt s1 o from_) = 0 then some (pt s1 o from_) else none
  | _ => none
def aft (Y : YS) (t op s i d : Nat) : Option Nat := if mgo (yk Y i) d = true then (match nxc Y (dg s i) d with
  | none => none
  | some b => if wet Y t b = true ∨ ocb s b (yn Y) = true then none else if trn Y op (pt s i b) = 0 then some (pt s i b) else if yk Y i = 1 then alg Y t op (pt s i b) (dg s i) (slv (yn Y) (yc Y) i (trn Y op (pt s i b)) (asl Y)) else none) else none
theorem tkb_lt (s : Nat) : ∀ m, tkb s m < 4096
  | 0 => by simp [tkb]
  | m + 1 => by
    have h := tkb_lt s m
    have h2 : 2 ^ dg s m < 2 ^ 12 := pow_lt (dg_lt s m)
    exact or_lt (k := 12) h h2
theorem tkb_tb (s c : Nat) : ∀ m, (tkb s m).testBit c = ocb s c m
  | 0 => by simp [tkb, ocb]
  | m + 1 => by
    show (tkb s m ||| 2 ^ dg s m).testBit c = _
    rw [tb_or, tkb_tb s c m, tb_pow]
    rfl
theorem ocb_iff {s c : Nat} : ∀ {m : Nat}, ocb s c m = true ↔ ∃ i, i < m ∧ dg s i = c
  | 0 => by simp [ocb]
  | m + 1 => by
    unfold ocb
    rw [Bool.or_eq_true, ocb_iff (m := m), decide_eq_true_eq]
    constructor
    · rintro (⟨i, h1, h2⟩ | h)
      · exact ⟨i, by omega, h2⟩
      · exact ⟨m, by omega, h⟩
    · rintro ⟨i, h1, h2⟩
      by_cases q : i = m
      · exact Or.inr (q ▸ h2)
      · exact Or.inl ⟨i, by omega, h2⟩
theorem wtr_lt {Y : YS} (W : YW Y) (t : Nat) : wtr Y t < 4096 := Nat.lt_of_lt_of_le (bts_lt _ _) (Nat.pow_le_pow_right (n := 2) (by decide) (ycl_le W))
theorem wo_tb {k d : Nat} (hk : k < 6) (hd : d < 4) : ∃ w, w < 16 ∧ ldT 2 (nI k) = some (nI w) ∧ w.testBit d = mgo k d := by
  refine ⟨([15, 15, 0, 10, 0, 10] : List Nat).getD k 0, ?_, ?_, ?_⟩
  · exact (show ∀ k, k < 6 → ([15, 15, 0, 10, 0, 10] : List Nat).getD k 0 < 16 by decide) k hk
  · rw [ldT_n (n := 6) rfl hk (by decide)]
    exact congrArg some ((show ∀ k, k < 6 → stv 2 k = nI (([15, 15, 0, 10, 0, 10] : List Nat).getD k 0) by decide) k hk)
  · exact (show ∀ k, k < 6 → ∀ d, d < 4 → (([15, 15, 0, 10, 0, 10] : List Nat).getD k 0).testBit d = mgo k d by decide) k hk d hd
theorem nxg_lt {w l a d b : Nat} (hw : w ≤ 4) (hl : l ≤ 3) (ha : a < w * l) (hd : d < 4) (h : nxg w l a d = some b) : b < w * l ∧ b ≠ a := by
  have h1 := (show ∀ w, w < 5 → ∀ l, l < 4 → ∀ a, a < w * l → ∀ d, d < 4 → (nxg w l a d).all (fun b => decide (b < w * l) && decide (b ≠ a)) = true by decide) w (by omega) l (by omega) a ha d hd
  rw [h] at h1
  simpa using h1
theorem nxc_lt {Y : YS} (W : YW Y) {a d b : Nat} (ha : a < ycl Y) (hd : d < 4) (h : nxc Y a d = some b) : b < ycl Y ∧ b ≠ a := by
  unfold nxc at h
  cases e : nxg (yw Y) (yl Y) a d with
  | none => rw [e] at h; cases h
  | some c =>
    rw [e] at h
    simp only at h
    split at h
    · cases h
    · cases h
      exact nxg_lt W.1 W.2.1 ha hd e
theorem slv_s {n c i B A : Nat} : slv n (c + 1) i B A = slv n c i B A ++ (sl1 n i B A c).toList := by
  unfold slv
  rw [List.range_succ, List.filterMap_append]
  cases e : sl1 n i B A c <;> simp [e]
theorem slv_mem {n c i B A o : Nat} (hc : c ≤ n) (h : o ∈ slv n c i B A) : o < n ∧ ∃ k, k < c ∧ sl1 n i B A k = some o := by
  unfold slv at h
  obtain ⟨k, h1, h2⟩ := List.mem_filterMap.mp h
  have hk := List.mem_range.mp h1
  refine ⟨?_, k, hk, h2⟩
  unfold sl1 at h2
  split at h2
  · cases e : prt n k i with
    | none => rw [e] at h2; cases h2
    | some x =>
      rw [e] at h2
      simp only at h2
      split at h2
      · cases h2
        unfold prt at e
        split at e
        · cases e; omega
        · split at e
          · cases e; exact sec_lt (by omega)
          · cases e
      · cases h2
  · cases h2
theorem slv_pre {n i B A : Nat} : ∀ (d c : Nat), ∃ L, slv n (c + d) i B A = slv n c i B A ++ L
  | 0, c => ⟨[], by simp⟩
  | d + 1, c => by
    obtain ⟨L, h⟩ := slv_pre (n := n) (i := i) (B := B) (A := A) d c
    exact ⟨L ++ (sl1 n i B A (c + d)).toList, by rw [← Nat.add_assoc, slv_s, h, List.append_assoc]⟩
theorem prt_lt {n k i o : Nat} (hk : k < n) (h : prt n k i = some o) : o < n := by
  unfold prt at h
  split at h
  · cases h; exact hk
  · split at h
    · cases h; exact sec_lt (by omega)
    · cases h
theorem asl_tb {Y : YS} {j : Nat} (hj : j < yn Y) : (asl Y).testBit j = decide (yk Y j = 2) := by
  unfold asl
  rw [bts_tb]
  simp [hj]
theorem oI_m9 {o : Option Nat} (h : ∀ b, o = some b → b < 2147483648) : (oI o = -9) = (o = none) := by
  cases o with
  | none => exact propext ⟨fun _ => rfl, fun _ => rfl⟩
  | some b => exact propext ⟨fun q => absurd q (n_m9 (h b rfl)), fun q => by cases q⟩
section STEP
variable {y : Nat} {Y : YS} {h : Hp} {F t op s i d : Nat}
/-- the class's rules as they stand -/
def RC (y : Nat) (Y : YS) (t op : Nat) (h : Hp) : Prop := gR h 22 0 = some y ∧ gI h 22 1 = nI (wtr Y t) ∧ gI h 22 2 = nI op
theorem taken_ev (H : YC y Y h) (W : YW Y) (hy : IsY y) (R : RC y Y t op h) (hs : s < 2147483648) (hF : 4 < F) : f_X2_taken F (nI s) h = some (nI (tkb s (yn Y))) := by
  have hn := W.2.2.1
  obtain ⟨-, -, -, -, e4, -⟩ := H
  unfold f_X2_taken
  refine fix_seq (fun k => (nI (tkb s k), nI k)) (yn Y) rfl (fun k hk self => ?_) (fun self => ?_) (by omega)
  · have w1 := wg_le k
    have w2 := wg_pos k
    have b1 : s / wgt k ≤ s := Nat.div_le_self _ _
    have p1 : 2 ^ dg s k < 4096 := pow_lt (n := 12) (dg_lt s k)
    have p2 := tkb_lt s k
    have p3 := dg_lt s k
    simp only [gO_y hy R.1, Ib, e4]
    rw [if_neg (nle_k (by omega) hk), wg_t (by omega), Ib, dv_n hs w2 (by omega), Ib, lit_12, rem_n (by omega) (by decide) (by decide)]
    show self (nI (tkb s k) ||| (1 : Int32) <<< (nI (dg s k) &&& 31), _) = _
    rw [n_shl (by omega), n_or (by omega) (by omega), n_add1]
    rfl
  · simp only [gO_y hy R.1, Ib, e4]
    rw [if_pos (rf_le (by omega))]
theorem along_ev {s1 l B : Nat} (H : YC y Y h) (W : YW Y) (hy : IsY y) (R : RC y Y t op h) (hs : s1 < 2147483648) (hi : i < yn Y) (hl : l < ycl Y) (hB : B < 16) (hF : 4 < F) : f_X2_takingAlong F (nI s1) (nI i) (nI l) (nI B) h = some (oI (match slv (yn Y) (yc Y) i B (asl Y) with
    | [o] => if wet Y t l = true then none else some (pt s1 o l)
    | _ => none)) := by
  have hn := W.2.2.1
  have hc := yc_le W
  have hcl := ycl_le W
  have hw := wtr_lt W t
  obtain ⟨-, -, -, -, e4, e5, ek, -, -, -, -, ep⟩ := H
  have wl : (wtr Y t).testBit l = wet Y t l := by
    unfold wtr
    rw [bts_tb]
    simp [hl]
  unfold f_X2_takingAlong
  refine fix_inv (fun k z => z.2 = nI k ∧ ((slv (yn Y) k i B (asl Y) = [] ∧ z.1 = -9) ∨ ∃ o, o < yn Y ∧ slv (yn Y) k i B (asl Y) = [o] ∧ z.1 = nI o ∧ wet Y t l = false)) (yc Y) ⟨rfl, Or.inl ⟨rfl, rfl⟩⟩ (by omega) ?_ ?_
  · rintro k ⟨z1, z2⟩ hk ⟨rfl, hz⟩ self hself
    have hk2 := chn_2 hk
    simp only [gO_y hy R.1, Ib, e5, R.2.1]
    rw [if_neg (nle_k (by omega) hk), lit_4, pk_mul, nI_add, y_rf13 hy, y_ld7 hy (by omega), ep k hk i (by omega), Ib, i_tb1 (by omega) (by omega), n_add1]
    simp only at hz
    have stay : sl1 (yn Y) i B (asl Y) k = none → self (z1, nI (k + 1)) = _ := fun hnone => hself (z1, nI (k + 1)) ⟨rfl, by rw [slv_s, hnone]; simpa using hz⟩
    by_cases q : B.testBit k = true
    · rw [if_pos q]
      cases ho : prt (yn Y) k i with
      | none =>
        show (if (-9 : Int32) = -9 then _ else _) = _
        rw [if_pos rfl]
        exact stay (by unfold sl1; rw [if_pos q, ho])
      | some o =>
        have ho2 := prt_lt hk2.2 ho
        show (if nI o = -9 then _ else _) = _
        rw [i_m9 (by omega)]
        show ((ldI h (rf y 7) (nI o)).bind _) = _
        have k6 := W.2.2.2.2.2.1 o ho2
        rw [y_rf7 hy, y_ld1 hy (by omega), ek o ho2, Ib, lit_2, i_eq (by omega) (by omega)]
        by_cases q2 : yk Y o = 2
        · have hs1 : sl1 (yn Y) i B (asl Y) k = some o := by unfold sl1; rw [if_pos q, ho]; simp only; rw [asl_tb ho2, if_pos (by simpa using q2)]
          have two : slv (yn Y) (k + 1) i B (asl Y) = slv (yn Y) k i B (asl Y) ++ [o] := by rw [slv_s, hs1]; rfl
          obtain ⟨L, hL⟩ := slv_pre (n := yn Y) (i := i) (B := B) (A := asl Y) (yc Y - (k + 1)) (k + 1)
          rw [show k + 1 + (yc Y - (k + 1)) = yc Y by omega, two] at hL
          rw [if_pos q2]
          rcases hz with ⟨hz1, rfl⟩ | ⟨o', ho', hz1, rfl, hz2⟩
          · rw [if_pos rfl, i_tb1 (by omega) (by omega), wl]
            by_cases q3 : wet Y t l = true
            · rw [if_pos q3]
              cases hs' : slv (yn Y) (yc Y) i B (asl Y) with
              | nil => rfl
              | cons x L' =>
                cases L' with
                | nil => simp only [q3, if_true]; rfl
                | cons _ _ => rfl
            · rw [if_neg q3]
              exact hself (nI o, nI (k + 1)) ⟨rfl, Or.inr ⟨o, ho2, by rw [two, hz1]; rfl, rfl, by simpa using q3⟩⟩
          · rw [i_m9 (by omega)]
            rw [hz1] at hL
            rw [hL]
            rfl
        · rw [if_neg q2]
          exact stay (by unfold sl1; rw [if_pos q, ho]; simp only; rw [asl_tb ho2, if_neg (by simpa using q2)])
    · rw [if_neg q]
      exact stay (by unfold sl1; rw [if_neg q])
  · rintro ⟨z1, z2⟩ ⟨rfl, hz⟩ self
    simp only [gO_y hy R.1, Ib, e5]
    rw [if_pos (rf_le (by omega))]
    simp only at hz
    rcases hz with ⟨hz1, rfl⟩ | ⟨o, ho, hz1, rfl, hz2⟩
    · rw [if_pos rfl, hz1]
      rfl
    · have w1 := wg_le o
      have w2 := wg_pos o
      have b1 : s1 / wgt o ≤ s1 := Nat.div_le_self _ _
      rw [i_m9 (by omega), hz1, wg_t (by omega), Ib, dv_n hs w2 (by omega), Ib, Ib, lit_12, rem_n (by omega) (by decide) (by decide)]
      show some (nI s1 + (nI l - nI (dg s1 o)) * nI (wgt o)) = _
      rw [pt_ev]
      simp only [hz2, if_false]
      rfl
theorem after_ev (H : YC y Y h) (W : YW Y) (hy : IsY y) (R : RC y Y t op h) (hs : s < 20736) (hi : i < yn Y) (hd : d < 4) (ho : op < 16) (hg : ∀ j, j < yn Y → dg s j < ycl Y) (hF : 4 < F) : f_X2_after F (nI s) (nI i) (nI d) h = some (oI (aft Y t op s i d)) := by
  have hn := W.2.2.1
  have hc := yc_le W
  have hcl := ycl_le W
  have hw := wtr_lt W t
  have hH := H
  obtain ⟨-, -, -, -, e4, e5, ek, -, -, -, en, ep⟩ := H
  obtain ⟨wo, w1, w2, w3⟩ := wo_tb (W.2.2.2.2.2.1 i hi) hd
  have k6 := W.2.2.2.2.2.1 i hi
  have g1 := hg i hi
  have g12 := dg_lt s i
  unfold f_X2_after aft
  simp only [gO_y hy R.1, Ib, e4, y_rf7 hy, y_rf12 hy, R.2.1, R.2.2]
  rw [i_neg (by omega), if_neg (nle_k (by omega) hi), i_neg (by omega), lit_4, if_neg (nle_k (by decide) hd), y_ld1 hy (by omega), ek i hi, Ib, w2, Ib, i_tb0 (by omega) (by omega), w3, cell_ev (by omega) (by omega), Ib, pk_mul, nI_add, y_ld6 hy (by omega), en _ g1 d hd, Ib]
  by_cases q1 : mgo (yk Y i) d = true
  · rw [if_pos q1, if_pos q1]
    cases hb : nxc Y (dg s i) d with
    | none => rfl
    | some b =>
      have hb2 := (nxc_lt W g1 hd hb).1
      have p2 := tkb_lt s (yn Y)
      have p3 : wtr Y t ||| tkb s (yn Y) < 4096 := or_lt (k := 12) hw p2
      have ob : oI (some b) = nI b := rfl
      simp only [ob]
      rw [i_m9 (by omega), taken_ev hH W hy R (by omega) hF, Ib, n_or (by omega) (by omega)]
      rw [i_tb1 (by omega) (by omega), tb_or, tkb_tb]
      have wb : (wtr Y t).testBit b = wet Y t b := by
        unfold wtr
        rw [bts_tb]
        simp [hb2]
      simp only [wb, Bool.or_eq_true]
      by_cases q2 : wet Y t b = true ∨ ocb s b (yn Y) = true
      · rw [if_pos q2, if_pos q2]
        rfl
      · rw [if_neg q2, if_neg q2, wg_t (by omega), Ib]
        simp only [pt_ev]
        have s1lt := pt_lt hs (show i < 4 by omega) (show b < 12 by omega)
        have hg1 : ∀ j, j < yn Y → dg (pt s i b) j < ycl Y := by
          intro j hj
          by_cases e : j = i
          · subst e
            rw [dg_pt hs (by omega) (by omega)]
            exact hb2
          · rw [dg_pt_ne hs (by omega) (by omega) (by omega) e]
            exact hg j hj
        rw [tooFar_ev hH W hy (by omega) ho hg1 hF, Ib]
        have t16 := trn_lt W op (pt s i b)
        rw [lit_0, i_eq (by omega) (by decide)]
        by_cases q3 : trn Y op (pt s i b) = 0
        · rw [if_pos q3, if_pos q3, Ib]
          show (Option.bind (if nI (trn Y op (pt s i b)) = nI 0 then _ else _) _) = _
          rw [i_eq (by omega) (by decide), if_pos q3]
          rfl
        · rw [if_neg q3, if_neg q3, Ib, lit_1, i_eq (by omega) (by decide)]
          by_cases q4 : yk Y i = 1
          · rw [if_pos q4, if_pos q4, along_ev hH W hy R (by omega) hi g1 (by omega) hF, Ib]
            have bad : ∀ (x : Int32), (Option.bind (some (x, nI (trn Y op (pt s i b)))) fun t12 : Int32 × Int32 => Option.bind (if t12.2 = 0 then some t12.1 else some (-9)) fun t24 => some t24) = some (-9) := by
              intro x
              rw [Ib]
              show (Option.bind (if nI (trn Y op (pt s i b)) = nI 0 then _ else _) _) = _
              rw [i_eq (by omega) (by decide), if_neg q3]
              rfl
            have hL := fun o (ho : o ∈ slv (yn Y) (yc Y) i (trn Y op (pt s i b)) (asl Y)) => (slv_mem (n := yn Y) (c := yc Y) chn_le ho).1
            generalize slv (yn Y) (yc Y) i (trn Y op (pt s i b)) (asl Y) = L at *
            match L, hL with
            | [], _ =>
              show (Option.bind (Option.bind (if (-9 : Int32) = -9 then _ else _) _) _) = _
              rw [if_pos rfl]
              exact bad _
            | x :: z :: L', _ =>
              show (Option.bind (Option.bind (if (-9 : Int32) = -9 then _ else _) _) _) = _
              rw [if_pos rfl]
              exact bad _
            | [o], hL =>
              have o4 := hL o List.mem_cons_self
              unfold alg
              by_cases q5 : wet Y t (dg s i) = true
              · simp only [q5, if_true]
                show (Option.bind (Option.bind (if (-9 : Int32) = -9 then _ else _) _) _) = _
                rw [if_pos rfl]
                exact bad _
              · simp only [q5, if_false]
                have s2lt := pt_lt s1lt (show o < 4 by omega) g12
                have hg2 : ∀ j, j < yn Y → dg (pt (pt s i b) o (dg s i)) j < ycl Y := by
                  intro j hj
                  by_cases e : j = o
                  · subst e
                    rw [dg_pt s1lt (by omega) (by omega)]
                    exact g1
                  · rw [dg_pt_ne s1lt (by omega) (by omega) (by omega) e]
                    exact hg1 j hj
                show (Option.bind (Option.bind (if nI (pt (pt s i b) o (dg s i)) = -9 then _ else (f_X6_tooFar F y (nI (pt (pt s i b) o (dg s i))) (nI op) h).bind _) _) _) = _
                have u16 := trn_lt W op (pt (pt s i b) o (dg s i))
                rw [i_m9 (by omega), tooFar_ev hH W hy (by omega) ho hg2 hF, Ib, Ib, Ib]
                show (Option.bind (if nI (trn Y op (pt (pt s i b) o (dg s i))) = nI 0 then _ else _) _) = _
                rw [i_eq (by omega) (by decide)]
                by_cases q6 : trn Y op (pt (pt s i b) o (dg s i)) = 0
                · rw [if_pos q6, if_pos q6]
                  rfl
                · rw [if_neg q6, if_neg q6]
                  rfl
          · rw [if_neg q4, if_neg q4, Ib]
            show (Option.bind (if nI (trn Y op (pt s i b)) = nI 0 then _ else _) _) = _
            rw [i_eq (by omega) (by decide), if_neg q3]
            rfl
  · rw [if_neg q1, if_neg q1]
    rfl
end STEP
