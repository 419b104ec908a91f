/-! the model's yard and its steps -/
/-- alike but for the places of S -/
def Eo (S : Nat → Nat → Prop) (h h' : Hp) : Prop := (∀ a k, ¬ S a k → gI h' a k = gI h a k) ∧ h'.2 = h.2
theorem Eo.refl {S : Nat → Nat → Prop} {h : Hp} : Eo S h h := ⟨fun _ _ _ => rfl, rfl⟩
theorem Eo.trans {S : Nat → Nat → Prop} {h h' h'' : Hp} (A : Eo S h h') (B : Eo S h' h'') : Eo S h h'' := ⟨fun a k q => (B.1 a k q).trans (A.1 a k q), B.2.trans A.2⟩
theorem Eo.mono {S T : Nat → Nat → Prop} {h h' : Hp} (A : Eo S h h') (q : ∀ a k, S a k → T a k) : Eo T h h' := ⟨fun a k n => A.1 a k (fun z => n (q a k z)), A.2⟩
theorem Eo.sI {S : Nat → Nat → Prop} {h h' : Hp} {a k : Nat} {v : Int32} (A : Eo S h h') (q : S a k) : Eo S h (sI h' a k v) := ⟨fun b j n => by
  rw [gI_sI, if_neg, A.1 b j n]
  rintro ⟨rfl, rfl⟩
  exact n q, A.2⟩
theorem Eo.sA {S : Nat → Nat → Prop} {h h' : Hp} {a : Nat} {f : Nat → Int32} (A : Eo S h h') (q : ∀ k, S a k) : Eo S h (sA h' a f) := ⟨fun b j n => by
  rw [gI_sA, if_neg, A.1 b j n]
  rintro rfl
  exact n (q j), A.2⟩
def bz (b : Bool) : Int32 := if b = true then 1 else 0
theorem ck_bz (b : Bool) : ckZ (bz b) = some (bz b) := by cases b <;> rfl
theorem bz0 (b : Bool) : (bz b = 0) = (b = false) := by cases b <;> simp [bz]
theorem bz1 (b : Bool) : (bz b = 1) = (b = true) := by cases b <;> simp [bz]
theorem i_bz0 {α : Type} {b : Bool} {x y : α} : (if bz b = 0 then x else y) = if b = true then y else x := by cases b <;> rfl
theorem i_bz1 {α : Type} {b : Bool} {x y : α} : (if bz b = 1 then x else y) = if b = true then x else y := by cases b <;> rfl
def MY (Y : YS) (h : Hp) : Prop := gI h 66 8 = nI (yl Y) ∧ gI h 66 9 = nI (yw Y) ∧ gI h 66 10 = nI (yn Y) ∧ gI h 66 11 = nI (yc Y) ∧ (∀ a, a < ycl Y → gI h 73 a = bz ((yb Y).testBit a)) ∧ (∀ i, i < yn Y → gI h 74 i = nI (yk Y i)) ∧ (∀ k, k < yc Y → gI h 76 k = nI (yg Y k))
def MT (Y : YS) (t op : Nat) (h : Hp) : Prop := gI h 66 13 = nI t ∧ ∀ k, k < yc Y → gI h 77 k = bz (op.testBit k)
def LK (Y : YS) (s : Nat) (h : Hp) : Prop := ∀ i, i < yn Y → gI h 82 i = nI (dg s i)
def sSt (a k : Nat) : Prop := a = 82 ∨ a = 66 ∧ k = 31
theorem MY.keep {Y : YS} {h h' : Hp} {S : Nat → Nat → Prop} (M : MY Y h) (e : Eo S h h') (hS : ∀ a k, S a k → ¬ (a = 73 ∨ a = 74 ∨ a = 76 ∨ a = 66 ∧ 8 ≤ k ∧ k ≤ 11)) : MY Y h' := by
  obtain ⟨m1, m2, m3, m4, m5, m6, m7⟩ := M
  refine ⟨?_, ?_, ?_, ?_, fun a ha => ?_, fun a ha => ?_, fun a ha => ?_⟩
  · rw [e.1 66 8 (fun q => hS _ _ q (by omega))]; exact m1
  · rw [e.1 66 9 (fun q => hS _ _ q (by omega))]; exact m2
  · rw [e.1 66 10 (fun q => hS _ _ q (by omega))]; exact m3
  · rw [e.1 66 11 (fun q => hS _ _ q (by omega))]; exact m4
  · rw [e.1 73 a (fun q => hS _ _ q (by omega))]; exact m5 a ha
  · rw [e.1 74 a (fun q => hS _ _ q (by omega))]; exact m6 a ha
  · rw [e.1 76 a (fun q => hS _ _ q (by omega))]; exact m7 a ha
theorem MT.keep {Y : YS} {t op : Nat} {h h' : Hp} {S : Nat → Nat → Prop} (M : MT Y t op h) (e : Eo S h h') (hS : ∀ a k, S a k → ¬ (a = 77 ∨ a = 66 ∧ k = 13)) : MT Y t op h' := by
  refine ⟨?_, fun k hk => ?_⟩
  · rw [e.1 66 13 (fun q => hS _ _ q (by omega))]; exact M.1
  · rw [e.1 77 k (fun q => hS _ _ q (by omega))]; exact M.2 k hk
/-! small functions, tried at all their numbers -/
def farF (a b w : Int32) : Option Int32 := (dvI a w).bind fun v1 => (dvI b w).bind fun v2 => (rmI a w).bind fun v4 => (rmI b w).bind fun v5 => some ((if 0 ≤ v1 - v2 then v1 - v2 else -(v1 - v2)) + (if 0 ≤ v4 - v5 then v4 - v5 else -(v4 - v5)))
theorem size_ev {x : Int32} {h : Hp} : f_X8_sizeOf x h = some (if 0 ≤ x then x else -x) := by
  unfold f_X8_sizeOf
  by_cases q : 0 ≤ x
  · rw [if_pos q, if_pos q]; rfl
  · rw [if_neg q, if_neg q]; rfl
theorem farF_eq {a b w : Int32} {h : Hp} : f_X8_farIn a b w h = farF a b w := by
  unfold f_X8_farIn farF
  simp only [size_ev, Ib]
theorem farIn_ev {a b w : Nat} {h : Hp} (ha : a < 12) (hb : b < 12) (hw : 0 < w) (hw2 : w ≤ 4) : f_X8_farIn (nI a) (nI b) (nI w) h = some (nI (dst w a b)) := by
  rw [farF_eq]
  exact (show ∀ w, w < 5 → 0 < w → ∀ a, a < 12 → ∀ b, b < 12 → farF (nI a) (nI b) (nI w) = some (nI (dst w a b)) by decide +kernel) w (by omega) hw a ha b hb
def rchF (g k1 k2 : Int32) : Option Int32 := let x := g + (if k1 = 1 then 1 else 0) + (if k2 = 1 then 1 else 0) - (if k1 = 5 then 1 else 0) - (if k2 = 5 then 1 else 0)
  some (if 1 ≤ x then x else 1)
theorem oite {c : Prop} [Decidable c] {β : Type} {x y : Int32} {f : Int32 → Option β} : (Option.bind (if c then some x else some y) f) = f (if c then x else y) := by
  by_cases q : c
  · rw [if_pos q, if_pos q]; rfl
  · rw [if_neg q, if_neg q]; rfl
theorem reachBy_ev {g k1 k2 : Nat} {h : Hp} (hg : g < 10) (h1 : k1 < 6) (h2 : k2 < 6) : f_X8_reachBy (nI g) (nI k1) (nI k2) h = some (nI (rchb g k1 k2)) := by
  have e : ∀ (a b c : Int32) (h' : Hp), f_X8_reachBy a b c h = f_X8_reachBy a b c h' := fun a b c h' => rfl
  rw [e _ _ _ h00]
  exact (show ∀ g, g < 10 → ∀ k1, k1 < 6 → ∀ k2, k2 < 6 → f_X8_reachBy (nI g) (nI k1) (nI k2) h00 = some (nI (rchb g k1 k2)) by decide +kernel) g hg k1 h1 k2 h2
def nxF (x1 x2 w l : Int32) : Option Int32 := f_X8_nextCell x1 x2 (fun a k => if k = 9 then w else l, fun _ _ => none, fun _ _ => 0)
theorem nx_ev {Y : YS} {h : Hp} {a d : Nat} (M : MY Y h) (W : YW Y) (ha : a < ycl Y) (hd : d < 4) : f_X8_nextCell (nI a) (nI d) h = some (oI (nxg (yw Y) (yl Y) a d)) := by
  have e : f_X8_nextCell (nI a) (nI d) h = nxF (nI a) (nI d) (gI h 66 9) (gI h 66 8) := rfl
  rw [e, M.1, M.2.1]
  exact (show ∀ w, w < 5 → ∀ l, l < 4 → ∀ a, a < w * l → ∀ d, d < 4 → nxF (nI a) (nI d) (nI w) (nI l) = some (oI (nxg w l a d)) by decide +kernel) (yw Y) (by have := W.1; omega) (yl Y) (by have := W.2.1; omega) a ha d hd
def mgF (k d : Int32) : Option Int32 := f_X8_mayGo 0 d (fun _ _ => k, fun _ _ => none, fun _ _ => 0)
theorem mg_ev {Y : YS} {h : Hp} {i d : Nat} (M : MY Y h) (W : YW Y) (hi : i < yn Y) (hd : d < 4) : f_X8_mayGo (nI i) (nI d) h = some (bz (mgo (yk Y i) d)) := by
  have hn := W.2.2.1
  have e : f_X8_mayGo (nI i) (nI d) h = mgF (gI h 74 i) (nI d) := by
    unfold mgF f_X8_mayGo
    rw [ld_74 (by omega)]
    rfl
  rw [e, M.2.2.2.2.2.1 i hi]
  exact (show ∀ k, k < 6 → ∀ d, d < 4 → mgF (nI k) (nI d) = some (bz (mgo k d)) by decide +kernel) (yk Y i) (W.2.2.2.2.2.1 i hi) d hd
def wtF (c w l t : Int32) : Option Int32 := f_X8_isWet c (fun _ k => if k = 9 then w else if k = 8 then l else t, fun _ _ => none, fun _ _ => 0)
theorem wet_ev {Y : YS} {h : Hp} {t op c : Nat} (M : MY Y h) (T : MT Y t op h) (W : YW Y) (hw : 0 < yw Y) (ht : t ≤ 3) (hc : c < 12) : f_X8_isWet (nI c) h = some (bz (wet Y t c)) := by
  have e : f_X8_isWet (nI c) h = wtF (nI c) (gI h 66 9) (gI h 66 8) (gI h 66 13) := rfl
  rw [e, M.1, M.2.1, T.1]
  have k := (show ∀ w, w < 4 → ∀ l, l < 4 → ∀ t, t < 4 → ∀ c, c < 12 → wtF (nI c) (nI (w + 1)) (nI l) (nI t) = some (bz (decide (l ≤ c / (w + 1) + t))) by decide +kernel) (yw Y - 1) (by have := W.1; omega) (yl Y) (by have := W.2.1; omega) t (by omega) c hc
  rw [show yw Y - 1 + 1 = yw Y by omega] at k
  exact k
theorem other_ev {Y : YS} {h : Hp} {k : Nat} (M : MY Y h) (W : YW Y) (hk : k < yn Y) : f_X8_otherEnd (nI k) h = some (nI (sec (yn Y) k)) := by
  have hn := W.2.2.1
  unfold f_X8_otherEnd
  rw [M.2.2.1, n_add1, rm_n (by omega) (by omega) (by omega), Ib]
  congr 2
  unfold sec
  by_cases q : k + 1 < yn Y
  · rw [if_pos q, Nat.mod_eq_of_lt q]
  · rw [if_neg q, show k + 1 = yn Y by omega, Nat.mod_self]
/-! chains -/
section MCHAIN
variable {Y : YS} {h : Hp} {t op s : Nat}
theorem yw_pos (W : YW Y) (hn : 0 < yn Y) : 0 < yw Y ∧ 0 < yl Y := by
  have h1 := W.2.2.2.1
  unfold ycl at h1
  rcases Nat.eq_zero_or_pos (yw Y) with q | q
  · rw [q, Nat.zero_mul] at h1; omega
  · rcases Nat.eq_zero_or_pos (yl Y) with q2 | q2
    · rw [q2, Nat.mul_zero] at h1; omega
    · exact ⟨q, q2⟩
theorem farOf_ev {k : Nat} (M : MY Y h) (W : YW Y) (L : LK Y s h) (hk : k < yc Y) : f_X8_farOf (nI k) h = some (nI (dst (yw Y) (dg s k) (dg s (sec (yn Y) k)))) := by
  have hn := W.2.2.1
  have hk2 := chn_2 hk
  have hs2 : sec (yn Y) k < yn Y := sec_lt (by omega)
  unfold f_X8_farOf
  rw [ld_82 (by omega), Ib, other_ev M W hk2.2, Ib, ld_82 (by omega), Ib, L k hk2.2, L _ hs2, M.2.1, farIn_ev (dg_lt _ _) (dg_lt _ _) (yw_pos W (by omega)).1 W.1]
  rfl
theorem reachOf_ev {k : Nat} (M : MY Y h) (W : YW Y) (hk : k < yc Y) : f_X8_reachOf (nI k) h = some (nI (rch Y k)) := by
  have hn := W.2.2.1
  have hk2 := chn_2 hk
  have hs2 : sec (yn Y) k < yn Y := sec_lt (by omega)
  have g := W.2.2.2.2.2.2 k hk
  unfold f_X8_reachOf
  rw [ld_76 (by omega), Ib, ld_74 (by omega), Ib, other_ev M W hk2.2, Ib, ld_74 (by omega), Ib, M.2.2.2.2.2.1 k hk2.2, M.2.2.2.2.2.1 _ hs2, M.2.2.2.2.2.2 k hk, reachBy_ev (by omega) (W.2.2.2.2.2.1 _ hk2.2) (W.2.2.2.2.2.1 _ hs2)]
  rfl
theorem kept_ev {k : Nat} (M : MY Y h) (T : MT Y t op h) (W : YW Y) (L : LK Y s h) (hk : k < yc Y) : f_X8_isKeptChain (nI k) h = some (bz (!brk Y op s k)) := by
  have hn := W.2.2.1
  have hk2 := chn_2 hk
  have r1 := rch_lt W hk
  have r2 : dst (yw Y) (dg s k) (dg s (sec (yn Y) k)) < 100 := dst_lt (dg_lt _ _) (dg_lt _ _)
  unfold f_X8_isKeptChain
  rw [ld_77 (by omega), Ib, T.2 k hk, i_bz1, farOf_ev M W L hk, Ib, reachOf_ev M W hk, Ib, i_lt (by omega) (by omega)]
  unfold brk
  by_cases q : op.testBit k = true
  · rw [if_pos q, Ib, q]; rfl
  · rw [if_neg q]
    by_cases q2 : rch Y k < dst (yw Y) (dg s k) (dg s (sec (yn Y) k))
    · rw [if_pos q2, Ib]
      simp [q, q2, bz]
      rfl
    · rw [if_neg q2, Ib]
      simp [q, q2, bz]
      rfl
theorem all_ev {F : Nat} (M : MY Y h) (T : MT Y t op h) (W : YW Y) (L : LK Y s h) (hF : 4 < F) : f_X8_allKept F h = some (bz (decide (trn Y op s = 0))) := by
  have hc := yc_le W
  unfold f_X8_allKept
  refine fix_seq (fun k => (bz (decide (bts (brk Y op s) k = 0)), nI k)) (yc Y) rfl (fun k hk self => ?_) (fun self => ?_) (by omega)
  · simp only [M.2.2.2.1]
    rw [if_neg (nle_k (by omega) hk), i_bz0, kept_ev M T W L hk, Ib, i_bz0, n_add1]
    have e : ∀ x : Bool, x = decide (bts (brk Y op s) (k + 1) = 0) → self (bz x, nI (k + 1)) = self (bz (decide (bts (brk Y op s) (k + 1) = 0)), nI (k + 1)) := fun x hx => by rw [hx]
    by_cases q : bts (brk Y op s) k = 0
    · rw [if_pos (by simpa using q)]
      by_cases q2 : brk Y op s k = true
      · rw [if_neg (by rw [q2]; decide), Ib]
        refine e false ?_
        rw [bts_s1 q2]
        symm
        rw [decide_eq_false_iff_not]
        intro hz
        have := tb_or (bts (brk Y op s) k) (2 ^ k) k
        rw [hz, tb_pow] at this
        simp at this
      · have q3 : brk Y op s k = false := by simpa using q2
        rw [if_pos (by rw [q3]; rfl), Ib]
        refine e true ?_
        rw [bts_s0 q3]
        simp [q]
    · rw [if_neg (by simpa using q), Ib]
      refine e false ?_
      symm
      rw [decide_eq_false_iff_not]
      intro hz
      rw [bts_0] at hz q
      exact q (fun j hj => hz j (by omega))
  · simp only [M.2.2.2.1]
    rw [if_pos (rf_le (by omega)), ck_bz]
    rfl
theorem who_ev {F c : Nat} (M : MY Y h) (W : YW Y) (L : LK Y s h) (hc : c < 12) (hF : 4 < F) : ∃ o : Option Nat, f_X8_whoOn F (nI c) h = some (oI o) ∧ (∀ i, o = some i → i < yn Y ∧ dg s i = c) ∧ (o = none ↔ ocb s c (yn Y) = false) := by
  have hn := W.2.2.1
  let lst : Nat → Option Nat := fun m => Nat.rec none (fun k r => if dg s k = c then some k else r) m
  have l0 : lst 0 = none := rfl
  have ls : ∀ k, lst (k + 1) = if dg s k = c then some k else lst k := fun k => rfl
  have hl : ∀ m, (∀ i, lst m = some i → i < m ∧ dg s i = c) ∧ (lst m = none ↔ ocb s c m = false) := by
    intro m
    induction m with
    | zero => exact ⟨fun i hi => (by rw [l0] at hi; cases hi), by rw [l0]; simp [ocb]⟩
    | succ m ih =>
      rw [ls]
      by_cases q : dg s m = c
      · rw [if_pos q]
        exact ⟨fun i hi => by cases hi; exact ⟨by omega, q⟩, by simp [ocb, q]⟩
      · rw [if_neg q]
        exact ⟨fun i hi => ⟨by have := (ih.1 i hi).1; omega, (ih.1 i hi).2⟩, by rw [ih.2]; simp [ocb, q]⟩
  refine ⟨lst (yn Y), ?_, hl (yn Y)⟩
  unfold f_X8_whoOn
  refine fix_seq (fun k => (oI (lst k), nI k)) (yn Y) rfl (fun k hk self => ?_) (fun self => ?_) (by omega)
  · have d := dg_lt s k
    simp only [M.2.2.1]
    rw [if_neg (nle_k (by omega) hk), ld_82 (by omega), Ib, L k hk, i_eq (by omega) (by omega), n_add1, ls]
    by_cases q : dg s k = c
    · rw [if_pos q, if_pos q]; rfl
    · rw [if_neg q, if_neg q]; rfl
  · simp only [M.2.2.1]
    rw [if_pos (rf_le (by omega))]
end MCHAIN
