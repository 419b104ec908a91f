/-! the law's loop -/
section LAWS
variable {P Q : Hp → Prop} {h : Hp} {j : Int32} {self : Int32 × Hp → Option Unit}
theorem iteR {α : Type} {c : Prop} [Decidable c] {x y R : α} (h1 : c → x = R) (h2 : ¬ c → y = R) : (if c then x else y) = R := by
  by_cases q : c
  · rw [if_pos q]; exact h1 q
  · rw [if_neg q]; exact h2 q
theorem lawA {A M : Hp → Option (Int32 × Hp)} (H : Alk2 P Q A M h) (k : ∀ h2, Inv0 Q h2 → self (j, h2) = some ()) : ((A h).bind fun v => (M v.2).bind fun w => (if v.1 = w.1 then self (j, w.2) else none)) = some () := by
  obtain ⟨v, h1, h2, e1, e2, I⟩ := H
  rw [e1, Ib]
  show ((M h1).bind fun w => (if v = w.1 then self (j, w.2) else none)) = some ()
  rw [e2, Ib]
  show (if v = v then self (j, h2) else none) = some ()
  rw [if_pos rfl]
  exact k h2 I
theorem wr_some {A : Hp → Option Int32} {v : Int32} {h1 : Hp} (e : wr A h = some (v, h1)) : A h = some v ∧ h1 = h := by
  unfold wr at e
  cases ha : A h with
  | none => rw [ha] at e; cases e
  | some x =>
    rw [ha] at e
    cases e
    exact ⟨rfl, rfl⟩
theorem lawW {A : Hp → Option Int32} {M : Hp → Option (Int32 × Hp)} (H : Alk2 P Q (wr A) M h) (k : ∀ h2, Inv0 Q h2 → self (j, h2) = some ()) : ((A h).bind fun v => (M h).bind fun w => (if v = w.1 then self (j, w.2) else none)) = some () := by
  obtain ⟨v, h1, h2, e1, e2, I⟩ := H
  obtain ⟨e3, rfl⟩ := wr_some e1
  rw [e3, Ib, e2, Ib]
  show (if v = v then self (j, h2) else none) = some ()
  rw [if_pos rfl]
  exact k h2 I
theorem lawC {A M : Hp → Option Int32} (H : Alk2 P Q (wr A) (wr M) h) (k : Inv0 Q h → self (j, h) = some ()) : ((A h).bind fun v => (M h).bind fun w => (if v = w then self (j, h) else none)) = some () := by
  obtain ⟨v, h1, h2, e1, e2, I⟩ := H
  obtain ⟨e3, rfl⟩ := wr_some e1
  obtain ⟨e4, rfl⟩ := wr_some e2
  rw [e3, Ib, e4, Ib, if_pos rfl]
  exact k I
theorem lawP {A M : Hp → Option Int32} (H : AlkP A M h) (k : self (j, h) = some ()) : ((A h).bind fun v => (M h).bind fun w => (if v = w then self (j, h) else none)) = some () := by
  obtain ⟨v, e1, e2⟩ := H
  rw [e1, Ib, e2, Ib, if_pos rfl]
  exact k
theorem cmp_self (x : Int64) : lg_cmp x x = 0 := by
  unfold lg_cmp
  simp
theorem lawL {A : Hp → Option Int64} {M : Hp → Option (Int64 × Hp)} (H : AlkL P Q A M h) (k : ∀ h2, Inv0 Q h2 → self (j, h2) = some ()) : ((A h).bind fun v => (M h).bind fun w => (if lg_cmp v w.1 = 0 then self (j, w.2) else none)) = some () := by
  obtain ⟨v, h2, e1, e2, I⟩ := H
  rw [e1, Ib, e2, Ib]
  show (if lg_cmp v v = 0 then self (j, h2) else none) = some ()
  rw [if_pos (cmp_self v)]
  exact k h2 I
end LAWS
theorem ldX_n {xs : Nat → Int32} {n i : Nat} (hi : i < n) (hn : n ≤ 384) : ldX xs n (nI i) = some (xs i) := by
  unfold ldX
  rw [nI_toInt (by omega), nI_clamp (by omega), if_pos ⟨by omega, by omega⟩]
theorem Inv0.up {B B' : Nat} {h : Hp} (I : Inv0 (PB B) h) (hB : B ≤ B') : Inv0 (PB B') h := ⟨I.1, I.2.1, I.2.2.1, PB.mono I.2.2.2 hB⟩
set_option maxRecDepth 100000 in
set_option maxHeartbeats 4000000 in
theorem law_ok {xs : Nat → Int32} {n : Nat} {h : Hp} (hn : n ≤ 384) (I0 : Inv0 (PB 0) h) {F : Nat} (hF : 20736 < F) : f_law F xs n h = some () := by
  unfold f_law
  refine fix_inv (fun (k : Nat) (z : Int32 × Hp) => z.1 = nI (6 * k) ∧ Inv0 (PB (4000 * k)) z.2) (n / 6) ⟨rfl, I0⟩ (by omega) ?_ ?_
  · rintro k ⟨x, g⟩ hk ⟨e1, I⟩ self hself
    have e1' : x = nI (6 * k) := e1
    subst e1'
    have I : Inv0 (PB (4000 * k)) g := I
    have b0 : 6 * k + 6 ≤ n := by omega
    have l0 : ldX xs n (nI (6 * k)) = some (xs (6 * k)) := ldX_n (by omega) hn
    have l1 : ldX xs n (nI (6 * k) + (1 : Int32)) = some (xs (6 * k + 1)) := by rw [lit_1, nI_add]; exact ldX_n (by omega) hn
    have l2 : ldX xs n (nI (6 * k) + (2 : Int32)) = some (xs (6 * k + 2)) := by rw [lit_2, nI_add]; exact ldX_n (by omega) hn
    have l3 : ldX xs n (nI (6 * k) + (3 : Int32)) = some (xs (6 * k + 3)) := by rw [lit_3, nI_add]; exact ldX_n (by omega) hn
    have l4 : ldX xs n (nI (6 * k) + (4 : Int32)) = some (xs (6 * k + 4)) := by rw [lit_4, nI_add]; exact ldX_n (by omega) hn
    have l5 : ldX xs n (nI (6 * k) + (5 : Int32)) = some (xs (6 * k + 5)) := by rw [lit_5, nI_add]; exact ldX_n (by omega) hn
    have hk : ∀ h2 B2, B2 ≤ 4000 * k + 4000 → Inv0 (PB B2) h2 → self (nI (6 * k) + 6, h2) = some () := by
      intro h2 B2 hB I2
      refine hself _ ⟨?_, I2.up (by omega)⟩
      show nI (6 * k) + 6 = nI (6 * (k + 1))
      rw [lit_6, nI_add]
      exact congrArg nI (by omega)
    have c0 : ¬ nI n - 6 < nI (6 * k) := by
      rw [lit_6, pk_sub (by omega), n_lt (by omega) (by omega)]
      omega
    simp only [c0, if_false, l0, l1, l2, l3, l4, l5, Ib]
    refine iteR (fun _ => lawA (alk_row I (by omega)).two (fun h2 I2 => hk h2 _ (by omega) I2)) (fun _ => ?_)
    refine iteR (fun _ => lawA (alk_lay I).two (fun h2 I2 => hk h2 _ (by omega) I2)) (fun _ => ?_)
    refine iteR (fun _ => lawA (alk_at I).two (fun h2 I2 => hk h2 _ (by omega) I2)) (fun _ => ?_)
    refine iteR (fun _ => lawA (alk_tear I).two (fun h2 I2 => hk h2 _ (by omega) I2)) (fun _ => ?_)
    refine iteR (fun _ => lawA (alk_copy I (by omega)).two (fun h2 I2 => hk h2 _ (by omega) I2)) (fun _ => ?_)
    refine iteR (fun _ => lawA (alk_mean I (by omega)).two (fun h2 I2 => hk h2 _ (by omega) I2)) (fun _ => ?_)
    refine iteR (fun _ => lawA (alk_text I (by omega)).two (fun h2 I2 => hk h2 _ (by omega) I2)) (fun _ => ?_)
    refine iteR (fun _ => lawA (alk_put I).two (fun h2 I2 => hk h2 _ (by omega) I2)) (fun _ => ?_)
    refine iteR (fun _ => lawA (alk_fault I (by omega)) (fun h2 I2 => hk h2 _ (by omega) I2)) (fun _ => ?_)
    refine iteR (fun _ => lawA (alk_yard I (by omega)) (fun h2 I2 => hk h2 _ (by omega) I2)) (fun _ => ?_)
    refine iteR (fun _ => lawA (alk_man I (by omega)) (fun h2 I2 => hk h2 _ (by omega) I2)) (fun _ => ?_)
    refine iteR (fun _ => lawA (alk_chain I (by omega)) (fun h2 I2 => hk h2 _ (by omega) I2)) (fun _ => ?_)
    refine iteR (fun _ => lawA (alk_mark I (by omega)) (fun h2 I2 => hk h2 _ (by omega) I2)) (fun _ => ?_)
    refine iteR (fun _ => lawA (alk_tide I (by omega)) (fun h2 I2 => hk h2 _ (by omega) I2)) (fun _ => ?_)
    refine iteR (fun _ => lawA (alk_open I (by omega)) (fun h2 I2 => hk h2 _ (by omega) I2)) (fun _ => ?_)
    refine iteR (fun _ => lawA (alk_step I (by omega)) (fun h2 I2 => hk h2 _ (by omega) I2)) (fun _ => ?_)
    refine iteR (fun _ => lawW (alk_can I (by omega)) (fun h2 I2 => hk h2 _ (by omega) I2)) (fun _ => ?_)
    refine iteR (fun _ => lawA (alk_undo I (by omega)) (fun h2 I2 => hk h2 _ (by omega) I2)) (fun _ => ?_)
    refine iteR (fun _ => lawW (alk_who I (by omega)) (fun h2 I2 => hk h2 _ (by omega) I2)) (fun _ => ?_)
    refine iteR (fun _ => lawA (alk_keep I (by omega)) (fun h2 I2 => hk h2 _ (by omega) I2)) (fun _ => ?_)
    refine iteR (fun _ => lawA (alk_on I (by omega)) (fun h2 I2 => hk h2 _ (by omega) I2)) (fun _ => ?_)
    refine iteR (fun _ => lawA (alk_near I (by omega) (by omega)) (fun h2 I2 => hk h2 _ (by omega) I2)) (fun _ => ?_)
    refine iteR (fun _ => lawA (alk_path I (by omega) (by omega)) (fun h2 I2 => hk h2 _ (by omega) I2)) (fun _ => ?_)
    refine iteR (fun _ => lawA (alk_reach I (by omega) (by omega)) (fun h2 I2 => hk h2 _ (by omega) I2)) (fun _ => ?_)
    refine iteR (fun _ => lawA (alk_where I (by omega) (by omega)) (fun h2 I2 => hk h2 _ (by omega) I2)) (fun _ => ?_)
    refine iteR (fun _ => lawA (alk_meet I (by omega) (by omega)) (fun h2 I2 => hk h2 _ (by omega) I2)) (fun _ => ?_)
    refine iteR (fun _ => lawA (alk_window I (by omega) (by omega)) (fun h2 I2 => hk h2 _ (by omega) I2)) (fun _ => ?_)
    refine iteR (fun _ => lawA (alk_comes I (by omega) (by omega)) (fun h2 I2 => hk h2 _ (by omega) I2)) (fun _ => ?_)
    refine iteR (fun _ => lawA (alk_fetch I (by omega) (by omega)) (fun h2 I2 => hk h2 _ (by omega) I2)) (fun _ => ?_)
    refine iteR (fun _ => lawA (alk_order I (by omega) (by omega)) (fun h2 I2 => hk h2 _ (by omega) I2)) (fun _ => ?_)
    refine iteR (fun _ => lawA (alk_keys I (by omega)) (fun h2 I2 => hk h2 _ (by omega) I2)) (fun _ => ?_)
    refine iteR (fun _ => lawA (alk_free I (by omega)) (fun h2 I2 => hk h2 _ (by omega) I2)) (fun _ => ?_)
    refine iteR (fun _ => lawA (alk_filed I (by omega)) (fun h2 I2 => hk h2 _ (by omega) I2)) (fun _ => ?_)
    refine iteR (fun _ => lawA (alk_judge I (by omega)) (fun h2 I2 => hk h2 _ (by omega) I2)) (fun _ => ?_)
    refine iteR (fun _ => lawA (alk_quarrel I) (fun h2 I2 => hk h2 _ (by omega) I2)) (fun _ => ?_)
    refine iteR (fun _ => lawA (alk_peace I) (fun h2 I2 => hk h2 _ (by omega) I2)) (fun _ => ?_)
    refine iteR (fun _ => lawA (alk_easter I (by omega)) (fun h2 I2 => hk h2 _ (by omega) I2)) (fun _ => ?_)
    refine iteR (fun _ => lawA (alk_lots I (by omega)) (fun h2 I2 => hk h2 _ (by omega) I2)) (fun _ => ?_)
    refine iteR (fun _ => lawP (alk_asked I) (hk _ _ (Nat.le_add_right _ _) I)) (fun _ => ?_)
    refine iteR (fun _ => lawL (alk_upper I (by omega)) (fun h2 I2 => hk h2 _ (by omega) I2)) (fun _ => ?_)
    refine iteR (fun _ => lawL (alk_lower I (by omega)) (fun h2 I2 => hk h2 _ (by omega) I2)) (fun _ => ?_)
    refine iteR (fun _ => lawC (alk_count I (by omega)) (fun _ => hk _ _ (Nat.le_add_right _ _) I)) (fun _ => ?_)
    refine iteR (fun _ => lawP (alk_finding I) (hk _ _ (Nat.le_add_right _ _) I)) (fun _ => ?_)
    refine iteR (fun _ => lawP (alk_findings I) (hk _ _ (Nat.le_add_right _ _) I)) (fun _ => ?_)
    refine iteR (fun _ => lawL (alk_digest I (by omega)) (fun h2 I2 => hk h2 _ (by omega) I2)) (fun _ => ?_)
    exact hk _ _ (Nat.le_add_right _ _) I
  · rintro ⟨x, g⟩ ⟨e1, I⟩ self
    have e1' : x = nI (6 * (n / 6)) := e1
    subst e1'
    have c0 : nI n - 6 < nI (6 * (n / 6)) := by
      rw [lit_6, zn, zn, zn, z_sub, z_lt (by omega) (by omega) (by omega) (by omega)]
      omega
    show (if nI n - 6 < nI (6 * (n / 6)) then _ else _) = _
    rw [if_pos c0]
theorem gI_00 {a k : Nat} (h : ¬ (a = 9 ∨ a = 16 ∨ a = 68 ∨ a = 71)) : gI h00 a k = 0 := by
  show (if a = 9 then _ else _ : Nat → Int32) k = _
  rw [if_neg (by omega), if_neg (by omega), if_neg (by omega), if_neg (by omega)]
theorem inv_00 : Inv0 (PB 0) h00 := by
  have g : ∀ a k, ¬ (a = 9 ∨ a = 16 ∨ a = 68 ∨ a = 71) → gI h00 a k = 0 := fun a k q => gI_00 q
  refine ⟨fun r hr => ⟨?_, Or.inl ?_, fun j hj => ?_⟩, fun r hr => ⟨?_, Or.inl ?_, fun j hj => ?_⟩, ⟨?_, ?_, fun f hf => ?_⟩, PB_oth.mpr ⟨41, zZ (0, 0, 0, false, 0, fun _ => 0, fun _ => 0) 0, zZ_W ?_ ?_, ⟨Or.inl rfl, rfl, rfl, ⟨rfl, ?_, ?_⟩, ⟨?_, ?_, ?_, ?_, ?_, ?_, fun i hi => absurd hi (Nat.not_lt_zero i), fun i hi => absurd hi (Nat.not_lt_zero i), fun i hi => absurd hi (Nat.not_lt_zero i), fun i hi => absurd hi (Nat.not_lt_zero i), fun i hi => absurd hi (Nat.not_lt_zero i), fun i hi => absurd hi (Nat.not_lt_zero i)⟩, ⟨?_, ?_, ?_, ?_, fun i hi => absurd hi (Nat.not_lt_zero i), fun i hi => absurd hi (Nat.not_lt_zero i)⟩, fun k hk => ⟨?_, fun f => (by cases f)⟩, ?_, fun i hi => absurd hi (Nat.not_lt_zero i)⟩, ⟨⟨?_, ?_, ?_, ?_, fun i hi => absurd hi (Nat.not_lt_zero i), fun i hi => absurd hi (Nat.not_lt_zero i), fun i hi => absurd hi (Nat.not_lt_zero i)⟩, ⟨?_, ?_, fun i hi => absurd hi (Nat.not_lt_zero i), fun i hi => absurd hi (Nat.not_lt_zero i), fun i hi => absurd hi (Nat.not_lt_zero i), fun i hi => absurd hi (Nat.not_lt_zero i)⟩, fun k hk => ⟨?_, fun f => (by cases f)⟩, ?_, fun i hi => absurd hi (Nat.not_lt_zero i)⟩, ⟨0, 0, 0, Nat.le_refl 0, ?_, ?_, ?_, fun s hs => ⟨0, Nat.le_refl 0, ?_⟩, fun _ => rfl, fun q => absurd q (Nat.lt_irrefl 0), by decide, by decide, fun q => absurd q (Nat.lt_irrefl 0)⟩⟩⟩
  · exact (show ∀ r, r < 6 → gI h00 9 r = gI h00 68 r by decide) r hr
  · exact (show ∀ r, r < 6 → gI h00 9 r = -1 by decide) r hr
  · rw [g _ _ (by omega), g _ _ (by omega)]
  · exact (show ∀ r, r < 4 → gI h00 16 r = gI h00 71 r by decide) r hr
  · exact (show ∀ r, r < 4 → gI h00 16 r = -1 by decide) r hr
  · rw [g _ _ (by omega), g _ _ (by omega)]
  · rw [g _ _ (by omega), g _ _ (by omega)]
  · rw [g _ _ (by omega), g _ _ (by omega)]
  · rw [g _ _ (by omega), g _ _ (by omega)]
  · exact ⟨Nat.zero_le _, Nat.zero_le _, Nat.zero_le _, Nat.zero_le _, by show 0 < 4096; decide, fun i hi => absurd hi (Nat.not_lt_zero i), fun i hi => absurd hi (Nat.not_lt_zero i)⟩
  · refine ⟨by decide, fun i hi _ => ?_, fun i hi => absurd hi (Nat.not_lt_zero i), fun i hi => absurd hi (Nat.not_lt_zero i)⟩
    exact (show ∀ i, i < 4 → dg 0 i = 0 by decide) i hi
  all_goals exact g _ _ (by omega)
theorem law_all (xs : Nat → Int32) {L : Nat} (hL : L ≤ 384) : f_law 20737 xs L h00 = some () := law_ok hL inv_00 (by decide)
