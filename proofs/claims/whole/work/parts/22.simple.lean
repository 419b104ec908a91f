/-! what is related, whatever else stands (P) -/
theorem gAj_ne {h : Hp} {a b j : Nat} {f : Nat → Int32} (hb : b ≠ a) : gI (sA h a f) b j = gI h b j := by rw [gI_sA, if_neg hb]
theorem gAj_eq {h : Hp} {a j : Nat} {f : Nat → Int32} : gI (sA h a f) a j = f j := by rw [gI_sA, if_pos rfl]
def irr (a k : Nat) : Bool := decide (3 ≤ a ∧ a ≤ 9) || decide (12 ≤ a ∧ a ≤ 16) || decide (a = 40) || decide (67 ≤ a ∧ a ≤ 72) || decide (a = 0 ∧ (k = 14 ∨ k = 15)) || decide (a = 66 ∧ (k = 0 ∨ k = 2))
/-- the picture without rows, texts, findings, what is told -/
def oth (h : Hp) : Hp := (fun a k => if irr a k = true then 0 else gI h a k, h.2.1, h.2.2)
theorem oth_sI {h : Hp} {a k : Nat} {v : Int32} (hk : irr a k = true) : oth (sI h a k v) = oth h := by
  unfold oth
  refine Prod.ext ?_ rfl
  funext b j
  show (if irr b j = true then 0 else gI (sI h a k v) b j) = if irr b j = true then 0 else gI h b j
  by_cases q : irr b j = true
  · rw [if_pos q, if_pos q]
  · rw [if_neg q, if_neg q, gI_sI, if_neg]
    rintro ⟨rfl, rfl⟩
    exact q hk
theorem oth_sA {h : Hp} {a : Nat} {f : Nat → Int32} (hk : ∀ k, irr a k = true) : oth (sA h a f) = oth h := by
  unfold oth
  refine Prod.ext ?_ rfl
  funext b j
  show (if irr b j = true then 0 else gI (sA h a f) b j) = if irr b j = true then 0 else gI h b j
  by_cases q : irr b j = true
  · rw [if_pos q, if_pos q]
  · rw [if_neg q, if_neg q, gAj_ne]
    rintro rfl
    exact q (hk j)
theorem irr_row {a k : Nat} (h : 3 ≤ a ∧ a ≤ 9 ∨ 12 ≤ a ∧ a ≤ 16 ∨ a = 40 ∨ 67 ≤ a ∧ a ≤ 72) : irr a k = true := by
  unfold irr
  simp only [Bool.or_eq_true, decide_eq_true_eq]
  omega
def ISh (z b N z2 a2 : Nat) (h : Hp) : Prop := ∀ r, r < N → gI h z r = gI h z2 r ∧ (gI h z r = -1 ∨ ∃ n, n ≤ 40 ∧ gI h z r = nI n) ∧ ∀ i, i < 40 → gI h (b + r) i = gI h a2 (40 * r + i)
def IMsc (h : Hp) : Prop := gI h 0 14 = gI h 66 2 ∧ gI h 0 15 = gI h 66 0 ∧ ∀ f, f < 6 → gI h 40 f = gI h 67 f
def Inv0 (P : Hp → Prop) (h : Hp) : Prop := ISh 9 3 6 68 69 h ∧ ISh 16 12 4 71 72 h ∧ IMsc h ∧ P (oth h)
/-- both answer alike, and all stays related -/
def Alk (P : Hp → Prop) (A B : Hp → Option (Int32 × Hp)) (h : Hp) : Prop := ∃ v h1 h2, A h = some (v, h1) ∧ B h1 = some (v, h2) ∧ Inv0 P h2
theorem ISh.keep {z b N z2 a2 : Nat} {h h' : Hp} (I : ISh z b N z2 a2 h) (h1 : gI h' z = gI h z) (h2 : gI h' z2 = gI h z2) (h3 : ∀ r, r < N → gI h' (b + r) = gI h (b + r)) (h4 : gI h' a2 = gI h a2) : ISh z b N z2 a2 h' := by
  intro r hr
  rw [h1, h2, h3 r hr, h4]
  exact I r hr
theorem found_n {f : Nat} {h : Hp} (hf : f < 6) : f_X7_found (nI f) h = some (-3, sI (sI h 0 15 (nI f)) 40 f (gI h 40 f + 1)) := by
  simp only [f_X7_found, nm]
  rw [ld_40 hf, Ib, st_40 hf, Ib, gI_ne (by decide)]
theorem meets_n {f : Nat} {h : Hp} (hf : f < 6) : f_X8_meets (nI f) h = some (-3, sI (sI h 66 0 (nI f)) 67 f (gI h 67 f + 1)) := by
  simp only [f_X8_meets, nm]
  rw [ld_67 hf, Ib, st_67 hf, Ib, gI_ne (by decide)]
section SIMPLE
variable {P : Hp → Prop} {h : Hp}
theorem inv_found {f : Nat} (I : Inv0 P h) (hf : f < 6) : Inv0 P (sI (sI (sI (sI h 0 15 (nI f)) 40 f (gI h 40 f + 1)) 66 0 (nI f)) 67 f (gI h 67 f + 1)) := by
  obtain ⟨I1, I2, ⟨m1, m2, m3⟩, I4⟩ := I
  refine ⟨I1.keep ?_ ?_ (fun r hr => ?_) ?_, I2.keep ?_ ?_ (fun r hr => ?_) ?_, ⟨?_, ?_, fun g hg => ?_⟩, ?_⟩
  case refine_11 =>
    by_cases q : g = f
    · subst q
      simp (disch := omega) only [gI_ne, gI_eq, gI_nk]
      rw [m3 g hg]
    · simp (disch := omega) only [gI_ne, gI_nk]
      exact m3 g hg
  case refine_12 =>
    rw [oth_sI (irr_row (by omega)), oth_sI rfl, oth_sI (irr_row (by omega)), oth_sI rfl]
    exact I4
  all_goals simp (disch := omega) only [gf_ne, gI_ne, gI_nk, gI_eq]
  · exact m1
theorem alk_found {f : Nat} (I : Inv0 P h) (hf : f < 6) : Alk P (f_X7_found (nI f)) (f_X8_meets (nI f)) h := by
  refine ⟨_, _, _, found_n hf, meets_n hf, ?_⟩
  have e : gI (sI (sI h 0 15 (nI f)) 40 f (gI h 40 f + 1)) 67 f = gI h 67 f := by simp (disch := omega) only [gI_ne]
  rw [e]
  exact inv_found I hf
end SIMPLE
