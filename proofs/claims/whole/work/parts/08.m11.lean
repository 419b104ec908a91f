def f_X8_in (x0_ : Int32) (x1_ : Int32) (x2_ : Int32) (h : Hp) : Option Int32 :=
  (Option.bind (α := Int32) (
    (if x0_ < x1_ then (
      some (0 : Int32))
    else (
      (if x2_ < x0_ then (
        some (0 : Int32))
      else (
        some (1 : Int32)))))) fun t1 =>
  ckZ t1)
set_option maxRecDepth 100000 in
set_option maxHeartbeats 4000000 in
theorem S_X8_in (x0_ : Int32) (x1_ : Int32) (x2_ : Int32) (h : Hp) (r : Int32) (hf : f_X8_in x0_ x1_ x2_ h = some r) : MetP Y_X8_in 1 [.int x0_, .int x1_, .int x2_] h (some (.int r), h) := by
  unfold f_X8_in at hf
  refine met_of yo_X8_in (Nat.le_of_ble_eq_true rfl) ?_
  show Run Y_X8_in _ 0 [some (.int x0_), some (.int x1_), some (.int x2_)] [] h
  refine r_iload_n dX8_in_0 rfl ?_
  refine r_iload_n dX8_in_1 rfl ?_
  refine r_reg (P := fun t1 => Run Y_X8_in (VM 1 (some (.int r), h)) 15 [some (.int x0_), some (.int x1_), some (.int x2_)] [.int t1] h) hf (fun t1 hf => ?_) (fun t1 key2 hf => ?_)
  · exact e_zP dX8_in_15 rfl hf
  · refine r_icmp_lt 14 dX8_in_2 (by decide) hf (fun c4 hf => ?_) (fun c4 hf => ?_)
    · refine r_iconst (v := 0) dX8_in_14 (by decide) ?_
      cases hf; exact key2
    · refine r_iload_n dX8_in_5 rfl ?_
      refine r_iload_n dX8_in_6 rfl ?_
      refine r_icmp_gt 14 dX8_in_7 (by decide) hf (fun c3 hf => ?_) (fun c3 hf => ?_)
      · refine r_iconst (v := 0) dX8_in_14 (by decide) ?_
        cases hf; exact key2
      · refine r_iconst (v := 1) dX8_in_10 (by decide) ?_
        refine r_goto 15 dX8_in_11 (by decide) ?_
        cases hf; exact key2
def f_X8_has (x0_ : Int32) (x1_ : Int32) (h : Hp) : Option Int32 :=
  (Option.bind (α := Int32) (
    (if ((x0_ >>> (x1_ &&& 31)) &&& (1 : Int32)) = (1 : Int32) then (
      some (1 : Int32))
    else (
      some (0 : Int32)))) fun t1 =>
  ckZ t1)
set_option maxRecDepth 100000 in
set_option maxHeartbeats 4000000 in
theorem S_X8_has (x0_ : Int32) (x1_ : Int32) (h : Hp) (r : Int32) (hf : f_X8_has x0_ x1_ h = some r) : MetP Y_X8_has 1 [.int x0_, .int x1_] h (some (.int r), h) := by
  unfold f_X8_has at hf
  refine met_of yo_X8_has (Nat.le_of_ble_eq_true rfl) ?_
  show Run Y_X8_has _ 0 [some (.int x0_), some (.int x1_)] [] h
  refine r_iload_n dX8_has_0 rfl ?_
  refine r_iload_n dX8_has_1 rfl ?_
  refine r_ishr dX8_has_2 ?_
  refine r_iconst (v := 1) dX8_has_3 (by decide) ?_
  refine r_iand dX8_has_4 ?_
  refine r_iconst (v := 1) dX8_has_5 (by decide) ?_
  refine r_reg (P := fun t1 => Run Y_X8_has (VM 1 (some (.int r), h)) 14 [some (.int x0_), some (.int x1_)] [.int t1] h) hf (fun t1 hf => ?_) (fun t1 key2 hf => ?_)
  · exact e_zP dX8_has_14 rfl hf
  · refine r_icmp_ne 13 dX8_has_6 (by decide) hf (fun c3 hf => ?_) (fun c3 hf => ?_)
    · refine r_iconst (v := 0) dX8_has_13 (by decide) ?_
      cases hf; exact key2
    · refine r_iconst (v := 1) dX8_has_9 (by decide) ?_
      refine r_goto 14 dX8_has_10 (by decide) ?_
      cases hf; exact key2
def f_X8_bits (F : Nat) (x0_ : Int32) (h : Hp) : Option Int32 :=
  fix (σ := Int32 × Int32) (ρ := Int32) (fun self2 s1 =>
    (if s1.2 = 0 then (
      some s1.1)
    else (
      nm ((s1.2 &&& (s1.2 - (1 : Int32)))) fun x4 =>
      self2 ((s1.1 + 1), x4)))) F ((0 : Int32), x0_)
set_option maxRecDepth 100000 in
set_option maxHeartbeats 4000000 in
theorem S_X8_bits (F : Nat) (x0_ : Int32) (h : Hp) (r : Int32) (hf : f_X8_bits F x0_ h = some r) : MetP Y_X8_bits 1 [.int x0_] h (some (.int r), h) := by
  unfold f_X8_bits at hf
  refine met_of yo_X8_bits (Nat.le_of_ble_eq_true rfl) ?_
  show Run Y_X8_bits _ 0 [some (.int x0_), none, none] [] h
  refine r_iconst (v := 0) dX8_bits_0 (by decide) ?_
  refine r_istore_nA dX8_bits_1 (by decide) ?_
  refine r_iload_n dX8_bits_2 rfl ?_
  refine r_istore_nA dX8_bits_3 (by decide) ?_
  refine r_fix (σ := Int32 × Int32) (fun s1 => [some (.int x0_), some (.int s1.1), some (.int s1.2)]) (fun s1 => h) (fun self2 ih3 s1 hf => ?_) F ((0 : Int32), x0_) hf
  refine r_iload_n dX8_bits_4 rfl ?_
  refine r_if_eq 20 dX8_bits_5 (by decide) hf (fun c5 hf => ?_) (fun c5 hf => ?_)
  · refine r_iload_n dX8_bits_20 rfl ?_
    exact e_iP dX8_bits_21 rfl hf
  · refine r_iincA (v := 1) dX8_bits_8 rfl (by decide) (by decide) ?_
    refine r_iload_n dX8_bits_11 rfl ?_
    refine r_iload_n dX8_bits_12 rfl ?_
    refine r_iconst (v := 1) dX8_bits_13 (by decide) ?_
    refine r_isub dX8_bits_14 ?_
    refine r_iand dX8_bits_15 ?_
    refine r_istore_n dX8_bits_16 (by decide) hf fun x4 hf => ?_
    refine r_goto 4 dX8_bits_17 (by decide) ?_
    exact ih3 _ hf
def f_X8_sizeOf (x0_ : Int32) (h : Hp) : Option Int32 :=
  (Option.bind (α := Int32) (
    (if 0 ≤ x0_ then (
      some x0_)
    else (
      some (-x0_)))) fun t1 =>
  some t1)
set_option maxRecDepth 100000 in
set_option maxHeartbeats 4000000 in
theorem S_X8_sizeOf (x0_ : Int32) (h : Hp) (r : Int32) (hf : f_X8_sizeOf x0_ h = some r) : MetP Y_X8_sizeOf 1 [.int x0_] h (some (.int r), h) := by
  unfold f_X8_sizeOf at hf
  refine met_of yo_X8_sizeOf (Nat.le_of_ble_eq_true rfl) ?_
  show Run Y_X8_sizeOf _ 0 [some (.int x0_)] [] h
  refine r_iload_n dX8_sizeOf_0 rfl ?_
  refine r_reg (P := fun t1 => Run Y_X8_sizeOf (VM 1 (some (.int r), h)) 10 [some (.int x0_)] [.int t1] h) hf (fun t1 hf => ?_) (fun t1 key2 hf => ?_)
  · exact e_iP dX8_sizeOf_10 rfl hf
  · refine r_if_ge 9 dX8_sizeOf_1 (by decide) hf (fun c3 hf => ?_) (fun c3 hf => ?_)
    · refine r_iload_n dX8_sizeOf_9 rfl ?_
      cases hf; exact key2
    · refine r_iload_n dX8_sizeOf_4 rfl ?_
      refine r_ineg dX8_sizeOf_5 ?_
      refine r_goto 10 dX8_sizeOf_6 (by decide) ?_
      cases hf; exact key2
def f_X8_greater (x0_ : Int32) (x1_ : Int32) (h : Hp) : Option Int32 :=
  (Option.bind (α := Int32) (
    (if x0_ ≤ x1_ then (
      some x1_)
    else (
      some x0_))) fun t1 =>
  some t1)
set_option maxRecDepth 100000 in
set_option maxHeartbeats 4000000 in
theorem S_X8_greater (x0_ : Int32) (x1_ : Int32) (h : Hp) (r : Int32) (hf : f_X8_greater x0_ x1_ h = some r) : MetP Y_X8_greater 1 [.int x0_, .int x1_] h (some (.int r), h) := by
  unfold f_X8_greater at hf
  refine met_of yo_X8_greater (Nat.le_of_ble_eq_true rfl) ?_
  show Run Y_X8_greater _ 0 [some (.int x0_), some (.int x1_)] [] h
  refine r_iload_n dX8_greater_0 rfl ?_
  refine r_iload_n dX8_greater_1 rfl ?_
  refine r_reg (P := fun t1 => Run Y_X8_greater (VM 1 (some (.int r), h)) 10 [some (.int x0_), some (.int x1_)] [.int t1] h) hf (fun t1 hf => ?_) (fun t1 key2 hf => ?_)
  · exact e_iP dX8_greater_10 rfl hf
  · refine r_icmp_le 9 dX8_greater_2 (by decide) hf (fun c3 hf => ?_) (fun c3 hf => ?_)
    · refine r_iload_n dX8_greater_9 rfl ?_
      cases hf; exact key2
    · refine r_iload_n dX8_greater_5 rfl ?_
      refine r_goto 10 dX8_greater_6 (by decide) ?_
      cases hf; exact key2
def f_X8_meets (x1_ : Int32) (h : Hp) : Option (Int32 × Hp) :=
  nm (sI h 66 0 x1_) fun h1 =>
  (ldI h1 67 x1_).bind fun v2 =>
  (stI h1 67 x1_ (v2 + (1 : Int32))).bind fun h3 =>
  some ((-3 : Int32), h3)
set_option maxRecDepth 100000 in
set_option maxHeartbeats 4000000 in
theorem S_X8_meets (x1_ : Int32) (h : Hp) (r : (Int32 × Hp)) (hf : f_X8_meets x1_ h = some r) : MetP Y_X8_meets 1 [.ref 66, .int x1_] h (some (.int r.1), r.2) := by
  unfold f_X8_meets at hf
  refine met_of yo_X8_meets (Nat.le_of_ble_eq_true rfl) ?_
  show Run Y_X8_meets _ 0 [some (.ref 66), some (.int x1_)] [] h
  refine r_aload_n dX8_meets_0 rfl ?_
  refine r_iload_n dX8_meets_1 rfl ?_
  refine r_putI dX8_meets_2 sh_66 ft_X8_129 rfl hf fun h1 hf => ?_
  refine r_aload_n dX8_meets_5 rfl ?_
  refine r_getS (b := 67) dX8_meets_6 sh_66 ft_X8_7 rfl rfl ?_
  refine r_iload_n dX8_meets_9 rfl ?_
  refine r_dup2 dX8_meets_10 rfl rfl ?_
  refine r_iald dX8_meets_11 sh_67 hf fun v2 hf => ?_
  refine r_iconst (v := 1) dX8_meets_12 (by decide) ?_
  refine r_iadd dX8_meets_13 ?_
  refine r_iast dX8_meets_14 sh_67 hf fun h3 hf => ?_
  refine r_bipush (v := -3) dX8_meets_15 (by decide) ?_
  exact e_iH dX8_meets_17 rfl hf
def f_X8_finding  (h : Hp) : Option Int32 :=
  some (gI h 66 0)
set_option maxRecDepth 100000 in
set_option maxHeartbeats 4000000 in
theorem S_X8_finding  (h : Hp) (r : Int32) (hf : f_X8_finding h = some r) : MetP Y_X8_finding 1 [.ref 66] h (some (.int r), h) := by
  unfold f_X8_finding at hf
  refine met_of yo_X8_finding (Nat.le_of_ble_eq_true rfl) ?_
  show Run Y_X8_finding _ 0 [some (.ref 66)] [] h
  refine r_aload_n dX8_finding_0 rfl ?_
  refine r_getI dX8_finding_1 sh_66 ft_X8_129 rfl ?_
  exact e_iP dX8_finding_4 rfl hf
def f_X8_findings (x1_ : Int32) (h : Hp) : Option Int32 :=
  (f_X8_in x1_ (1 : Int32) (5 : Int32) h).bind fun v1 =>
  (Option.bind (α := Int32) (
    (if v1 = 0 then (
      some (-1 : Int32))
    else (
      (ldI h 67 x1_).bind fun v4 =>
      some v4))) fun t2 =>
  some t2)
set_option maxRecDepth 100000 in
set_option maxHeartbeats 4000000 in
theorem S_X8_findings (x1_ : Int32) (h : Hp) (r : Int32) (hf : f_X8_findings x1_ h = some r) : MetP Y_X8_findings 2 [.ref 66, .int x1_] h (some (.int r), h) := by
  unfold f_X8_findings at hf
  refine met_of yo_X8_findings (Nat.le_of_ble_eq_true rfl) ?_
  show Run Y_X8_findings _ 0 [some (.ref 66), some (.int x1_)] [] h
  refine r_iload_n dX8_findings_0 rfl ?_
  refine r_iconst (v := 1) dX8_findings_1 (by decide) ?_
  refine r_iconst (v := 5) dX8_findings_2 (by decide) ?_
  obtain ⟨v1, hv, hf⟩ := bnd hf
  refine r_callS (lv := 1) dX8_findings_3 yo_X8_in ys_X8_in ml_X8_133 ya_X8_in (Fits.vm (by decide)) rfl rfl (Nat.le_of_ble_eq_true rfl) (S_X8_in x1_ (1 : Int32) (5 : Int32) h  _ hv) ?_
  refine r_reg (P := fun t2 => Run Y_X8_findings (VM 2 (some (.int r), h)) 19 [some (.ref 66), some (.int x1_)] [.int t2] h) hf (fun t2 hf => ?_) (fun t2 key3 hf => ?_)
  · exact e_iP dX8_findings_19 rfl hf
  · refine r_if_eq 18 dX8_findings_6 (by decide) hf (fun c5 hf => ?_) (fun c5 hf => ?_)
    · refine r_iconst (v := -1) dX8_findings_18 (by decide) ?_
      cases hf; exact key3
    · refine r_aload_n dX8_findings_9 rfl ?_
      refine r_getS (b := 67) dX8_findings_10 sh_66 ft_X8_7 rfl rfl ?_
      refine r_iload_n dX8_findings_13 rfl ?_
      refine r_iald dX8_findings_14 sh_67 hf fun v4 hf => ?_
      refine r_goto 19 dX8_findings_15 (by decide) ?_
      cases hf; exact key3
def f_X8_tells (x1_ : Int32) (x2_ : Int32) (h : Hp) : Option (Int32 × Hp) :=
  nm (sI h 66 2 x1_) fun h1 =>
  some (x2_, h1)
set_option maxRecDepth 100000 in
set_option maxHeartbeats 4000000 in
theorem S_X8_tells (x1_ : Int32) (x2_ : Int32) (h : Hp) (r : (Int32 × Hp)) (hf : f_X8_tells x1_ x2_ h = some r) : MetP Y_X8_tells 1 [.ref 66, .int x1_, .int x2_] h (some (.int r.1), r.2) := by
  unfold f_X8_tells at hf
  refine met_of yo_X8_tells (Nat.le_of_ble_eq_true rfl) ?_
  show Run Y_X8_tells _ 0 [some (.ref 66), some (.int x1_), some (.int x2_)] [] h
  refine r_aload_n dX8_tells_0 rfl ?_
  refine r_iload_n dX8_tells_1 rfl ?_
  refine r_putI dX8_tells_2 sh_66 ft_X8_137 rfl hf fun h1 hf => ?_
  refine r_iload_n dX8_tells_5 rfl ?_
  exact e_iH dX8_tells_6 rfl hf
def f_X8_asked  (h : Hp) : Option Int32 :=
  some (gI h 66 2)
set_option maxRecDepth 100000 in
set_option maxHeartbeats 4000000 in
theorem S_X8_asked  (h : Hp) (r : Int32) (hf : f_X8_asked h = some r) : MetP Y_X8_asked 1 [.ref 66] h (some (.int r), h) := by
  unfold f_X8_asked at hf
  refine met_of yo_X8_asked (Nat.le_of_ble_eq_true rfl) ?_
  show Run Y_X8_asked _ 0 [some (.ref 66)] [] h
  refine r_aload_n dX8_asked_0 rfl ?_
  refine r_getI dX8_asked_1 sh_66 ft_X8_137 rfl ?_
  exact e_iP dX8_asked_4 rfl hf
def f_X8_isRow (x0_ : Int32) (h : Hp) : Option Int32 :=
  (f_X8_in x0_ (0 : Int32) (5 : Int32) h).bind fun v1 =>
  ckZ v1
set_option maxRecDepth 100000 in
set_option maxHeartbeats 4000000 in
theorem S_X8_isRow (x0_ : Int32) (h : Hp) (r : Int32) (hf : f_X8_isRow x0_ h = some r) : MetP Y_X8_isRow 2 [.int x0_] h (some (.int r), h) := by
  unfold f_X8_isRow at hf
  refine met_of yo_X8_isRow (Nat.le_of_ble_eq_true rfl) ?_
  show Run Y_X8_isRow _ 0 [some (.int x0_)] [] h
  refine r_iload_n dX8_isRow_0 rfl ?_
  refine r_iconst (v := 0) dX8_isRow_1 (by decide) ?_
  refine r_iconst (v := 5) dX8_isRow_2 (by decide) ?_
  obtain ⟨v1, hv, hf⟩ := bnd hf
  refine r_callS (lv := 1) dX8_isRow_3 yo_X8_in ys_X8_in ml_X8_133 ya_X8_in (Fits.vm (by decide)) rfl rfl (Nat.le_of_ble_eq_true rfl) (S_X8_in x0_ (0 : Int32) (5 : Int32) h  _ hv) ?_
  exact e_zP dX8_isRow_6 rfl hf
def f_X8_rowAt (x1_ : Int32) (x2_ : Int32) (h : Hp) : Option Int32 :=
  (ldI h 69 (((40 : Int32) * x1_) + x2_)).bind fun v1 =>
  some v1
set_option maxRecDepth 100000 in
set_option maxHeartbeats 4000000 in
theorem S_X8_rowAt (x1_ : Int32) (x2_ : Int32) (h : Hp) (r : Int32) (hf : f_X8_rowAt x1_ x2_ h = some r) : MetP Y_X8_rowAt 1 [.ref 66, .int x1_, .int x2_] h (some (.int r), h) := by
  unfold f_X8_rowAt at hf
  refine met_of yo_X8_rowAt (Nat.le_of_ble_eq_true rfl) ?_
  show Run Y_X8_rowAt _ 0 [some (.ref 66), some (.int x1_), some (.int x2_)] [] h
  refine r_aload_n dX8_rowAt_0 rfl ?_
  refine r_getS (b := 69) dX8_rowAt_1 sh_66 ft_X8_16 rfl rfl ?_
  refine r_bipush (v := 40) dX8_rowAt_4 (by decide) ?_
  refine r_iload_n dX8_rowAt_6 rfl ?_
  refine r_imul dX8_rowAt_7 ?_
  refine r_iload_n dX8_rowAt_8 rfl ?_
  refine r_iadd dX8_rowAt_9 ?_
  refine r_iald dX8_rowAt_10 sh_69 hf fun v1 hf => ?_
  exact e_iP dX8_rowAt_11 rfl hf
def f_X8_row (F : Nat) (x1_ : Int32) (x2_ : Int32) (h : Hp) : Option (Int32 × Hp) :=
  (f_X8_isRow x1_ h).bind fun v1 =>
  (if v1 = 0 then (
    some ((-1 : Int32), h))
  else (
    (if x2_ ≤ (40 : Int32) then (
      (if 0 ≤ x2_ then (
        (stI h 68 x1_ x2_).bind fun h2 =>
        fix (σ := Int32 × Hp) (ρ := (Int32 × Hp)) (fun self4 s3 =>
          (if (40 : Int32) ≤ s3.1 then (
            some (x2_, s3.2))
          else (
            (stI s3.2 69 (((40 : Int32) * x1_) + s3.1) (0 : Int32)).bind fun h6 =>
            self4 ((s3.1 + 1), h6)))) F ((0 : Int32), h2))
      else (
        (f_X8_meets (5 : Int32) h).bind fun v8 =>
        some (v8.1, v8.2))))
    else (
      some ((-1 : Int32), h)))))
set_option maxRecDepth 100000 in
set_option maxHeartbeats 4000000 in
theorem S_X8_row (F : Nat) (x1_ : Int32) (x2_ : Int32) (h : Hp) (r : (Int32 × Hp)) (hf : f_X8_row F x1_ x2_ h = some r) : MetP Y_X8_row 3 [.ref 66, .int x1_, .int x2_] h (some (.int r.1), r.2) := by
  unfold f_X8_row at hf
  refine met_of yo_X8_row (Nat.le_of_ble_eq_true rfl) ?_
  show Run Y_X8_row _ 0 [some (.ref 66), some (.int x1_), some (.int x2_), none] [] h
  refine r_iload_n dX8_row_0 rfl ?_
  obtain ⟨v1, hv, hf⟩ := bnd hf
  refine r_callS (lv := 2) dX8_row_1 yo_X8_isRow ys_X8_isRow ml_X8_140 ya_X8_isRow (Fits.vm (by decide)) rfl rfl (Nat.le_of_ble_eq_true rfl) (S_X8_isRow x1_ h  _ hv) ?_
  refine r_if_eq 13 dX8_row_4 (by decide) hf (fun c11 hf => ?_) (fun c11 hf => ?_)
  · refine r_iconst (v := -1) dX8_row_13 (by decide) ?_
    exact e_iH dX8_row_14 rfl hf
  · refine r_iload_n dX8_row_7 rfl ?_
    refine r_bipush (v := 40) dX8_row_8 (by decide) ?_
    refine r_icmp_le 15 dX8_row_10 (by decide) hf (fun c10 hf => ?_) (fun c10 hf => ?_)
    · refine r_iload_n dX8_row_15 rfl ?_
      refine r_if_ge 25 dX8_row_16 (by decide) hf (fun c9 hf => ?_) (fun c9 hf => ?_)
      · refine r_aload_n dX8_row_25 rfl ?_
        refine r_getS (b := 68) dX8_row_26 sh_66 ft_X8_13 rfl rfl ?_
        refine r_iload_n dX8_row_29 rfl ?_
        refine r_iload_n dX8_row_30 rfl ?_
        refine r_iast dX8_row_31 sh_68 hf fun h2 hf => ?_
        refine r_iconst (v := 0) dX8_row_32 (by decide) ?_
        refine r_istore_nA dX8_row_33 (by decide) ?_
        refine r_fix (σ := Int32 × Hp) (fun s3 => [some (.ref 66), some (.int x1_), some (.int x2_), some (.int s3.1)]) (fun s3 => s3.2) (fun self4 ih5 s3 hf => ?_) F ((0 : Int32), h2) hf
        refine r_iload_n dX8_row_34 rfl ?_
        refine r_bipush (v := 40) dX8_row_35 (by decide) ?_
        refine r_icmp_ge 58 dX8_row_37 (by decide) hf (fun c7 hf => ?_) (fun c7 hf => ?_)
        · refine r_iload_n dX8_row_58 rfl ?_
          exact e_iH dX8_row_59 rfl hf
        · refine r_aload_n dX8_row_40 rfl ?_
          refine r_getS (b := 69) dX8_row_41 sh_66 ft_X8_16 rfl rfl ?_
          refine r_bipush (v := 40) dX8_row_44 (by decide) ?_
          refine r_iload_n dX8_row_46 rfl ?_
          refine r_imul dX8_row_47 ?_
          refine r_iload_n dX8_row_48 rfl ?_
          refine r_iadd dX8_row_49 ?_
          refine r_iconst (v := 0) dX8_row_50 (by decide) ?_
          refine r_iast dX8_row_51 sh_69 hf fun h6 hf => ?_
          refine r_iincA (v := 1) dX8_row_52 rfl (by decide) (by decide) ?_
          refine r_goto 34 dX8_row_55 (by decide) ?_
          exact ih5 _ hf
      · refine r_aload_n dX8_row_19 rfl ?_
        refine r_iconst (v := 5) dX8_row_20 (by decide) ?_
        obtain ⟨v8, hv, hf⟩ := bnd hf
        refine r_callV (lv := 1) dX8_row_21 yo_X8_meets yi_X8_meets ml_X8_144 ya_X8_meets sh_66 ⟨_, rfl, rfl⟩ (Fits.vm (by decide)) rfl rfl (Nat.le_of_ble_eq_true rfl) (S_X8_meets (5 : Int32) h  _ hv) ?_
        exact e_iH dX8_row_24 rfl hf
    · refine r_iconst (v := -1) dX8_row_13 (by decide) ?_
      exact e_iH dX8_row_14 rfl hf
def f_X8_lay (x1_ : Int32) (x2_ : Int32) (x3_ : Int32) (h : Hp) : Option (Int32 × Hp) :=
  (f_X8_isRow x1_ h).bind fun v1 =>
  (if v1 = 0 then (
    some ((-1 : Int32), h))
  else (
    (ldI h 68 x1_).bind fun v2 =>
    (if 0 ≤ v2 then (
      (ldI h 68 x1_).bind fun v3 =>
      (f_X8_in x2_ (0 : Int32) (v3 - (1 : Int32)) h).bind fun v4 =>
      (if v4 = 0 then (
        (f_X8_meets (2 : Int32) h).bind fun v8 =>
        some (v8.1, v8.2))
      else (
        (f_X8_rowAt x1_ x2_ h).bind fun v5 =>
        (stI h 69 (((40 : Int32) * x1_) + x2_) x3_).bind fun h6 =>
        (f_X8_tells v5 (1 : Int32) h6).bind fun v7 =>
        some (v7.1, v7.2))))
    else (
      (f_X8_meets (1 : Int32) h).bind fun v10 =>
      some (v10.1, v10.2)))))
set_option maxRecDepth 100000 in
set_option maxHeartbeats 4000000 in
theorem S_X8_lay (x1_ : Int32) (x2_ : Int32) (x3_ : Int32) (h : Hp) (r : (Int32 × Hp)) (hf : f_X8_lay x1_ x2_ x3_ h = some r) : MetP Y_X8_lay 3 [.ref 66, .int x1_, .int x2_, .int x3_] h (some (.int r.1), r.2) := by
  unfold f_X8_lay at hf
  refine met_of yo_X8_lay (Nat.le_of_ble_eq_true rfl) ?_
  show Run Y_X8_lay _ 0 [some (.ref 66), some (.int x1_), some (.int x2_), some (.int x3_), none] [] h
  refine r_iload_n dX8_lay_0 rfl ?_
  obtain ⟨v1, hv, hf⟩ := bnd hf
  refine r_callS (lv := 2) dX8_lay_1 yo_X8_isRow ys_X8_isRow ml_X8_140 ya_X8_isRow (Fits.vm (by decide)) rfl rfl (Nat.le_of_ble_eq_true rfl) (S_X8_isRow x1_ h  _ hv) ?_
  refine r_if_ne 9 dX8_lay_4 (by decide) hf (fun c12 hf => ?_) (fun c12 hf => ?_)
  · refine r_aload_n dX8_lay_9 rfl ?_
    refine r_getS (b := 68) dX8_lay_10 sh_66 ft_X8_13 rfl rfl ?_
    refine r_iload_n dX8_lay_13 rfl ?_
    refine r_iald dX8_lay_14 sh_68 hf fun v2 hf => ?_
    refine r_if_ge 24 dX8_lay_15 (by decide) hf (fun c11 hf => ?_) (fun c11 hf => ?_)
    · refine r_iload_n dX8_lay_24 rfl ?_
      refine r_iconst (v := 0) dX8_lay_25 (by decide) ?_
      refine r_aload_n dX8_lay_26 rfl ?_
      refine r_getS (b := 68) dX8_lay_27 sh_66 ft_X8_13 rfl rfl ?_
      refine r_iload_n dX8_lay_30 rfl ?_
      refine r_iald dX8_lay_31 sh_68 hf fun v3 hf => ?_
      refine r_iconst (v := 1) dX8_lay_32 (by decide) ?_
      refine r_isub dX8_lay_33 ?_
      obtain ⟨v4, hv, hf⟩ := bnd hf
      refine r_callS (lv := 1) dX8_lay_34 yo_X8_in ys_X8_in ml_X8_133 ya_X8_in (Fits.vm (by decide)) rfl rfl (Nat.le_of_ble_eq_true rfl) (S_X8_in x2_ (0 : Int32) (v3 - (1 : Int32)) h  _ hv) ?_
      refine r_if_ne 46 dX8_lay_37 (by decide) hf (fun c9 hf => ?_) (fun c9 hf => ?_)
      · refine r_aload_n dX8_lay_46 rfl ?_
        refine r_iload_n dX8_lay_47 rfl ?_
        refine r_iload_n dX8_lay_48 rfl ?_
        obtain ⟨v5, hv, hf⟩ := bnd hf
        refine r_callV (lv := 1) dX8_lay_49 yo_X8_rowAt yi_X8_rowAt ml_X8_148 ya_X8_rowAt sh_66 ⟨_, rfl, rfl⟩ (Fits.vm (by decide)) rfl rfl (Nat.le_of_ble_eq_true rfl) (S_X8_rowAt x1_ x2_ h  _ hv) ?_
        refine r_istoreA dX8_lay_52 (by decide) ?_
        refine r_aload_n dX8_lay_54 rfl ?_
        refine r_getS (b := 69) dX8_lay_55 sh_66 ft_X8_16 rfl rfl ?_
        refine r_bipush (v := 40) dX8_lay_58 (by decide) ?_
        refine r_iload_n dX8_lay_60 rfl ?_
        refine r_imul dX8_lay_61 ?_
        refine r_iload_n dX8_lay_62 rfl ?_
        refine r_iadd dX8_lay_63 ?_
        refine r_iload_n dX8_lay_64 rfl ?_
        refine r_iast dX8_lay_65 sh_69 hf fun h6 hf => ?_
        refine r_aload_n dX8_lay_66 rfl ?_
        refine r_iload dX8_lay_67 rfl ?_
        refine r_iconst (v := 1) dX8_lay_69 (by decide) ?_
        obtain ⟨v7, hv, hf⟩ := bnd hf
        refine r_callV (lv := 1) dX8_lay_70 yo_X8_tells yi_X8_tells ml_X8_152 ya_X8_tells sh_66 ⟨_, rfl, rfl⟩ (Fits.vm (by decide)) rfl rfl (Nat.le_of_ble_eq_true rfl) (S_X8_tells v5 (1 : Int32) h6  _ hv) ?_
        exact e_iH dX8_lay_73 rfl hf
      · refine r_aload_n dX8_lay_40 rfl ?_
        refine r_iconst (v := 2) dX8_lay_41 (by decide) ?_
        obtain ⟨v8, hv, hf⟩ := bnd hf
        refine r_callV (lv := 1) dX8_lay_42 yo_X8_meets yi_X8_meets ml_X8_144 ya_X8_meets sh_66 ⟨_, rfl, rfl⟩ (Fits.vm (by decide)) rfl rfl (Nat.le_of_ble_eq_true rfl) (S_X8_meets (2 : Int32) h  _ hv) ?_
        exact e_iH dX8_lay_45 rfl hf
    · refine r_aload_n dX8_lay_18 rfl ?_
      refine r_iconst (v := 1) dX8_lay_19 (by decide) ?_
      obtain ⟨v10, hv, hf⟩ := bnd hf
      refine r_callV (lv := 1) dX8_lay_20 yo_X8_meets yi_X8_meets ml_X8_144 ya_X8_meets sh_66 ⟨_, rfl, rfl⟩ (Fits.vm (by decide)) rfl rfl (Nat.le_of_ble_eq_true rfl) (S_X8_meets (1 : Int32) h  _ hv) ?_
      exact e_iH dX8_lay_23 rfl hf
  · refine r_iconst (v := -1) dX8_lay_7 (by decide) ?_
    exact e_iH dX8_lay_8 rfl hf
def f_X8_at (x1_ : Int32) (x2_ : Int32) (h : Hp) : Option (Int32 × Hp) :=
  (f_X8_isRow x1_ h).bind fun v1 =>
  (if v1 = 0 then (
    some ((-1 : Int32), h))
  else (
    (ldI h 68 x1_).bind fun v2 =>
    (if 0 ≤ v2 then (
      (ldI h 68 x1_).bind fun v3 =>
      (f_X8_in x2_ (0 : Int32) (v3 - (1 : Int32)) h).bind fun v4 =>
      (Option.bind (α := Int32 × Hp) (
        (if v4 = 0 then (
          (f_X8_meets (2 : Int32) h).bind fun v7 =>
          some (v7.1, v7.2))
        else (
          (f_X8_rowAt x1_ x2_ h).bind fun v8 =>
          (f_X8_tells v8 (1 : Int32) h).bind fun v9 =>
          some (v9.1, v9.2)))) fun t5 =>
      some (t5.1, t5.2)))
    else (
      (f_X8_meets (1 : Int32) h).bind fun v11 =>
      some (v11.1, v11.2)))))
set_option maxRecDepth 100000 in
set_option maxHeartbeats 4000000 in
theorem S_X8_at (x1_ : Int32) (x2_ : Int32) (h : Hp) (r : (Int32 × Hp)) (hf : f_X8_at x1_ x2_ h = some r) : MetP Y_X8_at 3 [.ref 66, .int x1_, .int x2_] h (some (.int r.1), r.2) := by
  unfold f_X8_at at hf
  refine met_of yo_X8_at (Nat.le_of_ble_eq_true rfl) ?_
  show Run Y_X8_at _ 0 [some (.ref 66), some (.int x1_), some (.int x2_)] [] h
  refine r_iload_n dX8_at_0 rfl ?_
  obtain ⟨v1, hv, hf⟩ := bnd hf
  refine r_callS (lv := 2) dX8_at_1 yo_X8_isRow ys_X8_isRow ml_X8_140 ya_X8_isRow (Fits.vm (by decide)) rfl rfl (Nat.le_of_ble_eq_true rfl) (S_X8_isRow x1_ h  _ hv) ?_
  refine r_if_ne 9 dX8_at_4 (by decide) hf (fun c13 hf => ?_) (fun c13 hf => ?_)
  · refine r_aload_n dX8_at_9 rfl ?_
    refine r_getS (b := 68) dX8_at_10 sh_66 ft_X8_13 rfl rfl ?_
    refine r_iload_n dX8_at_13 rfl ?_
    refine r_iald dX8_at_14 sh_68 hf fun v2 hf => ?_
    refine r_if_ge 24 dX8_at_15 (by decide) hf (fun c12 hf => ?_) (fun c12 hf => ?_)
    · refine r_iload_n dX8_at_24 rfl ?_
      refine r_iconst (v := 0) dX8_at_25 (by decide) ?_
      refine r_aload_n dX8_at_26 rfl ?_
      refine r_getS (b := 68) dX8_at_27 sh_66 ft_X8_13 rfl rfl ?_
      refine r_iload_n dX8_at_30 rfl ?_
      refine r_iald dX8_at_31 sh_68 hf fun v3 hf => ?_
      refine r_iconst (v := 1) dX8_at_32 (by decide) ?_
      refine r_isub dX8_at_33 ?_
      obtain ⟨v4, hv, hf⟩ := bnd hf
      refine r_callS (lv := 1) dX8_at_34 yo_X8_in ys_X8_in ml_X8_133 ya_X8_in (Fits.vm (by decide)) rfl rfl (Nat.le_of_ble_eq_true rfl) (S_X8_in x2_ (0 : Int32) (v3 - (1 : Int32)) h  _ hv) ?_
      refine r_reg (P := fun t5 => Run Y_X8_at (VM 3 (some (.int r.1), r.2)) 59 [some (.ref 66), some (.int x1_), some (.int x2_)] [.int t5.1] t5.2) hf (fun t5 hf => ?_) (fun t5 key6 hf => ?_)
      · exact e_iH dX8_at_59 rfl hf
      · refine r_if_eq 54 dX8_at_37 (by decide) hf (fun c10 hf => ?_) (fun c10 hf => ?_)
        · refine r_aload_n dX8_at_54 rfl ?_
          refine r_iconst (v := 2) dX8_at_55 (by decide) ?_
          obtain ⟨v7, hv, hf⟩ := bnd hf
          refine r_callV (lv := 1) dX8_at_56 yo_X8_meets yi_X8_meets ml_X8_144 ya_X8_meets sh_66 ⟨_, rfl, rfl⟩ (Fits.vm (by decide)) rfl rfl (Nat.le_of_ble_eq_true rfl) (S_X8_meets (2 : Int32) h  _ hv) ?_
          cases hf; exact key6
        · refine r_aload_n dX8_at_40 rfl ?_
          refine r_aload_n dX8_at_41 rfl ?_
          refine r_iload_n dX8_at_42 rfl ?_
          refine r_iload_n dX8_at_43 rfl ?_
          obtain ⟨v8, hv, hf⟩ := bnd hf
          refine r_callV (lv := 1) dX8_at_44 yo_X8_rowAt yi_X8_rowAt ml_X8_148 ya_X8_rowAt sh_66 ⟨_, rfl, rfl⟩ (Fits.vm (by decide)) rfl rfl (Nat.le_of_ble_eq_true rfl) (S_X8_rowAt x1_ x2_ h  _ hv) ?_
          refine r_iconst (v := 1) dX8_at_47 (by decide) ?_
          obtain ⟨v9, hv, hf⟩ := bnd hf
          refine r_callV (lv := 1) dX8_at_48 yo_X8_tells yi_X8_tells ml_X8_152 ya_X8_tells sh_66 ⟨_, rfl, rfl⟩ (Fits.vm (by decide)) rfl rfl (Nat.le_of_ble_eq_true rfl) (S_X8_tells v8 (1 : Int32) h  _ hv) ?_
          refine r_goto 59 dX8_at_51 (by decide) ?_
          cases hf; exact key6
    · refine r_aload_n dX8_at_18 rfl ?_
      refine r_iconst (v := 1) dX8_at_19 (by decide) ?_
      obtain ⟨v11, hv, hf⟩ := bnd hf
      refine r_callV (lv := 1) dX8_at_20 yo_X8_meets yi_X8_meets ml_X8_144 ya_X8_meets sh_66 ⟨_, rfl, rfl⟩ (Fits.vm (by decide)) rfl rfl (Nat.le_of_ble_eq_true rfl) (S_X8_meets (1 : Int32) h  _ hv) ?_
      exact e_iH dX8_at_23 rfl hf
  · refine r_iconst (v := -1) dX8_at_7 (by decide) ?_
    exact e_iH dX8_at_8 rfl hf
def f_X8_tear (x1_ : Int32) (h : Hp) : Option (Int32 × Hp) :=
  (f_X8_isRow x1_ h).bind fun v1 =>
  (if v1 = 0 then (
    some ((-1 : Int32), h))
  else (
    (ldI h 68 x1_).bind fun v2 =>
    (if 0 ≤ v2 then (
      (stI h 68 x1_ (-1 : Int32)).bind fun h3 =>
      some ((1 : Int32), h3))
    else (
      (f_X8_meets (1 : Int32) h).bind fun v4 =>
      some (v4.1, v4.2)))))
set_option maxRecDepth 100000 in
set_option maxHeartbeats 4000000 in
theorem S_X8_tear (x1_ : Int32) (h : Hp) (r : (Int32 × Hp)) (hf : f_X8_tear x1_ h = some r) : MetP Y_X8_tear 3 [.ref 66, .int x1_] h (some (.int r.1), r.2) := by
  unfold f_X8_tear at hf
  refine met_of yo_X8_tear (Nat.le_of_ble_eq_true rfl) ?_
  show Run Y_X8_tear _ 0 [some (.ref 66), some (.int x1_)] [] h
  refine r_iload_n dX8_tear_0 rfl ?_
  obtain ⟨v1, hv, hf⟩ := bnd hf
  refine r_callS (lv := 2) dX8_tear_1 yo_X8_isRow ys_X8_isRow ml_X8_140 ya_X8_isRow (Fits.vm (by decide)) rfl rfl (Nat.le_of_ble_eq_true rfl) (S_X8_isRow x1_ h  _ hv) ?_
  refine r_if_ne 9 dX8_tear_4 (by decide) hf (fun c6 hf => ?_) (fun c6 hf => ?_)
  · refine r_aload_n dX8_tear_9 rfl ?_
    refine r_getS (b := 68) dX8_tear_10 sh_66 ft_X8_13 rfl rfl ?_
    refine r_iload_n dX8_tear_13 rfl ?_
    refine r_iald dX8_tear_14 sh_68 hf fun v2 hf => ?_
    refine r_if_ge 24 dX8_tear_15 (by decide) hf (fun c5 hf => ?_) (fun c5 hf => ?_)
    · refine r_aload_n dX8_tear_24 rfl ?_
      refine r_getS (b := 68) dX8_tear_25 sh_66 ft_X8_13 rfl rfl ?_
      refine r_iload_n dX8_tear_28 rfl ?_
      refine r_iconst (v := -1) dX8_tear_29 (by decide) ?_
      refine r_iast dX8_tear_30 sh_68 hf fun h3 hf => ?_
      refine r_iconst (v := 1) dX8_tear_31 (by decide) ?_
      exact e_iH dX8_tear_32 rfl hf
    · refine r_aload_n dX8_tear_18 rfl ?_
      refine r_iconst (v := 1) dX8_tear_19 (by decide) ?_
      obtain ⟨v4, hv, hf⟩ := bnd hf
      refine r_callV (lv := 1) dX8_tear_20 yo_X8_meets yi_X8_meets ml_X8_144 ya_X8_meets sh_66 ⟨_, rfl, rfl⟩ (Fits.vm (by decide)) rfl rfl (Nat.le_of_ble_eq_true rfl) (S_X8_meets (1 : Int32) h  _ hv) ?_
      exact e_iH dX8_tear_23 rfl hf
  · refine r_iconst (v := -1) dX8_tear_7 (by decide) ?_
    exact e_iH dX8_tear_8 rfl hf
def f_X8_copy (F : Nat) (x1_ : Int32) (x2_ : Int32) (x3_ : Int32) (x4_ : Int32) (x5_ : Int32) (h : Hp) : Option (Int32 × Hp) :=
  (f_X8_isRow x1_ h).bind fun v1 =>
  (if v1 = 0 then (
    some ((-1 : Int32), h))
  else (
    (f_X8_isRow x3_ h).bind fun v2 =>
    (if v2 = 0 then (
      some ((-1 : Int32), h))
    else (
      (if 0 ≤ x5_ then (
        (ldI h 68 x1_).bind fun v3 =>
        jn (α := (Unit) → Option (Int32 × Hp)) (fun t4 =>
          (f_X8_meets (1 : Int32) h).bind fun v7 =>
          some (v7.1, v7.2)) fun j5 =>
        (if v3 < 0 then (
          j5 ())
        else (
          (ldI h 68 x3_).bind fun v8 =>
          (if 0 ≤ v8 then (
            jn (α := (Unit) → Option (Int32 × Hp)) (fun t9 =>
              (f_X8_meets (2 : Int32) h).bind fun v12 =>
              some (v12.1, v12.2)) fun j10 =>
            (if x2_ < 0 then (
              j10 ())
            else (
              (if x4_ < 0 then (
                j10 ())
              else (
                (ldI h 68 x1_).bind fun v13 =>
                (if 0 < (lg_cmp ((x2_).toInt64 + (x5_).toInt64) (v13).toInt64) then (
                  j10 ())
                else (
                  (ldI h 68 x3_).bind fun v14 =>
                  (if (lg_cmp ((x4_).toInt64 + (x5_).toInt64) (v14).toInt64) ≤ 0 then (
                    fix (σ := Int32 × Hp) (ρ := (Int32 × Hp)) (fun self16 s15 =>
                      (if x5_ ≤ s15.1 then (
                        fix (σ := Int32 × Hp) (ρ := (Int32 × Hp)) (fun self19 s18 =>
                          (if x5_ ≤ s18.1 then (
                            some ((1 : Int32), s18.2))
                          else (
                            (ldI s18.2 70 s18.1).bind fun v21 =>
                            (stI s18.2 69 ((((40 : Int32) * x3_) + x4_) + s18.1) v21).bind fun h22 =>
                            self19 ((s18.1 + 1), h22)))) F ((0 : Int32), s15.2))
                      else (
                        (f_X8_rowAt x1_ (x2_ + s15.1) s15.2).bind fun v24 =>
                        (stI s15.2 70 s15.1 v24).bind fun h25 =>
                        self16 ((s15.1 + 1), h25)))) F ((0 : Int32), h))
                  else (
                    j10 ())))))))))
          else (
            j5 ())))))
      else (
        (f_X8_meets (5 : Int32) h).bind fun v33 =>
        some (v33.1, v33.2)))))))
set_option maxRecDepth 100000 in
set_option maxHeartbeats 4000000 in
theorem S_X8_copy (F : Nat) (x1_ : Int32) (x2_ : Int32) (x3_ : Int32) (x4_ : Int32) (x5_ : Int32) (h : Hp) (r : (Int32 × Hp)) (hf : f_X8_copy F x1_ x2_ x3_ x4_ x5_ h = some r) : MetP Y_X8_copy 3 [.ref 66, .int x1_, .int x2_, .int x3_, .int x4_, .int x5_] h (some (.int r.1), r.2) := by
  unfold f_X8_copy at hf
  refine met_of yo_X8_copy (Nat.le_of_ble_eq_true rfl) ?_
  show Run Y_X8_copy _ 0 [some (.ref 66), some (.int x1_), some (.int x2_), some (.int x3_), some (.int x4_), some (.int x5_), none] [] h
  refine r_iload_n dX8_copy_0 rfl ?_
  obtain ⟨v1, hv, hf⟩ := bnd hf
  refine r_callS (lv := 2) dX8_copy_1 yo_X8_isRow ys_X8_isRow ml_X8_140 ya_X8_isRow (Fits.vm (by decide)) rfl rfl (Nat.le_of_ble_eq_true rfl) (S_X8_isRow x1_ h  _ hv) ?_
  refine r_if_eq 14 dX8_copy_4 (by decide) hf (fun c36 hf => ?_) (fun c36 hf => ?_)
  · refine r_iconst (v := -1) dX8_copy_14 (by decide) ?_
    exact e_iH dX8_copy_15 rfl hf
  · refine r_iload_n dX8_copy_7 rfl ?_
    obtain ⟨v2, hv, hf⟩ := bnd hf
    refine r_callS (lv := 2) dX8_copy_8 yo_X8_isRow ys_X8_isRow ml_X8_140 ya_X8_isRow (Fits.vm (by decide)) rfl rfl (Nat.le_of_ble_eq_true rfl) (S_X8_isRow x3_ h  _ hv) ?_
    refine r_if_ne 16 dX8_copy_11 (by decide) hf (fun c35 hf => ?_) (fun c35 hf => ?_)
    · refine r_iload dX8_copy_16 rfl ?_
      refine r_if_ge 27 dX8_copy_18 (by decide) hf (fun c34 hf => ?_) (fun c34 hf => ?_)
      · refine r_aload_n dX8_copy_27 rfl ?_
        refine r_getS (b := 68) dX8_copy_28 sh_66 ft_X8_13 rfl rfl ?_
        refine r_iload_n dX8_copy_31 rfl ?_
        refine r_iald dX8_copy_32 sh_68 hf fun v3 hf => ?_
        refine r_jn (P := fun t4 => Run Y_X8_copy (VM 3 (some (.int r.1), r.2)) 45 [some (.ref 66), some (.int x1_), some (.int x2_), some (.int x3_), some (.int x4_), some (.int x5_), none] [] h) hf (fun t4 hf => ?_) (fun j5 ih6 hf => ?_)
        · refine r_aload_n dX8_copy_45 rfl ?_
          refine r_iconst (v := 1) dX8_copy_46 (by decide) ?_
          obtain ⟨v7, hv, hf⟩ := bnd hf
          refine r_callV (lv := 1) dX8_copy_47 yo_X8_meets yi_X8_meets ml_X8_144 ya_X8_meets sh_66 ⟨_, rfl, rfl⟩ (Fits.vm (by decide)) rfl rfl (Nat.le_of_ble_eq_true rfl) (S_X8_meets (1 : Int32) h  _ hv) ?_
          exact e_iH dX8_copy_50 rfl hf
        refine r_if_lt 45 dX8_copy_33 (by decide) hf (fun c32 hf => ?_) (fun c32 hf => ?_)
        · exact ih6 _ hf
        · refine r_aload_n dX8_copy_36 rfl ?_
          refine r_getS (b := 68) dX8_copy_37 sh_66 ft_X8_13 rfl rfl ?_
          refine r_iload_n dX8_copy_40 rfl ?_
          refine r_iald dX8_copy_41 sh_68 hf fun v8 hf => ?_
          refine r_if_ge 51 dX8_copy_42 (by decide) hf (fun c31 hf => ?_) (fun c31 hf => ?_)
          · refine r_iload_n dX8_copy_51 rfl ?_
            refine r_jn (P := fun t9 => Run Y_X8_copy (VM 3 (some (.int r.1), r.2)) 95 [some (.ref 66), some (.int x1_), some (.int x2_), some (.int x3_), some (.int x4_), some (.int x5_), none] [] h) hf (fun t9 hf => ?_) (fun j10 ih11 hf => ?_)
            · refine r_aload_n dX8_copy_95 rfl ?_
              refine r_iconst (v := 2) dX8_copy_96 (by decide) ?_
              obtain ⟨v12, hv, hf⟩ := bnd hf
              refine r_callV (lv := 1) dX8_copy_97 yo_X8_meets yi_X8_meets ml_X8_144 ya_X8_meets sh_66 ⟨_, rfl, rfl⟩ (Fits.vm (by decide)) rfl rfl (Nat.le_of_ble_eq_true rfl) (S_X8_meets (2 : Int32) h  _ hv) ?_
              exact e_iH dX8_copy_100 rfl hf
            refine r_if_lt 95 dX8_copy_52 (by decide) hf (fun c30 hf => ?_) (fun c30 hf => ?_)
            · exact ih11 _ hf
            · refine r_iload dX8_copy_55 rfl ?_
              refine r_if_lt 95 dX8_copy_57 (by decide) hf (fun c29 hf => ?_) (fun c29 hf => ?_)
              · exact ih11 _ hf
              · refine r_iload_n dX8_copy_60 rfl ?_
                refine r_i2l dX8_copy_61 ?_
                refine r_iload dX8_copy_62 rfl ?_
                refine r_i2l dX8_copy_64 ?_
                refine r_ladd dX8_copy_65 ?_
                refine r_aload_n dX8_copy_66 rfl ?_
                refine r_getS (b := 68) dX8_copy_67 sh_66 ft_X8_13 rfl rfl ?_
                refine r_iload_n dX8_copy_70 rfl ?_
                refine r_iald dX8_copy_71 sh_68 hf fun v13 hf => ?_
                refine r_i2l dX8_copy_72 ?_
                refine r_lcmp dX8_copy_73 ?_
                refine r_if_gt 95 dX8_copy_74 (by decide) hf (fun c28 hf => ?_) (fun c28 hf => ?_)
                · exact ih11 _ hf
                · refine r_iload dX8_copy_77 rfl ?_
                  refine r_i2l dX8_copy_79 ?_
                  refine r_iload dX8_copy_80 rfl ?_
                  refine r_i2l dX8_copy_82 ?_
                  refine r_ladd dX8_copy_83 ?_
                  refine r_aload_n dX8_copy_84 rfl ?_
                  refine r_getS (b := 68) dX8_copy_85 sh_66 ft_X8_13 rfl rfl ?_
                  refine r_iload_n dX8_copy_88 rfl ?_
                  refine r_iald dX8_copy_89 sh_68 hf fun v14 hf => ?_
                  refine r_i2l dX8_copy_90 ?_
                  refine r_lcmp dX8_copy_91 ?_
                  refine r_if_le 101 dX8_copy_92 (by decide) hf (fun c27 hf => ?_) (fun c27 hf => ?_)
                  · refine r_iconst (v := 0) dX8_copy_101 (by decide) ?_
                    refine r_istoreA dX8_copy_102 (by decide) ?_
                    refine r_fix (σ := Int32 × Hp) (fun s15 => [some (.ref 66), some (.int x1_), some (.int x2_), some (.int x3_), some (.int x4_), some (.int x5_), some (.int s15.1)]) (fun s15 => s15.2) (fun self16 ih17 s15 hf => ?_) F ((0 : Int32), h) hf
                    refine r_iload dX8_copy_104 rfl ?_
                    refine r_iload dX8_copy_106 rfl ?_
                    refine r_icmp_ge 133 dX8_copy_108 (by decide) hf (fun c26 hf => ?_) (fun c26 hf => ?_)
                    · refine r_iconst (v := 0) dX8_copy_133 (by decide) ?_
                      refine r_istoreA dX8_copy_134 (by decide) ?_
                      refine r_fix (σ := Int32 × Hp) (fun s18 => [some (.ref 66), some (.int x1_), some (.int x2_), some (.int x3_), some (.int x4_), some (.int x5_), some (.int s18.1)]) (fun s18 => s18.2) (fun self19 ih20 s18 hf => ?_) F ((0 : Int32), s15.2) hf
                      refine r_iload dX8_copy_136 rfl ?_
                      refine r_iload dX8_copy_138 rfl ?_
                      refine r_icmp_ge 171 dX8_copy_140 (by decide) hf (fun c23 hf => ?_) (fun c23 hf => ?_)
                      · refine r_iconst (v := 1) dX8_copy_171 (by decide) ?_
                        exact e_iH dX8_copy_172 rfl hf
                      · refine r_aload_n dX8_copy_143 rfl ?_
                        refine r_getS (b := 69) dX8_copy_144 sh_66 ft_X8_16 rfl rfl ?_
                        refine r_bipush (v := 40) dX8_copy_147 (by decide) ?_
                        refine r_iload_n dX8_copy_149 rfl ?_
                        refine r_imul dX8_copy_150 ?_
                        refine r_iload dX8_copy_151 rfl ?_
                        refine r_iadd dX8_copy_153 ?_
                        refine r_iload dX8_copy_154 rfl ?_
                        refine r_iadd dX8_copy_156 ?_
                        refine r_aload_n dX8_copy_157 rfl ?_
                        refine r_getS (b := 70) dX8_copy_158 sh_66 ft_X8_19 rfl rfl ?_
                        refine r_iload dX8_copy_161 rfl ?_
                        refine r_iald dX8_copy_163 sh_70 hf fun v21 hf => ?_
                        refine r_iast dX8_copy_164 sh_69 hf fun h22 hf => ?_
                        refine r_iincA (v := 1) dX8_copy_165 rfl (by decide) (by decide) ?_
                        refine r_goto 136 dX8_copy_168 (by decide) ?_
                        exact ih20 _ hf
                    · refine r_aload_n dX8_copy_111 rfl ?_
                      refine r_getS (b := 70) dX8_copy_112 sh_66 ft_X8_19 rfl rfl ?_
                      refine r_iload dX8_copy_115 rfl ?_
                      refine r_aload_n dX8_copy_117 rfl ?_
                      refine r_iload_n dX8_copy_118 rfl ?_
                      refine r_iload_n dX8_copy_119 rfl ?_
                      refine r_iload dX8_copy_120 rfl ?_
                      refine r_iadd dX8_copy_122 ?_
                      obtain ⟨v24, hv, hf⟩ := bnd hf
                      refine r_callV (lv := 1) dX8_copy_123 yo_X8_rowAt yi_X8_rowAt ml_X8_148 ya_X8_rowAt sh_66 ⟨_, rfl, rfl⟩ (Fits.vm (by decide)) rfl rfl (Nat.le_of_ble_eq_true rfl) (S_X8_rowAt x1_ (x2_ + s15.1) s15.2  _ hv) ?_
                      refine r_iast dX8_copy_126 sh_70 hf fun h25 hf => ?_
                      refine r_iincA (v := 1) dX8_copy_127 rfl (by decide) (by decide) ?_
                      refine r_goto 104 dX8_copy_130 (by decide) ?_
                      exact ih17 _ hf
                  · exact ih11 _ hf
          · exact ih6 _ hf
      · refine r_aload_n dX8_copy_21 rfl ?_
        refine r_iconst (v := 5) dX8_copy_22 (by decide) ?_
        obtain ⟨v33, hv, hf⟩ := bnd hf
        refine r_callV (lv := 1) dX8_copy_23 yo_X8_meets yi_X8_meets ml_X8_144 ya_X8_meets sh_66 ⟨_, rfl, rfl⟩ (Fits.vm (by decide)) rfl rfl (Nat.le_of_ble_eq_true rfl) (S_X8_meets (5 : Int32) h  _ hv) ?_
        exact e_iH dX8_copy_26 rfl hf
    · refine r_iconst (v := -1) dX8_copy_14 (by decide) ?_
      exact e_iH dX8_copy_15 rfl hf
def f_X8_mean (F : Nat) (x1_ : Int32) (h : Hp) : Option (Int32 × Hp) :=
  (f_X8_isRow x1_ h).bind fun v1 =>
  (if v1 = 0 then (
    some ((-1 : Int32), h))
  else (
    (ldI h 68 x1_).bind fun v2 =>
    (if 0 ≤ v2 then (
      (ldI h 68 x1_).bind fun v3 =>
      (if v3 = 0 then (
        (f_X8_meets (4 : Int32) h).bind fun v13 =>
        some (v13.1, v13.2))
      else (
        fix (σ := Int64 × Int32) (ρ := (Int32 × Hp)) (fun self5 s4 =>
          (ldI h 68 x1_).bind fun v7 =>
          (if v7 ≤ s4.2 then (
            (ldI h 68 x1_).bind fun v8 =>
            (dvL s4.1 (v8).toInt64).bind fun v9 =>
            (f_X8_tells (v9).toInt32 (1 : Int32) h).bind fun v10 =>
            some (v10.1, v10.2))
          else (
            (f_X8_rowAt x1_ s4.2 h).bind fun v11 =>
            self5 ((s4.1 + (v11).toInt64), (s4.2 + 1))))) F ((0 : Int64), (0 : Int32)))))
    else (
      (f_X8_meets (1 : Int32) h).bind fun v15 =>
      some (v15.1, v15.2)))))
set_option maxRecDepth 100000 in
set_option maxHeartbeats 4000000 in
theorem S_X8_mean (F : Nat) (x1_ : Int32) (h : Hp) (r : (Int32 × Hp)) (hf : f_X8_mean F x1_ h = some r) : MetP Y_X8_mean 3 [.ref 66, .int x1_] h (some (.int r.1), r.2) := by
  unfold f_X8_mean at hf
  refine met_of yo_X8_mean (Nat.le_of_ble_eq_true rfl) ?_
  show Run Y_X8_mean _ 0 [some (.ref 66), some (.int x1_), none, none, none] [] h
  refine r_iload_n dX8_mean_0 rfl ?_
  obtain ⟨v1, hv, hf⟩ := bnd hf
  refine r_callS (lv := 2) dX8_mean_1 yo_X8_isRow ys_X8_isRow ml_X8_140 ya_X8_isRow (Fits.vm (by decide)) rfl rfl (Nat.le_of_ble_eq_true rfl) (S_X8_isRow x1_ h  _ hv) ?_
  refine r_if_ne 9 dX8_mean_4 (by decide) hf (fun c17 hf => ?_) (fun c17 hf => ?_)
  · refine r_aload_n dX8_mean_9 rfl ?_
    refine r_getS (b := 68) dX8_mean_10 sh_66 ft_X8_13 rfl rfl ?_
    refine r_iload_n dX8_mean_13 rfl ?_
    refine r_iald dX8_mean_14 sh_68 hf fun v2 hf => ?_
    refine r_if_ge 24 dX8_mean_15 (by decide) hf (fun c16 hf => ?_) (fun c16 hf => ?_)
    · refine r_aload_n dX8_mean_24 rfl ?_
      refine r_getS (b := 68) dX8_mean_25 sh_66 ft_X8_13 rfl rfl ?_
      refine r_iload_n dX8_mean_28 rfl ?_
      refine r_iald dX8_mean_29 sh_68 hf fun v3 hf => ?_
      refine r_if_ne 39 dX8_mean_30 (by decide) hf (fun c14 hf => ?_) (fun c14 hf => ?_)
      · refine r_lconst (v := 0) dX8_mean_39 (by decide) ?_
        refine r_lstore_nA dX8_mean_40 (by decide) ?_
        refine r_iconst (v := 0) dX8_mean_41 (by decide) ?_
        refine r_istoreA dX8_mean_42 (by decide) ?_
        refine r_fix (σ := Int64 × Int32) (fun s4 => [some (.ref 66), some (.int x1_), some (.long s4.1), none, some (.int s4.2)]) (fun s4 => h) (fun self5 ih6 s4 hf => ?_) F ((0 : Int64), (0 : Int32)) hf
        refine r_iload dX8_mean_44 rfl ?_
        refine r_aload_n dX8_mean_46 rfl ?_
        refine r_getS (b := 68) dX8_mean_47 sh_66 ft_X8_13 rfl rfl ?_
        refine r_iload_n dX8_mean_50 rfl ?_
        refine r_iald dX8_mean_51 sh_68 hf fun v7 hf => ?_
        refine r_icmp_ge 72 dX8_mean_52 (by decide) hf (fun c12 hf => ?_) (fun c12 hf => ?_)
        · refine r_aload_n dX8_mean_72 rfl ?_
          refine r_lload_n dX8_mean_73 rfl ?_
          refine r_aload_n dX8_mean_74 rfl ?_
          refine r_getS (b := 68) dX8_mean_75 sh_66 ft_X8_13 rfl rfl ?_
          refine r_iload_n dX8_mean_78 rfl ?_
          refine r_iald dX8_mean_79 sh_68 hf fun v8 hf => ?_
          refine r_i2l dX8_mean_80 ?_
          refine r_ldiv dX8_mean_81 hf fun v9 hf => ?_
          refine r_l2i dX8_mean_82 ?_
          refine r_iconst (v := 1) dX8_mean_83 (by decide) ?_
          obtain ⟨v10, hv, hf⟩ := bnd hf
          refine r_callV (lv := 1) dX8_mean_84 yo_X8_tells yi_X8_tells ml_X8_152 ya_X8_tells sh_66 ⟨_, rfl, rfl⟩ (Fits.vm (by decide)) rfl rfl (Nat.le_of_ble_eq_true rfl) (S_X8_tells (v9).toInt32 (1 : Int32) h  _ hv) ?_
          exact e_iH dX8_mean_87 rfl hf
        · refine r_lload_n dX8_mean_55 rfl ?_
          refine r_aload_n dX8_mean_56 rfl ?_
          refine r_iload_n dX8_mean_57 rfl ?_
          refine r_iload dX8_mean_58 rfl ?_
          obtain ⟨v11, hv, hf⟩ := bnd hf
          refine r_callV (lv := 1) dX8_mean_60 yo_X8_rowAt yi_X8_rowAt ml_X8_148 ya_X8_rowAt sh_66 ⟨_, rfl, rfl⟩ (Fits.vm (by decide)) rfl rfl (Nat.le_of_ble_eq_true rfl) (S_X8_rowAt x1_ s4.2 h  _ hv) ?_
          refine r_i2l dX8_mean_63 ?_
          refine r_ladd dX8_mean_64 ?_
          refine r_lstore_nA dX8_mean_65 (by decide) ?_
          refine r_iincA (v := 1) dX8_mean_66 rfl (by decide) (by decide) ?_
          refine r_goto 44 dX8_mean_69 (by decide) ?_
          exact ih6 _ hf
      · refine r_aload_n dX8_mean_33 rfl ?_
        refine r_iconst (v := 4) dX8_mean_34 (by decide) ?_
        obtain ⟨v13, hv, hf⟩ := bnd hf
        refine r_callV (lv := 1) dX8_mean_35 yo_X8_meets yi_X8_meets ml_X8_144 ya_X8_meets sh_66 ⟨_, rfl, rfl⟩ (Fits.vm (by decide)) rfl rfl (Nat.le_of_ble_eq_true rfl) (S_X8_meets (4 : Int32) h  _ hv) ?_
        exact e_iH dX8_mean_38 rfl hf
    · refine r_aload_n dX8_mean_18 rfl ?_
      refine r_iconst (v := 1) dX8_mean_19 (by decide) ?_
      obtain ⟨v15, hv, hf⟩ := bnd hf
      refine r_callV (lv := 1) dX8_mean_20 yo_X8_meets yi_X8_meets ml_X8_144 ya_X8_meets sh_66 ⟨_, rfl, rfl⟩ (Fits.vm (by decide)) rfl rfl (Nat.le_of_ble_eq_true rfl) (S_X8_meets (1 : Int32) h  _ hv) ?_
      exact e_iH dX8_mean_23 rfl hf
  · refine r_iconst (v := -1) dX8_mean_7 (by decide) ?_
    exact e_iH dX8_mean_8 rfl hf
def f_X8_isText (x0_ : Int32) (h : Hp) : Option Int32 :=
  (f_X8_in x0_ (0 : Int32) (3 : Int32) h).bind fun v1 =>
  ckZ v1
set_option maxRecDepth 100000 in
set_option maxHeartbeats 4000000 in
theorem S_X8_isText (x0_ : Int32) (h : Hp) (r : Int32) (hf : f_X8_isText x0_ h = some r) : MetP Y_X8_isText 2 [.int x0_] h (some (.int r), h) := by
  unfold f_X8_isText at hf
  refine met_of yo_X8_isText (Nat.le_of_ble_eq_true rfl) ?_
  show Run Y_X8_isText _ 0 [some (.int x0_)] [] h
  refine r_iload_n dX8_isText_0 rfl ?_
  refine r_iconst (v := 0) dX8_isText_1 (by decide) ?_
  refine r_iconst (v := 3) dX8_isText_2 (by decide) ?_
  obtain ⟨v1, hv, hf⟩ := bnd hf
  refine r_callS (lv := 1) dX8_isText_3 yo_X8_in ys_X8_in ml_X8_133 ya_X8_in (Fits.vm (by decide)) rfl rfl (Nat.le_of_ble_eq_true rfl) (S_X8_in x0_ (0 : Int32) (3 : Int32) h  _ hv) ?_
  exact e_zP dX8_isText_6 rfl hf
def f_X8_text (F : Nat) (x1_ : Int32) (x2_ : Int32) (h : Hp) : Option (Int32 × Hp) :=
  (f_X8_isText x1_ h).bind fun v1 =>
  (if v1 = 0 then (
    some ((-1 : Int32), h))
  else (
    (if x2_ ≤ (40 : Int32) then (
      (if 0 ≤ x2_ then (
        (stI h 71 x1_ x2_).bind fun h2 =>
        fix (σ := Int32 × Hp) (ρ := (Int32 × Hp)) (fun self4 s3 =>
          (if (40 : Int32) ≤ s3.1 then (
            some (x2_, s3.2))
          else (
            (stI s3.2 72 (((40 : Int32) * x1_) + s3.1) (vp_nar .byte (32 : Int32))).bind fun h6 =>
            self4 ((s3.1 + 1), h6)))) F ((0 : Int32), h2))
      else (
        (f_X8_meets (5 : Int32) h).bind fun v8 =>
        some (v8.1, v8.2))))
    else (
      some ((-1 : Int32), h)))))
set_option maxRecDepth 100000 in
set_option maxHeartbeats 4000000 in
theorem S_X8_text (F : Nat) (x1_ : Int32) (x2_ : Int32) (h : Hp) (r : (Int32 × Hp)) (hf : f_X8_text F x1_ x2_ h = some r) : MetP Y_X8_text 3 [.ref 66, .int x1_, .int x2_] h (some (.int r.1), r.2) := by
  unfold f_X8_text at hf
  refine met_of yo_X8_text (Nat.le_of_ble_eq_true rfl) ?_
  show Run Y_X8_text _ 0 [some (.ref 66), some (.int x1_), some (.int x2_), none] [] h
  refine r_iload_n dX8_text_0 rfl ?_
  obtain ⟨v1, hv, hf⟩ := bnd hf
  refine r_callS (lv := 2) dX8_text_1 yo_X8_isText ys_X8_isText ml_X8_155 ya_X8_isText (Fits.vm (by decide)) rfl rfl (Nat.le_of_ble_eq_true rfl) (S_X8_isText x1_ h  _ hv) ?_
  refine r_if_eq 13 dX8_text_4 (by decide) hf (fun c11 hf => ?_) (fun c11 hf => ?_)
  · refine r_iconst (v := -1) dX8_text_13 (by decide) ?_
    exact e_iH dX8_text_14 rfl hf
  · refine r_iload_n dX8_text_7 rfl ?_
    refine r_bipush (v := 40) dX8_text_8 (by decide) ?_
    refine r_icmp_le 15 dX8_text_10 (by decide) hf (fun c10 hf => ?_) (fun c10 hf => ?_)
    · refine r_iload_n dX8_text_15 rfl ?_
      refine r_if_ge 25 dX8_text_16 (by decide) hf (fun c9 hf => ?_) (fun c9 hf => ?_)
      · refine r_aload_n dX8_text_25 rfl ?_
        refine r_getS (b := 71) dX8_text_26 sh_66 ft_X8_22 rfl rfl ?_
        refine r_iload_n dX8_text_29 rfl ?_
        refine r_iload_n dX8_text_30 rfl ?_
        refine r_iast dX8_text_31 sh_71 hf fun h2 hf => ?_
        refine r_iconst (v := 0) dX8_text_32 (by decide) ?_
        refine r_istore_nA dX8_text_33 (by decide) ?_
        refine r_fix (σ := Int32 × Hp) (fun s3 => [some (.ref 66), some (.int x1_), some (.int x2_), some (.int s3.1)]) (fun s3 => s3.2) (fun self4 ih5 s3 hf => ?_) F ((0 : Int32), h2) hf
        refine r_iload_n dX8_text_34 rfl ?_
        refine r_bipush (v := 40) dX8_text_35 (by decide) ?_
        refine r_icmp_ge 59 dX8_text_37 (by decide) hf (fun c7 hf => ?_) (fun c7 hf => ?_)
        · refine r_iload_n dX8_text_59 rfl ?_
          exact e_iH dX8_text_60 rfl hf
        · refine r_aload_n dX8_text_40 rfl ?_
          refine r_getS (b := 72) dX8_text_41 sh_66 ft_X8_25 rfl rfl ?_
          refine r_bipush (v := 40) dX8_text_44 (by decide) ?_
          refine r_iload_n dX8_text_46 rfl ?_
          refine r_imul dX8_text_47 ?_
          refine r_iload_n dX8_text_48 rfl ?_
          refine r_iadd dX8_text_49 ?_
          refine r_bipush (v := 32) dX8_text_50 (by decide) ?_
          refine r_bast dX8_text_52 sh_72 hf fun h6 hf => ?_
          refine r_iincA (v := 1) dX8_text_53 rfl (by decide) (by decide) ?_
          refine r_goto 34 dX8_text_56 (by decide) ?_
          exact ih5 _ hf
      · refine r_aload_n dX8_text_19 rfl ?_
        refine r_iconst (v := 5) dX8_text_20 (by decide) ?_
        obtain ⟨v8, hv, hf⟩ := bnd hf
        refine r_callV (lv := 1) dX8_text_21 yo_X8_meets yi_X8_meets ml_X8_144 ya_X8_meets sh_66 ⟨_, rfl, rfl⟩ (Fits.vm (by decide)) rfl rfl (Nat.le_of_ble_eq_true rfl) (S_X8_meets (5 : Int32) h  _ hv) ?_
        exact e_iH dX8_text_24 rfl hf
    · refine r_iconst (v := -1) dX8_text_13 (by decide) ?_
      exact e_iH dX8_text_14 rfl hf
def f_X8_put (x1_ : Int32) (x2_ : Int32) (x3_ : Int32) (h : Hp) : Option (Int32 × Hp) :=
  (f_X8_isText x1_ h).bind fun v1 =>
  (if v1 = 0 then (
    some ((-1 : Int32), h))
  else (
    (ldI h 71 x1_).bind fun v2 =>
    (if 0 ≤ v2 then (
      (ldI h 71 x1_).bind fun v3 =>
      (f_X8_in x2_ (0 : Int32) (v3 - (1 : Int32)) h).bind fun v4 =>
      (if v4 = 0 then (
        (f_X8_meets (2 : Int32) h).bind fun v7 =>
        some (v7.1, v7.2))
      else (
        (ldI h 72 (((40 : Int32) * x1_) + x2_)).bind fun v5 =>
        (stI h 72 (((40 : Int32) * x1_) + x2_) (vp_nar .byte (x3_).toInt8.toInt32)).bind fun h6 =>
        some (((1000 : Int32) + v5), h6))))
    else (
      (f_X8_meets (1 : Int32) h).bind fun v9 =>
      some (v9.1, v9.2)))))
set_option maxRecDepth 100000 in
set_option maxHeartbeats 4000000 in
theorem S_X8_put (x1_ : Int32) (x2_ : Int32) (x3_ : Int32) (h : Hp) (r : (Int32 × Hp)) (hf : f_X8_put x1_ x2_ x3_ h = some r) : MetP Y_X8_put 3 [.ref 66, .int x1_, .int x2_, .int x3_] h (some (.int r.1), r.2) := by
  unfold f_X8_put at hf
  refine met_of yo_X8_put (Nat.le_of_ble_eq_true rfl) ?_
  show Run Y_X8_put _ 0 [some (.ref 66), some (.int x1_), some (.int x2_), some (.int x3_), none] [] h
  refine r_iload_n dX8_put_0 rfl ?_
  obtain ⟨v1, hv, hf⟩ := bnd hf
  refine r_callS (lv := 2) dX8_put_1 yo_X8_isText ys_X8_isText ml_X8_155 ya_X8_isText (Fits.vm (by decide)) rfl rfl (Nat.le_of_ble_eq_true rfl) (S_X8_isText x1_ h  _ hv) ?_
  refine r_if_ne 9 dX8_put_4 (by decide) hf (fun c11 hf => ?_) (fun c11 hf => ?_)
  · refine r_aload_n dX8_put_9 rfl ?_
    refine r_getS (b := 71) dX8_put_10 sh_66 ft_X8_22 rfl rfl ?_
    refine r_iload_n dX8_put_13 rfl ?_
    refine r_iald dX8_put_14 sh_71 hf fun v2 hf => ?_
    refine r_if_ge 24 dX8_put_15 (by decide) hf (fun c10 hf => ?_) (fun c10 hf => ?_)
    · refine r_iload_n dX8_put_24 rfl ?_
      refine r_iconst (v := 0) dX8_put_25 (by decide) ?_
      refine r_aload_n dX8_put_26 rfl ?_
      refine r_getS (b := 71) dX8_put_27 sh_66 ft_X8_22 rfl rfl ?_
      refine r_iload_n dX8_put_30 rfl ?_
      refine r_iald dX8_put_31 sh_71 hf fun v3 hf => ?_
      refine r_iconst (v := 1) dX8_put_32 (by decide) ?_
      refine r_isub dX8_put_33 ?_
      obtain ⟨v4, hv, hf⟩ := bnd hf
      refine r_callS (lv := 1) dX8_put_34 yo_X8_in ys_X8_in ml_X8_133 ya_X8_in (Fits.vm (by decide)) rfl rfl (Nat.le_of_ble_eq_true rfl) (S_X8_in x2_ (0 : Int32) (v3 - (1 : Int32)) h  _ hv) ?_
      refine r_if_ne 46 dX8_put_37 (by decide) hf (fun c8 hf => ?_) (fun c8 hf => ?_)
      · refine r_aload_n dX8_put_46 rfl ?_
        refine r_getS (b := 72) dX8_put_47 sh_66 ft_X8_25 rfl rfl ?_
        refine r_bipush (v := 40) dX8_put_50 (by decide) ?_
        refine r_iload_n dX8_put_52 rfl ?_
        refine r_imul dX8_put_53 ?_
        refine r_iload_n dX8_put_54 rfl ?_
        refine r_iadd dX8_put_55 ?_
        refine r_bald dX8_put_56 sh_72 hf fun v5 hf => ?_
        refine r_istoreA dX8_put_57 (by decide) ?_
        refine r_aload_n dX8_put_59 rfl ?_
        refine r_getS (b := 72) dX8_put_60 sh_66 ft_X8_25 rfl rfl ?_
        refine r_bipush (v := 40) dX8_put_63 (by decide) ?_
        refine r_iload_n dX8_put_65 rfl ?_
        refine r_imul dX8_put_66 ?_
        refine r_iload_n dX8_put_67 rfl ?_
        refine r_iadd dX8_put_68 ?_
        refine r_iload_n dX8_put_69 rfl ?_
        refine r_i2b dX8_put_70 ?_
        refine r_bast dX8_put_71 sh_72 hf fun h6 hf => ?_
        refine r_sipush (v := 1000) dX8_put_72 (by decide) ?_
        refine r_iload dX8_put_75 rfl ?_
        refine r_iadd dX8_put_77 ?_
        exact e_iH dX8_put_78 rfl hf
      · refine r_aload_n dX8_put_40 rfl ?_
        refine r_iconst (v := 2) dX8_put_41 (by decide) ?_
        obtain ⟨v7, hv, hf⟩ := bnd hf
        refine r_callV (lv := 1) dX8_put_42 yo_X8_meets yi_X8_meets ml_X8_144 ya_X8_meets sh_66 ⟨_, rfl, rfl⟩ (Fits.vm (by decide)) rfl rfl (Nat.le_of_ble_eq_true rfl) (S_X8_meets (2 : Int32) h  _ hv) ?_
        exact e_iH dX8_put_45 rfl hf
    · refine r_aload_n dX8_put_18 rfl ?_
      refine r_iconst (v := 1) dX8_put_19 (by decide) ?_
      obtain ⟨v9, hv, hf⟩ := bnd hf
      refine r_callV (lv := 1) dX8_put_20 yo_X8_meets yi_X8_meets ml_X8_144 ya_X8_meets sh_66 ⟨_, rfl, rfl⟩ (Fits.vm (by decide)) rfl rfl (Nat.le_of_ble_eq_true rfl) (S_X8_meets (1 : Int32) h  _ hv) ?_
      exact e_iH dX8_put_23 rfl hf
  · refine r_iconst (v := -1) dX8_put_7 (by decide) ?_
    exact e_iH dX8_put_8 rfl hf
