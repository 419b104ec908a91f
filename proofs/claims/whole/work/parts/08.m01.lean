def f_X0_restart (a0 : Nat) (x1_ : Int32) (h : Hp) : Option Hp :=
  nm (sI h a0 1 x1_) fun h1 =>
  nm (sI h1 a0 2 (0 : Int32)) fun h2 =>
  nm (sI h2 a0 3 (0 : Int32)) fun h3 =>
  nm (sI h3 a0 4 (0 : Int32)) fun h4 =>
  some h4
set_option maxRecDepth 100000 in
set_option maxHeartbeats 4000000 in
theorem S_X0_restart (a0 : Nat) (x1_ : Int32) (k0 : sh a0 = (0, 0, 7)) (h : Hp) (r : Hp) (hf : f_X0_restart a0 x1_ h = some r) : MetP Y_X0_restart 1 [.ref a0, .int x1_] h (none, r) := by
  unfold f_X0_restart at hf
  refine met_of yo_X0_restart (Nat.le_of_ble_eq_true rfl) ?_
  show Run Y_X0_restart _ 0 [some (.ref a0), some (.int x1_)] [] h
  refine r_aload_n dX0_restart_0 rfl ?_
  refine r_iload_n dX0_restart_1 rfl ?_
  refine r_putI dX0_restart_2 k0 ft_X0_18 rfl hf fun h1 hf => ?_
  refine r_aload_n dX0_restart_5 rfl ?_
  refine r_iconst (v := 0) dX0_restart_6 (by decide) ?_
  refine r_putI dX0_restart_7 k0 ft_X0_22 rfl hf fun h2 hf => ?_
  refine r_aload_n dX0_restart_10 rfl ?_
  refine r_iconst (v := 0) dX0_restart_11 (by decide) ?_
  refine r_putI dX0_restart_12 k0 ft_X0_25 rfl hf fun h3 hf => ?_
  refine r_aload_n dX0_restart_15 rfl ?_
  refine r_iconst (v := 0) dX0_restart_16 (by decide) ?_
  refine r_putI dX0_restart_17 k0 ft_X0_28 rfl hf fun h4 hf => ?_
  exact e_vH dX0_restart_20 rfl hf
def f_X0_become (a0 : Nat) (a1 : Nat) (h : Hp) : Option Hp :=
  nm (sI h a0 1 (gI h a1 1)) fun h1 =>
  nm (sI h1 a0 2 (gI h1 a1 2)) fun h2 =>
  nm (sI h2 a0 3 (gI h2 a1 3)) fun h3 =>
  nm (sI h3 a0 4 (gI h3 a1 4)) fun h4 =>
  (cpI h4 (rf a1 5) (0 : Int32) (rf a0 5) (0 : Int32) (60 : Int32)).bind fun h5 =>
  (cpI h5 (rf a1 6) (0 : Int32) (rf a0 6) (0 : Int32) (60 : Int32)).bind fun h6 =>
  some h6
set_option maxRecDepth 100000 in
set_option maxHeartbeats 4000000 in
theorem S_X0_become (a0 : Nat) (a1 : Nat) (k0 : sh a0 = (0, 0, 7)) (k1 : sh a1 = (0, 0, 7)) (h : Hp) (r : Hp) (hf : f_X0_become a0 a1 h = some r) : MetP Y_X0_become 1 [.ref a0, .ref a1] h (none, r) := by
  unfold f_X0_become at hf
  refine met_of yo_X0_become (Nat.le_of_ble_eq_true rfl) ?_
  show Run Y_X0_become _ 0 [some (.ref a0), some (.ref a1)] [] h
  refine r_aload_n dX0_become_0 rfl ?_
  refine r_aload_n dX0_become_1 rfl ?_
  refine r_getI dX0_become_2 k1 ft_X0_18 rfl ?_
  refine r_putI dX0_become_5 k0 ft_X0_18 rfl hf fun h1 hf => ?_
  refine r_aload_n dX0_become_8 rfl ?_
  refine r_aload_n dX0_become_9 rfl ?_
  refine r_getI dX0_become_10 k1 ft_X0_22 rfl ?_
  refine r_putI dX0_become_13 k0 ft_X0_22 rfl hf fun h2 hf => ?_
  refine r_aload_n dX0_become_16 rfl ?_
  refine r_aload_n dX0_become_17 rfl ?_
  refine r_getI dX0_become_18 k1 ft_X0_25 rfl ?_
  refine r_putI dX0_become_21 k0 ft_X0_25 rfl hf fun h3 hf => ?_
  refine r_aload_n dX0_become_24 rfl ?_
  refine r_aload_n dX0_become_25 rfl ?_
  refine r_getI dX0_become_26 k1 ft_X0_28 rfl ?_
  refine r_putI dX0_become_29 k0 ft_X0_28 rfl hf fun h4 hf => ?_
  refine r_aload_n dX0_become_32 rfl ?_
  refine r_getS (b := rf a1 5) dX0_become_33 k1 ft_X0_9 rfl rfl ?_
  refine r_iconst (v := 0) dX0_become_36 (by decide) ?_
  refine r_aload_n dX0_become_37 rfl ?_
  refine r_getS (b := rf a0 5) dX0_become_38 k0 ft_X0_9 rfl rfl ?_
  refine r_iconst (v := 0) dX0_become_41 (by decide) ?_
  refine r_bipush (v := 60) dX0_become_42 (by decide) ?_
  refine r_copy dX0_become_44 (sf_0_5 k1) (sf_0_5 k0) ml_X0_31 w_acn w_acs w_aci (Fits.vm (by decide)) (Nat.le_of_ble_eq_true rfl) hf fun h5 hf => ?_
  refine r_aload_n dX0_become_47 rfl ?_
  refine r_getS (b := rf a1 6) dX0_become_48 k1 ft_X0_15 rfl rfl ?_
  refine r_iconst (v := 0) dX0_become_51 (by decide) ?_
  refine r_aload_n dX0_become_52 rfl ?_
  refine r_getS (b := rf a0 6) dX0_become_53 k0 ft_X0_15 rfl rfl ?_
  refine r_iconst (v := 0) dX0_become_56 (by decide) ?_
  refine r_bipush (v := 60) dX0_become_57 (by decide) ?_
  refine r_copy dX0_become_59 (sf_0_6 k1) (sf_0_6 k0) ml_X0_31 w_acn w_acs w_aci (Fits.vm (by decide)) (Nat.le_of_ble_eq_true rfl) hf fun h6 hf => ?_
  exact e_vH dX0_become_62 rfl hf
def f_X0_go (a0 : Nat) (x1_ : Int32) (x2_ : Int32) (h : Hp) : Option Hp :=
  (Option.bind (α := Hp) (
    (if (60 : Int32) ≤ (gI h a0 4) then (
      some h)
    else (
      (stI h (rf a0 5) (gI h a0 4) x1_).bind fun h3 =>
      (stI h3 (rf a0 6) (gI h3 a0 4) (gI h3 a0 1)).bind fun h4 =>
      nm (sI h4 a0 4 ((gI h4 a0 4) + (1 : Int32))) fun h5 =>
      nm (sI h5 a0 1 x2_) fun h6 =>
      some h6))) fun t1 =>
  some t1)
set_option maxRecDepth 100000 in
set_option maxHeartbeats 4000000 in
theorem S_X0_go (a0 : Nat) (x1_ : Int32) (x2_ : Int32) (k0 : sh a0 = (0, 0, 7)) (h : Hp) (r : Hp) (hf : f_X0_go a0 x1_ x2_ h = some r) : MetP Y_X0_go 1 [.ref a0, .int x1_, .int x2_] h (none, r) := by
  unfold f_X0_go at hf
  refine met_of yo_X0_go (Nat.le_of_ble_eq_true rfl) ?_
  show Run Y_X0_go _ 0 [some (.ref a0), some (.int x1_), some (.int x2_)] [] h
  refine r_aload_n dX0_go_0 rfl ?_
  refine r_getI dX0_go_1 k0 ft_X0_28 rfl ?_
  refine r_bipush (v := 60) dX0_go_4 (by decide) ?_
  refine r_reg (P := fun t1 => Run Y_X0_go (VM 1 (none, r)) 47 [some (.ref a0), some (.int x1_), some (.int x2_)] [] t1) hf (fun t1 hf => ?_) (fun t1 key2 hf => ?_)
  · exact e_vH dX0_go_47 rfl hf
  · refine r_icmp_ge 47 dX0_go_6 (by decide) hf (fun c7 hf => ?_) (fun c7 hf => ?_)
    · cases hf; exact key2
    · refine r_aload_n dX0_go_9 rfl ?_
      refine r_getS (b := rf a0 5) dX0_go_10 k0 ft_X0_9 rfl rfl ?_
      refine r_aload_n dX0_go_13 rfl ?_
      refine r_getI dX0_go_14 k0 ft_X0_28 rfl ?_
      refine r_iload_n dX0_go_17 rfl ?_
      refine r_iast dX0_go_18 (sf_0_5 k0) hf fun h3 hf => ?_
      refine r_aload_n dX0_go_19 rfl ?_
      refine r_getS (b := rf a0 6) dX0_go_20 k0 ft_X0_15 rfl rfl ?_
      refine r_aload_n dX0_go_23 rfl ?_
      refine r_getI dX0_go_24 k0 ft_X0_28 rfl ?_
      refine r_aload_n dX0_go_27 rfl ?_
      refine r_getI dX0_go_28 k0 ft_X0_18 rfl ?_
      refine r_iast dX0_go_31 (sf_0_6 k0) hf fun h4 hf => ?_
      refine r_aload_n dX0_go_32 rfl ?_
      refine r_dup dX0_go_33 rfl ?_
      refine r_getI dX0_go_34 k0 ft_X0_28 rfl ?_
      refine r_iconst (v := 1) dX0_go_37 (by decide) ?_
      refine r_iadd dX0_go_38 ?_
      refine r_putI dX0_go_39 k0 ft_X0_28 rfl hf fun h5 hf => ?_
      refine r_aload_n dX0_go_42 rfl ?_
      refine r_iload_n dX0_go_43 rfl ?_
      refine r_putI dX0_go_44 k0 ft_X0_18 rfl hf fun h6 hf => ?_
      cases hf; exact key2
def f_X0_goBack (a0 : Nat) (x1_ : Int32) (h : Hp) : Option Hp :=
  (Option.bind (α := Hp) (
    (if x1_ < 0 then (
      some h)
    else (
      (if (gI h a0 4) ≤ x1_ then (
        some h)
      else (
        (ldI h (rf a0 6) x1_).bind fun v3 =>
        nm (sI h a0 1 v3) fun h4 =>
        nm (sI h4 a0 4 x1_) fun h5 =>
        some h5))))) fun t1 =>
  some t1)
set_option maxRecDepth 100000 in
set_option maxHeartbeats 4000000 in
theorem S_X0_goBack (a0 : Nat) (x1_ : Int32) (k0 : sh a0 = (0, 0, 7)) (h : Hp) (r : Hp) (hf : f_X0_goBack a0 x1_ h = some r) : MetP Y_X0_goBack 1 [.ref a0, .int x1_] h (none, r) := by
  unfold f_X0_goBack at hf
  refine met_of yo_X0_goBack (Nat.le_of_ble_eq_true rfl) ?_
  show Run Y_X0_goBack _ 0 [some (.ref a0), some (.int x1_)] [] h
  refine r_iload_n dX0_goBack_0 rfl ?_
  refine r_reg (P := fun t1 => Run Y_X0_goBack (VM 1 (none, r)) 27 [some (.ref a0), some (.int x1_)] [] t1) hf (fun t1 hf => ?_) (fun t1 key2 hf => ?_)
  · exact e_vH dX0_goBack_27 rfl hf
  · refine r_if_lt 27 dX0_goBack_1 (by decide) hf (fun c7 hf => ?_) (fun c7 hf => ?_)
    · cases hf; exact key2
    · refine r_iload_n dX0_goBack_4 rfl ?_
      refine r_aload_n dX0_goBack_5 rfl ?_
      refine r_getI dX0_goBack_6 k0 ft_X0_28 rfl ?_
      refine r_icmp_ge 27 dX0_goBack_9 (by decide) hf (fun c6 hf => ?_) (fun c6 hf => ?_)
      · cases hf; exact key2
      · refine r_aload_n dX0_goBack_12 rfl ?_
        refine r_aload_n dX0_goBack_13 rfl ?_
        refine r_getS (b := rf a0 6) dX0_goBack_14 k0 ft_X0_15 rfl rfl ?_
        refine r_iload_n dX0_goBack_17 rfl ?_
        refine r_iald dX0_goBack_18 (sf_0_6 k0) hf fun v3 hf => ?_
        refine r_putI dX0_goBack_19 k0 ft_X0_18 rfl hf fun h4 hf => ?_
        refine r_aload_n dX0_goBack_22 rfl ?_
        refine r_iload_n dX0_goBack_23 rfl ?_
        refine r_putI dX0_goBack_24 k0 ft_X0_28 rfl hf fun h5 hf => ?_
        cases hf; exact key2
def f_X0_stepsOf (F : Nat) (a0 : Nat) (x1_ : Int32) (h : Hp) : Option Int32 :=
  fix (σ := Int32 × Int32) (ρ := Int32) (fun self2 s1 =>
    (if (gI h a0 4) ≤ s1.2 then (
      some s1.1)
    else (
      (ldI h (rf a0 5) s1.2).bind fun v4 =>
      (Option.bind (α := Int32) (
        (if (v4 / (10 : Int32)) = x1_ then (
          some (s1.1 + 1))
        else (
          some s1.1))) fun t5 =>
      self2 (t5, (s1.2 + 1)))))) F ((0 : Int32), (0 : Int32))
set_option maxRecDepth 100000 in
set_option maxHeartbeats 4000000 in
theorem S_X0_stepsOf (F : Nat) (a0 : Nat) (x1_ : Int32) (k0 : sh a0 = (0, 0, 7)) (h : Hp) (r : Int32) (hf : f_X0_stepsOf F a0 x1_ h = some r) : MetP Y_X0_stepsOf 1 [.ref a0, .int x1_] h (some (.int r), h) := by
  unfold f_X0_stepsOf at hf
  refine met_of yo_X0_stepsOf (Nat.le_of_ble_eq_true rfl) ?_
  show Run Y_X0_stepsOf _ 0 [some (.ref a0), some (.int x1_), none, none] [] h
  refine r_iconst (v := 0) dX0_stepsOf_0 (by decide) ?_
  refine r_istore_nA dX0_stepsOf_1 (by decide) ?_
  refine r_iconst (v := 0) dX0_stepsOf_2 (by decide) ?_
  refine r_istore_nA dX0_stepsOf_3 (by decide) ?_
  refine r_fix (σ := Int32 × Int32) (fun s1 => [some (.ref a0), some (.int x1_), some (.int s1.1), some (.int s1.2)]) (fun s1 => h) (fun self2 ih3 s1 hf => ?_) F ((0 : Int32), (0 : Int32)) hf
  refine r_iload_n dX0_stepsOf_4 rfl ?_
  refine r_aload_n dX0_stepsOf_5 rfl ?_
  refine r_getI dX0_stepsOf_6 k0 ft_X0_28 rfl ?_
  refine r_icmp_ge 34 dX0_stepsOf_9 (by decide) hf (fun c8 hf => ?_) (fun c8 hf => ?_)
  · refine r_iload_n dX0_stepsOf_34 rfl ?_
    exact e_iP dX0_stepsOf_35 rfl hf
  · refine r_aload_n dX0_stepsOf_12 rfl ?_
    refine r_getS (b := rf a0 5) dX0_stepsOf_13 k0 ft_X0_9 rfl rfl ?_
    refine r_iload_n dX0_stepsOf_16 rfl ?_
    refine r_iald dX0_stepsOf_17 (sf_0_5 k0) hf fun v4 hf => ?_
    refine r_bipush (v := 10) dX0_stepsOf_18 (by decide) ?_
    refine r_idivK dX0_stepsOf_20 (by decide) ?_
    refine r_iload_n dX0_stepsOf_21 rfl ?_
    refine r_reg (P := fun t5 => Run Y_X0_stepsOf (VM 1 (some (.int r), h)) 28 [some (.ref a0), some (.int x1_), some (.int t5), some (.int s1.2)] [] h) hf (fun t5 hf => ?_) (fun t5 key6 hf => ?_)
    · refine r_iincA (v := 1) dX0_stepsOf_28 rfl (by decide) (by decide) ?_
      refine r_goto 4 dX0_stepsOf_31 (by decide) ?_
      exact ih3 _ hf
    · refine r_icmp_ne 28 dX0_stepsOf_22 (by decide) hf (fun c7 hf => ?_) (fun c7 hf => ?_)
      · cases hf; exact key6
      · refine r_iincA (v := 1) dX0_stepsOf_25 rfl (by decide) (by decide) ?_
        cases hf; exact key6
def f_X4_knows (a0 : Nat) (x1_ : Int32) (h : Hp) : Option Int32 :=
  (Option.bind (α := Int32) (
    (if x1_ < 0 then (
      some (0 : Int32))
    else (
      (if (nI (sh (rf a0 1)).2.2) ≤ x1_ then (
        some (0 : Int32))
      else (
        some (1 : Int32)))))) fun t1 =>
  ckZ t1)
set_option maxRecDepth 100000 in
set_option maxHeartbeats 4000000 in
theorem S_X4_knows (a0 : Nat) (x1_ : Int32) (k0 : sh a0 = (0, 4, 2)) (h : Hp) (r : Int32) (hf : f_X4_knows a0 x1_ h = some r) : MetP Y_X4_knows 1 [.ref a0, .int x1_] h (some (.int r), h) := by
  unfold f_X4_knows at hf
  refine met_of yo_X4_knows (Nat.le_of_ble_eq_true rfl) ?_
  show Run Y_X4_knows _ 0 [some (.ref a0), some (.int x1_)] [] h
  refine r_iload_n dX4_knows_0 rfl ?_
  refine r_reg (P := fun t1 => Run Y_X4_knows (VM 1 (some (.int r), h)) 18 [some (.ref a0), some (.int x1_)] [.int t1] h) hf (fun t1 hf => ?_) (fun t1 key2 hf => ?_)
  · exact e_zP dX4_knows_18 rfl hf
  · refine r_if_lt 17 dX4_knows_1 (by decide) hf (fun c4 hf => ?_) (fun c4 hf => ?_)
    · refine r_iconst (v := 0) dX4_knows_17 (by decide) ?_
      cases hf; exact key2
    · refine r_iload_n dX4_knows_4 rfl ?_
      refine r_aload_n dX4_knows_5 rfl ?_
      refine r_getS (b := rf a0 1) dX4_knows_6 k0 ft_X4_16 rfl rfl ?_
      refine r_alen dX4_knows_9 (sf_4_1 k0) ?_
      refine r_icmp_ge 17 dX4_knows_10 (by decide) hf (fun c3 hf => ?_) (fun c3 hf => ?_)
      · refine r_iconst (v := 0) dX4_knows_17 (by decide) ?_
        cases hf; exact key2
      · refine r_iconst (v := 1) dX4_knows_13 (by decide) ?_
        refine r_goto 18 dX4_knows_14 (by decide) ?_
        cases hf; exact key2
def f_X4_size (a0 : Nat) (x1_ : Int32) (h : Hp) : Option Int32 :=
  (f_X4_knows a0 x1_ h).bind fun v1 =>
  (Option.bind (α := Int32) (
    (if v1 = 0 then (
      some (-1 : Int32))
    else (
      (ldI h (rf a0 1) x1_).bind fun v4 =>
      some v4))) fun t2 =>
  some t2)
set_option maxRecDepth 100000 in
set_option maxHeartbeats 4000000 in
theorem S_X4_size (a0 : Nat) (x1_ : Int32) (k0 : sh a0 = (0, 4, 2)) (h : Hp) (r : Int32) (hf : f_X4_size a0 x1_ h = some r) : MetP Y_X4_size 2 [.ref a0, .int x1_] h (some (.int r), h) := by
  unfold f_X4_size at hf
  refine met_of yo_X4_size (Nat.le_of_ble_eq_true rfl) ?_
  show Run Y_X4_size _ 0 [some (.ref a0), some (.int x1_)] [] h
  refine r_aload_n dX4_size_0 rfl ?_
  refine r_iload_n dX4_size_1 rfl ?_
  obtain ⟨v1, hv, hf⟩ := bnd hf
  refine r_callV (lv := 1) dX4_size_2 yo_X4_knows yi_X4_knows ml_X4_30 ya_X4_knows k0 ⟨_, rfl, rfl⟩ (Fits.vm (by decide)) rfl rfl (Nat.le_of_ble_eq_true rfl) (S_X4_knows a0 x1_ k0 h  _ hv) ?_
  refine r_reg (P := fun t2 => Run Y_X4_size (VM 2 (some (.int r), h)) 18 [some (.ref a0), some (.int x1_)] [.int t2] h) hf (fun t2 hf => ?_) (fun t2 key3 hf => ?_)
  · exact e_iP dX4_size_18 rfl hf
  · refine r_if_eq 17 dX4_size_5 (by decide) hf (fun c5 hf => ?_) (fun c5 hf => ?_)
    · refine r_iconst (v := -1) dX4_size_17 (by decide) ?_
      cases hf; exact key3
    · refine r_aload_n dX4_size_8 rfl ?_
      refine r_getS (b := rf a0 1) dX4_size_9 k0 ft_X4_16 rfl rfl ?_
      refine r_iload_n dX4_size_12 rfl ?_
      refine r_iald dX4_size_13 (sf_4_1 k0) hf fun v4 hf => ?_
      refine r_goto 18 dX4_size_14 (by decide) ?_
      cases hf; exact key3
def f_X6_clear (a0 : Nat) (h : Hp) : Option Hp :=
  nm (sI h a0 0 (0 : Int32)) fun h1 =>
  nm (sI h1 a0 1 (0 : Int32)) fun h2 =>
  nm (sI h2 a0 2 (0 : Int32)) fun h3 =>
  nm (sI h3 a0 3 (0 : Int32)) fun h4 =>
  nm (sI h4 a0 4 (0 : Int32)) fun h5 =>
  nm (sI h5 a0 5 (0 : Int32)) fun h6 =>
  (ckZ (0 : Int32)).bind fun z8 => nm (sI h6 a0 6 z8) fun h7 =>
  some h7
set_option maxRecDepth 100000 in
set_option maxHeartbeats 4000000 in
theorem S_X6_clear (a0 : Nat) (k0 : sh a0 = (0, 6, 14)) (h : Hp) (r : Hp) (hf : f_X6_clear a0 h = some r) : MetP Y_X6_clear 1 [.ref a0] h (none, r) := by
  unfold f_X6_clear at hf
  refine met_of yo_X6_clear (Nat.le_of_ble_eq_true rfl) ?_
  show Run Y_X6_clear _ 0 [some (.ref a0)] [] h
  refine r_aload_n dX6_clear_0 rfl ?_
  refine r_iconst (v := 0) dX6_clear_1 (by decide) ?_
  refine r_putI dX6_clear_2 k0 ft_X6_33 rfl hf fun h1 hf => ?_
  refine r_aload_n dX6_clear_5 rfl ?_
  refine r_iconst (v := 0) dX6_clear_6 (by decide) ?_
  refine r_putI dX6_clear_7 k0 ft_X6_37 rfl hf fun h2 hf => ?_
  refine r_aload_n dX6_clear_10 rfl ?_
  refine r_iconst (v := 0) dX6_clear_11 (by decide) ?_
  refine r_putI dX6_clear_12 k0 ft_X6_40 rfl hf fun h3 hf => ?_
  refine r_aload_n dX6_clear_15 rfl ?_
  refine r_iconst (v := 0) dX6_clear_16 (by decide) ?_
  refine r_putI dX6_clear_17 k0 ft_X6_43 rfl hf fun h4 hf => ?_
  refine r_aload_n dX6_clear_20 rfl ?_
  refine r_iconst (v := 0) dX6_clear_21 (by decide) ?_
  refine r_putI dX6_clear_22 k0 ft_X6_46 rfl hf fun h5 hf => ?_
  refine r_aload_n dX6_clear_25 rfl ?_
  refine r_iconst (v := 0) dX6_clear_26 (by decide) ?_
  refine r_putI dX6_clear_27 k0 ft_X6_49 rfl hf fun h6 hf => ?_
  refine r_aload_n dX6_clear_30 rfl ?_
  refine r_iconst (v := 0) dX6_clear_31 (by decide) ?_
  refine r_putZ dX6_clear_32 k0 ft_X6_52 rfl hf fun h7 hf => ?_
  exact e_vH dX6_clear_35 rfl hf
def f_X4_holds (a0 : Nat) (x1_ : Int32) (h : Hp) : Option Int32 :=
  (Option.bind (α := Int32) (
    (if x1_ < 0 then (
      some (0 : Int32))
    else (
      (if (nI (sh (rf a0 1)).2.2) ≤ x1_ then (
        some (0 : Int32))
      else (
        (ldI h (rf a0 1) x1_).bind fun v3 =>
        (if v3 < 0 then (
          some (0 : Int32))
        else (
          some (1 : Int32)))))))) fun t1 =>
  ckZ t1)
set_option maxRecDepth 100000 in
set_option maxHeartbeats 4000000 in
theorem S_X4_holds (a0 : Nat) (x1_ : Int32) (k0 : sh a0 = (0, 4, 2)) (h : Hp) (r : Int32) (hf : f_X4_holds a0 x1_ h = some r) : MetP Y_X4_holds 1 [.ref a0, .int x1_] h (some (.int r), h) := by
  unfold f_X4_holds at hf
  refine met_of yo_X4_holds (Nat.le_of_ble_eq_true rfl) ?_
  show Run Y_X4_holds _ 0 [some (.ref a0), some (.int x1_)] [] h
  refine r_iload_n dX4_holds_0 rfl ?_
  refine r_reg (P := fun t1 => Run Y_X4_holds (VM 1 (some (.int r), h)) 27 [some (.ref a0), some (.int x1_)] [.int t1] h) hf (fun t1 hf => ?_) (fun t1 key2 hf => ?_)
  · exact e_zP dX4_holds_27 rfl hf
  · refine r_if_lt 26 dX4_holds_1 (by decide) hf (fun c6 hf => ?_) (fun c6 hf => ?_)
    · refine r_iconst (v := 0) dX4_holds_26 (by decide) ?_
      cases hf; exact key2
    · refine r_iload_n dX4_holds_4 rfl ?_
      refine r_aload_n dX4_holds_5 rfl ?_
      refine r_getS (b := rf a0 1) dX4_holds_6 k0 ft_X4_16 rfl rfl ?_
      refine r_alen dX4_holds_9 (sf_4_1 k0) ?_
      refine r_icmp_ge 26 dX4_holds_10 (by decide) hf (fun c5 hf => ?_) (fun c5 hf => ?_)
      · refine r_iconst (v := 0) dX4_holds_26 (by decide) ?_
        cases hf; exact key2
      · refine r_aload_n dX4_holds_13 rfl ?_
        refine r_getS (b := rf a0 1) dX4_holds_14 k0 ft_X4_16 rfl rfl ?_
        refine r_iload_n dX4_holds_17 rfl ?_
        refine r_iald dX4_holds_18 (sf_4_1 k0) hf fun v3 hf => ?_
        refine r_if_lt 26 dX4_holds_19 (by decide) hf (fun c4 hf => ?_) (fun c4 hf => ?_)
        · refine r_iconst (v := 0) dX4_holds_26 (by decide) ?_
          cases hf; exact key2
        · refine r_iconst (v := 1) dX4_holds_22 (by decide) ?_
          refine r_goto 27 dX4_holds_23 (by decide) ?_
          cases hf; exact key2
def f_X4_has (a0 : Nat) (x1_ : Int32) (x2_ : Int32) (x3_ : Int32) (h : Hp) : Option Int32 :=
  (f_X4_holds a0 x1_ h).bind fun v1 =>
  (Option.bind (α := Int32) (
    (if v1 = 0 then (
      some (0 : Int32))
    else (
      (if x2_ < 0 then (
        some (0 : Int32))
      else (
        (if x3_ < 0 then (
          some (0 : Int32))
        else (
          (ldI h (rf a0 1) x1_).bind fun v4 =>
          (if v4 < x3_ then (
            some (0 : Int32))
          else (
            (ldI h (rf a0 1) x1_).bind fun v5 =>
            (if (v5 - x3_) < x2_ then (
              some (0 : Int32))
            else (
              some (1 : Int32)))))))))))) fun t2 =>
  ckZ t2)
set_option maxRecDepth 100000 in
set_option maxHeartbeats 4000000 in
theorem S_X4_has (a0 : Nat) (x1_ : Int32) (x2_ : Int32) (x3_ : Int32) (k0 : sh a0 = (0, 4, 2)) (h : Hp) (r : Int32) (hf : f_X4_has a0 x1_ x2_ x3_ h = some r) : MetP Y_X4_has 2 [.ref a0, .int x1_, .int x2_, .int x3_] h (some (.int r), h) := by
  unfold f_X4_has at hf
  refine met_of yo_X4_has (Nat.le_of_ble_eq_true rfl) ?_
  show Run Y_X4_has _ 0 [some (.ref a0), some (.int x1_), some (.int x2_), some (.int x3_)] [] h
  refine r_aload_n dX4_has_0 rfl ?_
  refine r_iload_n dX4_has_1 rfl ?_
  obtain ⟨v1, hv, hf⟩ := bnd hf
  refine r_callV (lv := 1) dX4_has_2 yo_X4_holds yi_X4_holds ml_X4_26 ya_X4_holds k0 ⟨_, rfl, rfl⟩ (Fits.vm (by decide)) rfl rfl (Nat.le_of_ble_eq_true rfl) (S_X4_holds a0 x1_ k0 h  _ hv) ?_
  refine r_reg (P := fun t2 => Run Y_X4_has (VM 2 (some (.int r), h)) 43 [some (.ref a0), some (.int x1_), some (.int x2_), some (.int x3_)] [.int t2] h) hf (fun t2 hf => ?_) (fun t2 key3 hf => ?_)
  · exact e_zP dX4_has_43 rfl hf
  · refine r_if_eq 42 dX4_has_5 (by decide) hf (fun c10 hf => ?_) (fun c10 hf => ?_)
    · refine r_iconst (v := 0) dX4_has_42 (by decide) ?_
      cases hf; exact key3
    · refine r_iload_n dX4_has_8 rfl ?_
      refine r_if_lt 42 dX4_has_9 (by decide) hf (fun c9 hf => ?_) (fun c9 hf => ?_)
      · refine r_iconst (v := 0) dX4_has_42 (by decide) ?_
        cases hf; exact key3
      · refine r_iload_n dX4_has_12 rfl ?_
        refine r_if_lt 42 dX4_has_13 (by decide) hf (fun c8 hf => ?_) (fun c8 hf => ?_)
        · refine r_iconst (v := 0) dX4_has_42 (by decide) ?_
          cases hf; exact key3
        · refine r_iload_n dX4_has_16 rfl ?_
          refine r_aload_n dX4_has_17 rfl ?_
          refine r_getS (b := rf a0 1) dX4_has_18 k0 ft_X4_16 rfl rfl ?_
          refine r_iload_n dX4_has_21 rfl ?_
          refine r_iald dX4_has_22 (sf_4_1 k0) hf fun v4 hf => ?_
          refine r_icmp_gt 42 dX4_has_23 (by decide) hf (fun c7 hf => ?_) (fun c7 hf => ?_)
          · refine r_iconst (v := 0) dX4_has_42 (by decide) ?_
            cases hf; exact key3
          · refine r_iload_n dX4_has_26 rfl ?_
            refine r_aload_n dX4_has_27 rfl ?_
            refine r_getS (b := rf a0 1) dX4_has_28 k0 ft_X4_16 rfl rfl ?_
            refine r_iload_n dX4_has_31 rfl ?_
            refine r_iald dX4_has_32 (sf_4_1 k0) hf fun v5 hf => ?_
            refine r_iload_n dX4_has_33 rfl ?_
            refine r_isub dX4_has_34 ?_
            refine r_icmp_gt 42 dX4_has_35 (by decide) hf (fun c6 hf => ?_) (fun c6 hf => ?_)
            · refine r_iconst (v := 0) dX4_has_42 (by decide) ?_
              cases hf; exact key3
            · refine r_iconst (v := 1) dX4_has_38 (by decide) ?_
              refine r_goto 43 dX4_has_39 (by decide) ?_
              cases hf; exact key3
def f_X4_get (a0 : Nat) (x1_ : Int32) (x2_ : Int32) (h : Hp) : Option Int32 :=
  (f_X4_has a0 x1_ x2_ (1 : Int32) h).bind fun v1 =>
  (Option.bind (α := Int32) (
    (if v1 = 0 then (
      some (0 : Int32))
    else (
      (ldR (rf a0 0) x1_).bind fun b4 =>
      (ldI h b4 x2_).bind fun v5 =>
      some v5))) fun t2 =>
  some t2)
set_option maxRecDepth 100000 in
set_option maxHeartbeats 4000000 in
theorem S_X4_get (a0 : Nat) (x1_ : Int32) (x2_ : Int32) (k0 : sh a0 = (0, 4, 2)) (h : Hp) (r : Int32) (hf : f_X4_get a0 x1_ x2_ h = some r) : MetP Y_X4_get 3 [.ref a0, .int x1_, .int x2_] h (some (.int r), h) := by
  unfold f_X4_get at hf
  refine met_of yo_X4_get (Nat.le_of_ble_eq_true rfl) ?_
  show Run Y_X4_get _ 0 [some (.ref a0), some (.int x1_), some (.int x2_)] [] h
  refine r_aload_n dX4_get_0 rfl ?_
  refine r_iload_n dX4_get_1 rfl ?_
  refine r_iload_n dX4_get_2 rfl ?_
  refine r_iconst (v := 1) dX4_get_3 (by decide) ?_
  obtain ⟨v1, hv, hf⟩ := bnd hf
  refine r_callV (lv := 2) dX4_get_4 yo_X4_has yi_X4_has ml_X4_33 ya_X4_has k0 ⟨_, rfl, rfl⟩ (Fits.vm (by decide)) rfl rfl (Nat.le_of_ble_eq_true rfl) (S_X4_has a0 x1_ x2_ (1 : Int32) k0 h  _ hv) ?_
  refine r_reg (P := fun t2 => Run Y_X4_get (VM 3 (some (.int r), h)) 22 [some (.ref a0), some (.int x1_), some (.int x2_)] [.int t2] h) hf (fun t2 hf => ?_) (fun t2 key3 hf => ?_)
  · exact e_iP dX4_get_22 rfl hf
  · refine r_if_eq 21 dX4_get_7 (by decide) hf (fun c6 hf => ?_) (fun c6 hf => ?_)
    · refine r_iconst (v := 0) dX4_get_21 (by decide) ?_
      cases hf; exact key3
    · refine r_aload_n dX4_get_10 rfl ?_
      refine r_getS (b := rf a0 0) dX4_get_11 k0 ft_X4_11 rfl rfl ?_
      refine r_iload_n dX4_get_14 rfl ?_
      refine r_aald (E := (1, 0, 40)) dX4_get_15 (sf_4_0 k0) (Or.inl rfl) (se_pl k0) hf fun b4 hb4 hf => ?_
      refine r_iload_n dX4_get_16 rfl ?_
      refine r_iald dX4_get_17 hb4 hf fun v5 hf => ?_
      refine r_goto 22 dX4_get_18 (by decide) ?_
      cases hf; exact key3
def f_X1_sign  (h : Hp) : Option Int32 :=
  (gO h 17 0 (0, 4, 2)).bind fun y1 =>
  (f_X4_get y1 (gI h 17 1) (gI h 17 3) h).bind fun v2 =>
  some v2
set_option maxRecDepth 100000 in
set_option maxHeartbeats 4000000 in
theorem S_X1_sign  (h : Hp) (r : Int32) (hf : f_X1_sign h = some r) : MetP Y_X1_sign 4 [.ref 17] h (some (.int r), h) := by
  unfold f_X1_sign at hf
  refine met_of yo_X1_sign (Nat.le_of_ble_eq_true rfl) ?_
  show Run Y_X1_sign _ 0 [some (.ref 17)] [] h
  refine r_aload_n dX1_sign_0 rfl ?_
  refine r_getR (E := (0, 4, 2)) dX1_sign_1 sh_17 ft_X1_9 rfl hf fun y1 hy1 hf => ?_
  refine r_aload_n dX1_sign_4 rfl ?_
  refine r_getI dX1_sign_5 sh_17 ft_X1_15 rfl ?_
  refine r_aload_n dX1_sign_8 rfl ?_
  refine r_getI dX1_sign_9 sh_17 ft_X1_27 rfl ?_
  obtain ⟨v2, hv, hf⟩ := bnd hf
  refine r_callV (lv := 3) dX1_sign_12 yo_X4_get yi_X4_get ml_X1_52 ya_X4_get hy1 ⟨_, rfl, rfl⟩ (Fits.vm (by decide)) rfl rfl (Nat.le_of_ble_eq_true rfl) (S_X4_get y1 (gI h 17 1) (gI h 17 3) hy1 h  _ hv) ?_
  exact e_iP dX1_sign_15 rfl hf
def f_X1_skipBlanks (F : Nat)  (h : Hp) : Option Hp :=
  fix (σ := Hp) (ρ := Hp) (fun self2 s1 =>
    (if (gI s1 17 2) ≤ (gI s1 17 3) then (
      some s1)
    else (
      (f_X1_sign s1).bind fun v4 =>
      (if v4 = (32 : Int32) then (
        nm (sI s1 17 3 ((gI s1 17 3) + (1 : Int32))) fun h5 =>
        self2 h5)
      else (
        some s1))))) F h
set_option maxRecDepth 100000 in
set_option maxHeartbeats 4000000 in
theorem S_X1_skipBlanks (F : Nat)  (h : Hp) (r : Hp) (hf : f_X1_skipBlanks F h = some r) : MetP Y_X1_skipBlanks 5 [.ref 17] h (none, r) := by
  unfold f_X1_skipBlanks at hf
  refine met_of yo_X1_skipBlanks (Nat.le_of_ble_eq_true rfl) ?_
  show Run Y_X1_skipBlanks _ 0 [some (.ref 17)] [] h
  refine r_fix (σ := Hp) (fun s1 => [some (.ref 17)]) (fun s1 => s1) (fun self2 ih3 s1 hf => ?_) F h hf
  refine r_aload_n dX1_skipBlanks_0 rfl ?_
  refine r_getI dX1_skipBlanks_1 sh_17 ft_X1_27 rfl ?_
  refine r_aload_n dX1_skipBlanks_4 rfl ?_
  refine r_getI dX1_skipBlanks_5 sh_17 ft_X1_25 rfl ?_
  refine r_icmp_ge 34 dX1_skipBlanks_8 (by decide) hf (fun c7 hf => ?_) (fun c7 hf => ?_)
  · exact e_vH dX1_skipBlanks_34 rfl hf
  · refine r_aload_n dX1_skipBlanks_11 rfl ?_
    obtain ⟨v4, hv, hf⟩ := bnd hf
    refine r_callV (lv := 4) dX1_skipBlanks_12 yo_X1_sign yi_X1_sign ml_X1_56 ya_X1_sign sh_17 ⟨_, rfl, rfl⟩ (Fits.vm (by decide)) rfl rfl (Nat.le_of_ble_eq_true rfl) (S_X1_sign  s1  _ hv) ?_
    refine r_bipush (v := 32) dX1_skipBlanks_15 (by decide) ?_
    refine r_icmp_eq 21 dX1_skipBlanks_17 (by decide) hf (fun c6 hf => ?_) (fun c6 hf => ?_)
    · refine r_aload_n dX1_skipBlanks_21 rfl ?_
      refine r_dup dX1_skipBlanks_22 rfl ?_
      refine r_getI dX1_skipBlanks_23 sh_17 ft_X1_27 rfl ?_
      refine r_iconst (v := 1) dX1_skipBlanks_26 (by decide) ?_
      refine r_iadd dX1_skipBlanks_27 ?_
      refine r_putI dX1_skipBlanks_28 sh_17 ft_X1_27 rfl hf fun h5 hf => ?_
      refine r_goto 0 dX1_skipBlanks_31 (by decide) ?_
      exact ih3 _ hf
    · exact e_vH dX1_skipBlanks_20 rfl hf
def f_X1_kindBySign (x0_ : Int32) (h : Hp) : Option Int32 :=
  (if x0_ = 97 then (
    some (2 : Int32))
  else
  (if x0_ = 100 then (
    some (4 : Int32))
  else
  (if x0_ = 108 then (
    some (3 : Int32))
  else
  (if x0_ = 109 then (
    some (0 : Int32))
  else
  (if x0_ = 115 then (
    some (5 : Int32))
  else
  (if x0_ = 116 then (
    some (1 : Int32))
  else
  (
    some (-9 : Int32))))))))
set_option maxRecDepth 100000 in
set_option maxHeartbeats 4000000 in
theorem S_X1_kindBySign (x0_ : Int32) (h : Hp) (r : Int32) (hf : f_X1_kindBySign x0_ h = some r) : MetP Y_X1_kindBySign 1 [.int x0_] h (some (.int r), h) := by
  unfold f_X1_kindBySign at hf
  refine met_of yo_X1_kindBySign (Nat.le_of_ble_eq_true rfl) ?_
  show Run Y_X1_kindBySign _ 0 [some (.int x0_)] [] h
  refine r_iload_n dX1_kindBySign_0 rfl ?_
  refine r_ite hf (fun c1 hf => ?_) (fun c1 hf => ?_)
  · refine r_tabIn 100 dX1_kindBySign_1 (by rw [c1]; decide) (by rw [c1]; decide) (off := 99) (by rw [c1]; rfl) (by decide) ?_
    refine r_iconst (v := 2) dX1_kindBySign_100 (by decide) ?_
    exact e_iP dX1_kindBySign_101 rfl hf
  refine r_ite hf (fun c2 hf => ?_) (fun c2 hf => ?_)
  · refine r_tabIn 104 dX1_kindBySign_1 (by rw [c2]; decide) (by rw [c2]; decide) (off := 103) (by rw [c2]; rfl) (by decide) ?_
    refine r_iconst (v := 4) dX1_kindBySign_104 (by decide) ?_
    exact e_iP dX1_kindBySign_105 rfl hf
  refine r_ite hf (fun c3 hf => ?_) (fun c3 hf => ?_)
  · refine r_tabIn 102 dX1_kindBySign_1 (by rw [c3]; decide) (by rw [c3]; decide) (off := 101) (by rw [c3]; rfl) (by decide) ?_
    refine r_iconst (v := 3) dX1_kindBySign_102 (by decide) ?_
    exact e_iP dX1_kindBySign_103 rfl hf
  refine r_ite hf (fun c4 hf => ?_) (fun c4 hf => ?_)
  · refine r_tabIn 96 dX1_kindBySign_1 (by rw [c4]; decide) (by rw [c4]; decide) (off := 95) (by rw [c4]; rfl) (by decide) ?_
    refine r_iconst (v := 0) dX1_kindBySign_96 (by decide) ?_
    exact e_iP dX1_kindBySign_97 rfl hf
  refine r_ite hf (fun c5 hf => ?_) (fun c5 hf => ?_)
  · refine r_tabIn 106 dX1_kindBySign_1 (by rw [c5]; decide) (by rw [c5]; decide) (off := 105) (by rw [c5]; rfl) (by decide) ?_
    refine r_iconst (v := 5) dX1_kindBySign_106 (by decide) ?_
    exact e_iP dX1_kindBySign_107 rfl hf
  refine r_ite hf (fun c6 hf => ?_) (fun c6 hf => ?_)
  · refine r_tabIn 98 dX1_kindBySign_1 (by rw [c6]; decide) (by rw [c6]; decide) (off := 97) (by rw [c6]; rfl) (by decide) ?_
    refine r_iconst (v := 1) dX1_kindBySign_98 (by decide) ?_
    exact e_iP dX1_kindBySign_99 rfl hf
  refine r_tabDef 108 20 dX1_kindBySign_1 (by decide) (fun i hi e => ?_) (by decide) ?_
  · have a0 : ¬ (x0_).toInt = 97 := fun q => c1 (Int32.toInt_inj.mp (by rw [q]; rfl))
    have a3 : ¬ (x0_).toInt = 100 := fun q => c2 (Int32.toInt_inj.mp (by rw [q]; rfl))
    have a11 : ¬ (x0_).toInt = 108 := fun q => c3 (Int32.toInt_inj.mp (by rw [q]; rfl))
    have a12 : ¬ (x0_).toInt = 109 := fun q => c4 (Int32.toInt_inj.mp (by rw [q]; rfl))
    have a18 : ¬ (x0_).toInt = 115 := fun q => c5 (Int32.toInt_inj.mp (by rw [q]; rfl))
    have a19 : ¬ (x0_).toInt = 116 := fun q => c6 (Int32.toInt_inj.mp (by rw [q]; rfl))
    have b : i = 1 ∨ i = 2 ∨ i = 4 ∨ i = 5 ∨ i = 6 ∨ i = 7 ∨ i = 8 ∨ i = 9 ∨ i = 10 ∨ i = 13 ∨ i = 14 ∨ i = 15 ∨ i = 16 ∨ i = 17 := by omega
    rcases b with rfl | rfl | rfl | rfl | rfl | rfl | rfl | rfl | rfl | rfl | rfl | rfl | rfl | rfl <;> rfl
  · refine r_bipush (v := -9) dX1_kindBySign_108 (by decide) ?_
    exact e_iP dX1_kindBySign_110 rfl hf
def f_X1_addCell (x1_ : Int32) (h : Hp) : Option (Int32 × Hp) :=
  (f_X1_kindBySign x1_ h).bind fun v1 =>
  jn (α := (Unit) → Option (Int32 × Hp)) (fun t2 =>
    jn (α := (Unit) → Option (Int32 × Hp)) (fun t5 =>
      (Option.bind (α := Hp) (
        (if x1_ = (35 : Int32) then (
          (gO h 17 4 (0, 6, 14)).bind fun y10 =>
          (gO h 17 4 (0, 6, 14)).bind fun y11 =>
          nm (sI h y10 3 ((gI h y10 3) ||| ((1 : Int32) <<< ((gI h y11 2) &&& 31)))) fun h12 =>
          some h12)
        else (
          some h))) fun t8 =>
      (Option.bind (α := Hp) (
        (if v1 = (-9 : Int32) then (
          some t8)
        else (
          (gO t8 17 4 (0, 6, 14)).bind fun y16 =>
          (gO t8 17 4 (0, 6, 14)).bind fun y17 =>
          (stI t8 (rf y16 7) (gI t8 y17 4) v1).bind fun h18 =>
          (gO h18 17 4 (0, 6, 14)).bind fun y19 =>
          (gO h18 17 4 (0, 6, 14)).bind fun y20 =>
          (gO h18 17 4 (0, 6, 14)).bind fun y21 =>
          (stI h18 (rf y19 8) (gI h18 y20 4) (gI h18 y21 2)).bind fun h22 =>
          (gO h22 17 4 (0, 6, 14)).bind fun y23 =>
          nm (sI h22 y23 4 ((gI h22 y23 4) + (1 : Int32))) fun h24 =>
          some h24))) fun t14 =>
      (gO t14 17 4 (0, 6, 14)).bind fun y26 =>
      nm (sI t14 y26 2 ((gI t14 y26 2) + (1 : Int32))) fun h27 =>
      (ckZ (1 : Int32)).bind fun z => some (z, h27)))) fun j6 =>
    (if v1 = (-9 : Int32) then (
      j6 ())
    else (
      (gO h 17 4 (0, 6, 14)).bind fun y28 =>
      (if (gI h y28 4) = (4 : Int32) then (
        (ckZ (0 : Int32)).bind fun z => some (z, h))
      else (
        j6 ()))))) fun j3 =>
  (if v1 = (-9 : Int32) then (
    (if x1_ = (46 : Int32) then (
      j3 ())
    else (
      (if x1_ = (35 : Int32) then (
        j3 ())
      else (
        (ckZ (0 : Int32)).bind fun z => some (z, h))))))
  else (
    j3 ()))
set_option maxRecDepth 100000 in
set_option maxHeartbeats 4000000 in
theorem S_X1_addCell (x1_ : Int32) (h : Hp) (r : (Int32 × Hp)) (hf : f_X1_addCell x1_ h = some r) : MetP Y_X1_addCell 2 [.ref 17, .int x1_] h (some (.int r.1), r.2) := by
  unfold f_X1_addCell at hf
  refine met_of yo_X1_addCell (Nat.le_of_ble_eq_true rfl) ?_
  show Run Y_X1_addCell _ 0 [some (.ref 17), some (.int x1_), none] [] h
  refine r_iload_n dX1_addCell_0 rfl ?_
  obtain ⟨v1, hv, hf⟩ := bnd hf
  refine r_callS (lv := 1) dX1_addCell_1 yo_X1_kindBySign ys_X1_kindBySign ml_X1_73 ya_X1_kindBySign (Fits.vm (by decide)) rfl rfl (Nat.le_of_ble_eq_true rfl) (S_X1_kindBySign x1_ h  _ hv) ?_
  refine r_istore_nA dX1_addCell_4 (by decide) ?_
  refine r_iload_n dX1_addCell_5 rfl ?_
  refine r_bipush (v := -9) dX1_addCell_6 (by decide) ?_
  refine r_jn (P := fun t2 => Run Y_X1_addCell (VM 2 (some (.int r.1), r.2)) 23 [some (.ref 17), some (.int x1_), some (.int v1)] [] h) hf (fun t2 hf => ?_) (fun j3 ih4 hf => ?_)
  · refine r_iload_n dX1_addCell_23 rfl ?_
    refine r_bipush (v := -9) dX1_addCell_24 (by decide) ?_
    refine r_jn (P := fun t5 => Run Y_X1_addCell (VM 2 (some (.int r.1), r.2)) 42 [some (.ref 17), some (.int x1_), some (.int v1)] [] h) hf (fun t5 hf => ?_) (fun j6 ih7 hf => ?_)
    · refine r_iload_n dX1_addCell_42 rfl ?_
      refine r_bipush (v := 35) dX1_addCell_43 (by decide) ?_
      refine r_reg (P := fun t8 => Run Y_X1_addCell (VM 2 (some (.int r.1), r.2)) 69 [some (.ref 17), some (.int x1_), some (.int v1)] [] t8) hf (fun t8 hf => ?_) (fun t8 key9 hf => ?_)
      · refine r_iload_n dX1_addCell_69 rfl ?_
        refine r_bipush (v := -9) dX1_addCell_70 (by decide) ?_
        refine r_reg (P := fun t14 => Run Y_X1_addCell (VM 2 (some (.int r.1), r.2)) 126 [some (.ref 17), some (.int x1_), some (.int v1)] [] t14) hf (fun t14 hf => ?_) (fun t14 key15 hf => ?_)
        · refine r_aload_n dX1_addCell_126 rfl ?_
          refine r_getR (E := (0, 6, 14)) dX1_addCell_127 sh_17 ft_X1_30 rfl hf fun y26 hy26 hf => ?_
          refine r_dup dX1_addCell_130 rfl ?_
          refine r_getI dX1_addCell_131 hy26 ft_X1_82 rfl ?_
          refine r_iconst (v := 1) dX1_addCell_134 (by decide) ?_
          refine r_iadd dX1_addCell_135 ?_
          refine r_putI dX1_addCell_136 hy26 ft_X1_82 rfl hf fun h27 hf => ?_
          refine r_iconst (v := 1) dX1_addCell_139 (by decide) ?_
          exact e_zH dX1_addCell_140 rfl hf
        · refine r_icmp_eq 126 dX1_addCell_72 (by decide) hf (fun c25 hf => ?_) (fun c25 hf => ?_)
          · cases hf; exact key15
          · refine r_aload_n dX1_addCell_75 rfl ?_
            refine r_getR (E := (0, 6, 14)) dX1_addCell_76 sh_17 ft_X1_30 rfl hf fun y16 hy16 hf => ?_
            refine r_getS (b := rf y16 7) dX1_addCell_79 hy16 ft_X1_85 rfl rfl ?_
            refine r_aload_n dX1_addCell_82 rfl ?_
            refine r_getR (E := (0, 6, 14)) dX1_addCell_83 sh_17 ft_X1_30 rfl hf fun y17 hy17 hf => ?_
            refine r_getI dX1_addCell_86 hy17 ft_X1_76 rfl ?_
            refine r_iload_n dX1_addCell_89 rfl ?_
            refine r_iast dX1_addCell_90 (sf_6_7 hy16) hf fun h18 hf => ?_
            refine r_aload_n dX1_addCell_91 rfl ?_
            refine r_getR (E := (0, 6, 14)) dX1_addCell_92 sh_17 ft_X1_30 rfl hf fun y19 hy19 hf => ?_
            refine r_getS (b := rf y19 8) dX1_addCell_95 hy19 ft_X1_89 rfl rfl ?_
            refine r_aload_n dX1_addCell_98 rfl ?_
            refine r_getR (E := (0, 6, 14)) dX1_addCell_99 sh_17 ft_X1_30 rfl hf fun y20 hy20 hf => ?_
            refine r_getI dX1_addCell_102 hy20 ft_X1_76 rfl ?_
            refine r_aload_n dX1_addCell_105 rfl ?_
            refine r_getR (E := (0, 6, 14)) dX1_addCell_106 sh_17 ft_X1_30 rfl hf fun y21 hy21 hf => ?_
            refine r_getI dX1_addCell_109 hy21 ft_X1_82 rfl ?_
            refine r_iast dX1_addCell_112 (sf_6_8 hy19) hf fun h22 hf => ?_
            refine r_aload_n dX1_addCell_113 rfl ?_
            refine r_getR (E := (0, 6, 14)) dX1_addCell_114 sh_17 ft_X1_30 rfl hf fun y23 hy23 hf => ?_
            refine r_dup dX1_addCell_117 rfl ?_
            refine r_getI dX1_addCell_118 hy23 ft_X1_76 rfl ?_
            refine r_iconst (v := 1) dX1_addCell_121 (by decide) ?_
            refine r_iadd dX1_addCell_122 ?_
            refine r_putI dX1_addCell_123 hy23 ft_X1_76 rfl hf fun h24 hf => ?_
            cases hf; exact key15
      · refine r_icmp_ne 69 dX1_addCell_45 (by decide) hf (fun c13 hf => ?_) (fun c13 hf => ?_)
        · cases hf; exact key9
        · refine r_aload_n dX1_addCell_48 rfl ?_
          refine r_getR (E := (0, 6, 14)) dX1_addCell_49 sh_17 ft_X1_30 rfl hf fun y10 hy10 hf => ?_
          refine r_dup dX1_addCell_52 rfl ?_
          refine r_getI dX1_addCell_53 hy10 ft_X1_79 rfl ?_
          refine r_iconst (v := 1) dX1_addCell_56 (by decide) ?_
          refine r_aload_n dX1_addCell_57 rfl ?_
          refine r_getR (E := (0, 6, 14)) dX1_addCell_58 sh_17 ft_X1_30 rfl hf fun y11 hy11 hf => ?_
          refine r_getI dX1_addCell_61 hy11 ft_X1_82 rfl ?_
          refine r_ishl dX1_addCell_64 ?_
          refine r_ior dX1_addCell_65 ?_
          refine r_putI dX1_addCell_66 hy10 ft_X1_79 rfl hf fun h12 hf => ?_
          cases hf; exact key9
    refine r_icmp_eq 42 dX1_addCell_26 (by decide) hf (fun c30 hf => ?_) (fun c30 hf => ?_)
    · exact ih7 _ hf
    · refine r_aload_n dX1_addCell_29 rfl ?_
      refine r_getR (E := (0, 6, 14)) dX1_addCell_30 sh_17 ft_X1_30 rfl hf fun y28 hy28 hf => ?_
      refine r_getI dX1_addCell_33 hy28 ft_X1_76 rfl ?_
      refine r_iconst (v := 4) dX1_addCell_36 (by decide) ?_
      refine r_icmp_ne 42 dX1_addCell_37 (by decide) hf (fun c29 hf => ?_) (fun c29 hf => ?_)
      · exact ih7 _ hf
      · refine r_iconst (v := 0) dX1_addCell_40 (by decide) ?_
        exact e_zH dX1_addCell_41 rfl hf
  refine r_icmp_ne 23 dX1_addCell_8 (by decide) hf (fun c33 hf => ?_) (fun c33 hf => ?_)
  · exact ih4 _ hf
  · refine r_iload_n dX1_addCell_11 rfl ?_
    refine r_bipush (v := 46) dX1_addCell_12 (by decide) ?_
    refine r_icmp_eq 23 dX1_addCell_14 (by decide) hf (fun c32 hf => ?_) (fun c32 hf => ?_)
    · exact ih4 _ hf
    · refine r_iload_n dX1_addCell_17 rfl ?_
      refine r_bipush (v := 35) dX1_addCell_18 (by decide) ?_
      refine r_icmp_ne 40 dX1_addCell_20 (by decide) hf (fun c31 hf => ?_) (fun c31 hf => ?_)
      · refine r_iconst (v := 0) dX1_addCell_40 (by decide) ?_
        exact e_zH dX1_addCell_41 rfl hf
      · exact ih4 _ hf
def f_X1_endLine (x1_ : Int32) (h : Hp) : Option (Int32 × Hp) :=
  (if x1_ = 0 then (
    (ckZ (0 : Int32)).bind fun z => some (z, h))
  else (
    (gO h 17 4 (0, 6, 14)).bind fun y1 =>
    jn (α := (Unit) → Option (Int32 × Hp)) (fun t2 =>
      (gO h 17 4 (0, 6, 14)).bind fun y5 =>
      nm (sI h y5 0 x1_) fun h6 =>
      (gO h6 17 4 (0, 6, 14)).bind fun y7 =>
      nm (sI h6 y7 1 ((gI h6 y7 1) + (1 : Int32))) fun h8 =>
      (ckZ (1 : Int32)).bind fun z => some (z, h8)) fun j3 =>
    (if (gI h y1 1) ≤ 0 then (
      j3 ())
    else (
      (gO h 17 4 (0, 6, 14)).bind fun y9 =>
      (if x1_ = (gI h y9 0) then (
        j3 ())
      else (
        (ckZ (0 : Int32)).bind fun z => some (z, h)))))))
set_option maxRecDepth 100000 in
set_option maxHeartbeats 4000000 in
theorem S_X1_endLine (x1_ : Int32) (h : Hp) (r : (Int32 × Hp)) (hf : f_X1_endLine x1_ h = some r) : MetP Y_X1_endLine 1 [.ref 17, .int x1_] h (some (.int r.1), r.2) := by
  unfold f_X1_endLine at hf
  refine met_of yo_X1_endLine (Nat.le_of_ble_eq_true rfl) ?_
  show Run Y_X1_endLine _ 0 [some (.ref 17), some (.int x1_)] [] h
  refine r_iload_n dX1_endLine_0 rfl ?_
  refine r_if_eq 25 dX1_endLine_1 (by decide) hf (fun c12 hf => ?_) (fun c12 hf => ?_)
  · refine r_iconst (v := 0) dX1_endLine_25 (by decide) ?_
    exact e_zH dX1_endLine_26 rfl hf
  · refine r_aload_n dX1_endLine_4 rfl ?_
    refine r_getR (E := (0, 6, 14)) dX1_endLine_5 sh_17 ft_X1_30 rfl hf fun y1 hy1 hf => ?_
    refine r_getI dX1_endLine_8 hy1 ft_X1_60 rfl ?_
    refine r_jn (P := fun t2 => Run Y_X1_endLine (VM 1 (some (.int r.1), r.2)) 27 [some (.ref 17), some (.int x1_)] [] h) hf (fun t2 hf => ?_) (fun j3 ih4 hf => ?_)
    · refine r_aload_n dX1_endLine_27 rfl ?_
      refine r_getR (E := (0, 6, 14)) dX1_endLine_28 sh_17 ft_X1_30 rfl hf fun y5 hy5 hf => ?_
      refine r_iload_n dX1_endLine_31 rfl ?_
      refine r_putI dX1_endLine_32 hy5 ft_X1_63 rfl hf fun h6 hf => ?_
      refine r_aload_n dX1_endLine_35 rfl ?_
      refine r_getR (E := (0, 6, 14)) dX1_endLine_36 sh_17 ft_X1_30 rfl hf fun y7 hy7 hf => ?_
      refine r_dup dX1_endLine_39 rfl ?_
      refine r_getI dX1_endLine_40 hy7 ft_X1_60 rfl ?_
      refine r_iconst (v := 1) dX1_endLine_43 (by decide) ?_
      refine r_iadd dX1_endLine_44 ?_
      refine r_putI dX1_endLine_45 hy7 ft_X1_60 rfl hf fun h8 hf => ?_
      refine r_iconst (v := 1) dX1_endLine_48 (by decide) ?_
      exact e_zH dX1_endLine_49 rfl hf
    refine r_if_le 27 dX1_endLine_11 (by decide) hf (fun c11 hf => ?_) (fun c11 hf => ?_)
    · exact ih4 _ hf
    · refine r_iload_n dX1_endLine_14 rfl ?_
      refine r_aload_n dX1_endLine_15 rfl ?_
      refine r_getR (E := (0, 6, 14)) dX1_endLine_16 sh_17 ft_X1_30 rfl hf fun y9 hy9 hf => ?_
      refine r_getI dX1_endLine_19 hy9 ft_X1_63 rfl ?_
      refine r_icmp_eq 27 dX1_endLine_22 (by decide) hf (fun c10 hf => ?_) (fun c10 hf => ?_)
      · exact ih4 _ hf
      · refine r_iconst (v := 0) dX1_endLine_25 (by decide) ?_
        exact e_zH dX1_endLine_26 rfl hf
def f_X1_readCells (F : Nat)  (h : Hp) : Option (Int32 × Hp) :=
  fix (σ := Int32 × Hp) (ρ := (Int32 × Hp)) (fun self2 s1 =>
    (if (gI s1.2 17 2) ≤ (gI s1.2 17 3) then (
      (ckZ (0 : Int32)).bind fun z => some (z, s1.2))
    else (
      (f_X1_sign s1.2).bind fun v4 =>
      jn (α := (Int32 × Hp) → Option (Int32 × Hp)) (fun t5 =>
        nm (sI t5.2 17 3 ((gI t5.2 17 3) + (1 : Int32))) fun h8 =>
        self2 (t5.1, h8)) fun j6 =>
      jn (α := (Unit) → Option (Int32 × Hp)) (fun t9 =>
        (f_X1_endLine s1.1 s1.2).bind fun v12 =>
        (if v12.1 = 0 then (
          (ckZ (0 : Int32)).bind fun z => some (z, v12.2))
        else (
          jn (α := (Unit) → Option (Int32 × Hp)) (fun t13 =>
            (if v4 = (61 : Int32) then (
              nm (sI v12.2 17 3 ((gI v12.2 17 3) + (1 : Int32))) fun h16 =>
              (ckZ (1 : Int32)).bind fun z => some (z, h16))
            else (
              j6 ((0 : Int32), v12.2)))) fun j14 =>
          (if v4 = (47 : Int32) then (
            (gO v12.2 17 4 (0, 6, 14)).bind fun y18 =>
            (if (gI v12.2 y18 1) = (3 : Int32) then (
              (ckZ (0 : Int32)).bind fun z => some (z, v12.2))
            else (
              j14 ())))
          else (
            j14 ()))))) fun j10 =>
      (if v4 = (47 : Int32) then (
        j10 ())
      else (
        (if v4 = (61 : Int32) then (
          j10 ())
        else (
          (gO s1.2 17 4 (0, 6, 14)).bind fun y22 =>
          (Option.bind (α := Int32) (
            (if (gI s1.2 y22 1) = 0 then (
              some (4 : Int32))
            else (
              (gO s1.2 17 4 (0, 6, 14)).bind fun y25 =>
              some (gI s1.2 y25 0)))) fun t23 =>
          (if t23 ≤ s1.1 then (
            (ckZ (0 : Int32)).bind fun z => some (z, s1.2))
          else (
            (f_X1_addCell v4 s1.2).bind fun v27 =>
            (if v27.1 = 0 then (
              (ckZ (0 : Int32)).bind fun z => some (z, v27.2))
            else (
              j6 ((s1.1 + 1), v27.2))))))))))))) F ((0 : Int32), h)
set_option maxRecDepth 100000 in
set_option maxHeartbeats 4000000 in
theorem S_X1_readCells (F : Nat)  (h : Hp) (r : (Int32 × Hp)) (hf : f_X1_readCells F h = some r) : MetP Y_X1_readCells 5 [.ref 17] h (some (.int r.1), r.2) := by
  unfold f_X1_readCells at hf
  refine met_of yo_X1_readCells (Nat.le_of_ble_eq_true rfl) ?_
  show Run Y_X1_readCells _ 0 [some (.ref 17), none, none] [] h
  refine r_iconst (v := 0) dX1_readCells_0 (by decide) ?_
  refine r_istore_nA dX1_readCells_1 (by decide) ?_
  refine r_fix (σ := Int32 × Hp) (fun s1 => [some (.ref 17), some (.int s1.1), none]) (fun s1 => s1.2) (fun self2 ih3 s1 hf => ?_) F ((0 : Int32), h) hf
  refine r_aload_n dX1_readCells_2 rfl ?_
  refine r_getI dX1_readCells_3 sh_17 ft_X1_27 rfl ?_
  refine r_aload_n dX1_readCells_6 rfl ?_
  refine r_getI dX1_readCells_7 sh_17 ft_X1_25 rfl ?_
  refine r_icmp_ge 131 dX1_readCells_10 (by decide) hf (fun c32 hf => ?_) (fun c32 hf => ?_)
  · refine r_iconst (v := 0) dX1_readCells_131 (by decide) ?_
    exact e_zH dX1_readCells_132 rfl hf
  · refine r_aload_n dX1_readCells_13 rfl ?_
    obtain ⟨v4, hv, hf⟩ := bnd hf
    refine r_callV (lv := 4) dX1_readCells_14 yo_X1_sign yi_X1_sign ml_X1_56 ya_X1_sign sh_17 ⟨_, rfl, rfl⟩ (Fits.vm (by decide)) rfl rfl (Nat.le_of_ble_eq_true rfl) (S_X1_sign  s1.2  _ hv) ?_
    refine r_istore_nA dX1_readCells_17 (by decide) ?_
    refine r_iload_n dX1_readCells_18 rfl ?_
    refine r_bipush (v := 47) dX1_readCells_19 (by decide) ?_
    refine r_jn (P := fun t5 => Run Y_X1_readCells (VM 5 (some (.int r.1), r.2)) 118 [some (.ref 17), some (.int t5.1), some (.int v4)] [] t5.2) hf (fun t5 hf => ?_) (fun j6 ih7 hf => ?_)
    · refine r_aload_n dX1_readCells_118 rfl ?_
      refine r_dup dX1_readCells_119 rfl ?_
      refine r_getI dX1_readCells_120 sh_17 ft_X1_27 rfl ?_
      refine r_iconst (v := 1) dX1_readCells_123 (by decide) ?_
      refine r_iadd dX1_readCells_124 ?_
      refine r_putI dX1_readCells_125 sh_17 ft_X1_27 rfl hf fun h8 hf => ?_
      refine r_goto 2 dX1_readCells_128 (by decide) ?_
      refine r_lt (ll_s (ll_s (ll_n ll_0))) ?_
      exact ih3 _ hf
    refine r_jn (P := fun t9 => Run Y_X1_readCells (VM 5 (some (.int r.1), r.2)) 71 [some (.ref 17), some (.int s1.1), some (.int v4)] [] s1.2) hf (fun t9 hf => ?_) (fun j10 ih11 hf => ?_)
    · refine r_aload_n dX1_readCells_71 rfl ?_
      refine r_iload_n dX1_readCells_72 rfl ?_
      obtain ⟨v12, hv, hf⟩ := bnd hf
      refine r_callV (lv := 1) dX1_readCells_73 yo_X1_endLine yi_X1_endLine ml_X1_70 ya_X1_endLine sh_17 ⟨_, rfl, rfl⟩ (Fits.vm (by decide)) rfl rfl (Nat.le_of_ble_eq_true rfl) (S_X1_endLine s1.1 s1.2  _ hv) ?_
      refine r_if_eq 96 dX1_readCells_76 (by decide) hf (fun c21 hf => ?_) (fun c21 hf => ?_)
      · refine r_iconst (v := 0) dX1_readCells_96 (by decide) ?_
        exact e_zH dX1_readCells_97 rfl hf
      · refine r_iload_n dX1_readCells_79 rfl ?_
        refine r_bipush (v := 47) dX1_readCells_80 (by decide) ?_
        refine r_jn (P := fun t13 => Run Y_X1_readCells (VM 5 (some (.int r.1), r.2)) 98 [some (.ref 17), some (.int s1.1), some (.int v4)] [] v12.2) hf (fun t13 hf => ?_) (fun j14 ih15 hf => ?_)
        · refine r_iconst (v := 0) dX1_readCells_98 (by decide) ?_
          refine r_istore_nA dX1_readCells_99 (by decide) ?_
          refine r_iload_n dX1_readCells_100 rfl ?_
          refine r_bipush (v := 61) dX1_readCells_101 (by decide) ?_
          refine r_icmp_ne 118 dX1_readCells_103 (by decide) hf (fun c17 hf => ?_) (fun c17 hf => ?_)
          · exact ih7 _ hf
          · refine r_aload_n dX1_readCells_106 rfl ?_
            refine r_dup dX1_readCells_107 rfl ?_
            refine r_getI dX1_readCells_108 sh_17 ft_X1_27 rfl ?_
            refine r_iconst (v := 1) dX1_readCells_111 (by decide) ?_
            refine r_iadd dX1_readCells_112 ?_
            refine r_putI dX1_readCells_113 sh_17 ft_X1_27 rfl hf fun h16 hf => ?_
            refine r_iconst (v := 1) dX1_readCells_116 (by decide) ?_
            exact e_zH dX1_readCells_117 rfl hf
        refine r_icmp_ne 98 dX1_readCells_82 (by decide) hf (fun c20 hf => ?_) (fun c20 hf => ?_)
        · exact ih15 _ hf
        · refine r_aload_n dX1_readCells_85 rfl ?_
          refine r_getR (E := (0, 6, 14)) dX1_readCells_86 sh_17 ft_X1_30 rfl hf fun y18 hy18 hf => ?_
          refine r_getI dX1_readCells_89 hy18 ft_X1_60 rfl ?_
          refine r_iconst (v := 3) dX1_readCells_92 (by decide) ?_
          refine r_icmp_ne 98 dX1_readCells_93 (by decide) hf (fun c19 hf => ?_) (fun c19 hf => ?_)
          · exact ih15 _ hf
          · refine r_iconst (v := 0) dX1_readCells_96 (by decide) ?_
            exact e_zH dX1_readCells_97 rfl hf
    refine r_icmp_eq 71 dX1_readCells_21 (by decide) hf (fun c31 hf => ?_) (fun c31 hf => ?_)
    · exact ih11 _ hf
    · refine r_iload_n dX1_readCells_24 rfl ?_
      refine r_bipush (v := 61) dX1_readCells_25 (by decide) ?_
      refine r_icmp_eq 71 dX1_readCells_27 (by decide) hf (fun c30 hf => ?_) (fun c30 hf => ?_)
      · exact ih11 _ hf
      · refine r_iload_n dX1_readCells_30 rfl ?_
        refine r_aload_n dX1_readCells_31 rfl ?_
        refine r_getR (E := (0, 6, 14)) dX1_readCells_32 sh_17 ft_X1_30 rfl hf fun y22 hy22 hf => ?_
        refine r_getI dX1_readCells_35 hy22 ft_X1_60 rfl ?_
        refine r_reg (P := fun t23 => Run Y_X1_readCells (VM 5 (some (.int r.1), r.2)) 52 [some (.ref 17), some (.int s1.1), some (.int v4)] [.int t23, .int s1.1] s1.2) hf (fun t23 hf => ?_) (fun t23 key24 hf => ?_)
        · refine r_icmp_ge 63 dX1_readCells_52 (by decide) hf (fun c29 hf => ?_) (fun c29 hf => ?_)
          · refine r_iconst (v := 0) dX1_readCells_63 (by decide) ?_
            exact e_zH dX1_readCells_64 rfl hf
          · refine r_aload_n dX1_readCells_55 rfl ?_
            refine r_iload_n dX1_readCells_56 rfl ?_
            obtain ⟨v27, hv, hf⟩ := bnd hf
            refine r_callV (lv := 2) dX1_readCells_57 yo_X1_addCell yi_X1_addCell ml_X1_66 ya_X1_addCell sh_17 ⟨_, rfl, rfl⟩ (Fits.vm (by decide)) rfl rfl (Nat.le_of_ble_eq_true rfl) (S_X1_addCell v4 s1.2  _ hv) ?_
            refine r_if_ne 65 dX1_readCells_60 (by decide) hf (fun c28 hf => ?_) (fun c28 hf => ?_)
            · refine r_iincA (v := 1) dX1_readCells_65 rfl (by decide) (by decide) ?_
              refine r_goto 118 dX1_readCells_68 (by decide) ?_
              exact ih7 _ hf
            · refine r_iconst (v := 0) dX1_readCells_63 (by decide) ?_
              exact e_zH dX1_readCells_64 rfl hf
        · refine r_if_ne 45 dX1_readCells_38 (by decide) hf (fun c26 hf => ?_) (fun c26 hf => ?_)
          · refine r_aload_n dX1_readCells_45 rfl ?_
            refine r_getR (E := (0, 6, 14)) dX1_readCells_46 sh_17 ft_X1_30 rfl hf fun y25 hy25 hf => ?_
            refine r_getI dX1_readCells_49 hy25 ft_X1_63 rfl ?_
            cases hf; exact key24
          · refine r_iconst (v := 4) dX1_readCells_41 (by decide) ?_
            refine r_goto 52 dX1_readCells_42 (by decide) ?_
            cases hf; exact key24
