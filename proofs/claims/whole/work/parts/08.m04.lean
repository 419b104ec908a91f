def f_X3_finds (F : Nat) (x1_ : Int32) (h : Hp) : Option (Int32 × Hp) :=
  fix (σ := Hp) (ρ := (Int32 × Hp)) (fun self2 s1 =>
    jn (α := (Unit) → Option (Int32 × Hp)) (fun t4 =>
      (Option.bind (α := Int32) (
        (if x1_ < 0 then (
          some (0 : Int32))
        else (
          (if (gI s1 23 6) ≤ x1_ then (
            some (0 : Int32))
          else (
            some (1 : Int32)))))) fun t7 =>
      (ckZ t7).bind fun z => some (z, s1))) fun j5 =>
    (if x1_ < (gI s1 23 6) then (
      j5 ())
    else (
      (if (gI s1 23 6) ≤ (gI s1 23 5) then (
        j5 ())
      else (
        (if (11880 : Int32) ≤ (gI s1 23 5) then (
          j5 ())
        else (
          (f_X3_expand F (gI s1 23 5) s1).bind fun h11 =>
          nm (sI h11 23 5 ((gI h11 23 5) + (1 : Int32))) fun h12 =>
          self2 h12))))))) F h
set_option maxRecDepth 100000 in
set_option maxHeartbeats 4000000 in
theorem S_X3_finds (F : Nat) (x1_ : Int32) (h : Hp) (r : (Int32 × Hp)) (hf : f_X3_finds F x1_ h = some r) : MetP Y_X3_finds 5 [.ref 23, .int x1_] h (some (.int r.1), r.2) := by
  unfold f_X3_finds at hf
  refine met_of yo_X3_finds (Nat.le_of_ble_eq_true rfl) ?_
  show Run Y_X3_finds _ 0 [some (.ref 23), some (.int x1_)] [] h
  refine r_fix (σ := Hp) (fun s1 => [some (.ref 23), some (.int x1_)]) (fun s1 => s1) (fun self2 ih3 s1 hf => ?_) F h hf
  refine r_aload_n dX3_finds_0 rfl ?_
  refine r_getI dX3_finds_1 sh_23 ft_X3_42 rfl ?_
  refine r_iload_n dX3_finds_4 rfl ?_
  refine r_jn (P := fun t4 => Run Y_X3_finds (VM 5 (some (.int r.1), r.2)) 50 [some (.ref 23), some (.int x1_)] [] s1) hf (fun t4 hf => ?_) (fun j5 ih6 hf => ?_)
  · refine r_iload_n dX3_finds_50 rfl ?_
    refine r_reg (P := fun t7 => Run Y_X3_finds (VM 5 (some (.int r.1), r.2)) 67 [some (.ref 23), some (.int x1_)] [.int t7] s1) hf (fun t7 hf => ?_) (fun t7 key8 hf => ?_)
    · exact e_zH dX3_finds_67 rfl hf
    · refine r_if_lt 66 dX3_finds_51 (by decide) hf (fun c10 hf => ?_) (fun c10 hf => ?_)
      · refine r_iconst (v := 0) dX3_finds_66 (by decide) ?_
        cases hf; exact key8
      · refine r_iload_n dX3_finds_54 rfl ?_
        refine r_aload_n dX3_finds_55 rfl ?_
        refine r_getI dX3_finds_56 sh_23 ft_X3_42 rfl ?_
        refine r_icmp_ge 66 dX3_finds_59 (by decide) hf (fun c9 hf => ?_) (fun c9 hf => ?_)
        · refine r_iconst (v := 0) dX3_finds_66 (by decide) ?_
          cases hf; exact key8
        · refine r_iconst (v := 1) dX3_finds_62 (by decide) ?_
          refine r_goto 67 dX3_finds_63 (by decide) ?_
          cases hf; exact key8
  refine r_icmp_gt 50 dX3_finds_5 (by decide) hf (fun c15 hf => ?_) (fun c15 hf => ?_)
  · exact ih6 _ hf
  · refine r_aload_n dX3_finds_8 rfl ?_
    refine r_getI dX3_finds_9 sh_23 ft_X3_54 rfl ?_
    refine r_aload_n dX3_finds_12 rfl ?_
    refine r_getI dX3_finds_13 sh_23 ft_X3_42 rfl ?_
    refine r_icmp_ge 50 dX3_finds_16 (by decide) hf (fun c14 hf => ?_) (fun c14 hf => ?_)
    · exact ih6 _ hf
    · refine r_aload_n dX3_finds_19 rfl ?_
      refine r_getI dX3_finds_20 sh_23 ft_X3_54 rfl ?_
      refine r_sipush (v := 11880) dX3_finds_23 (by decide) ?_
      refine r_icmp_ge 50 dX3_finds_26 (by decide) hf (fun c13 hf => ?_) (fun c13 hf => ?_)
      · exact ih6 _ hf
      · refine r_aload_n dX3_finds_29 rfl ?_
        refine r_aload_n dX3_finds_30 rfl ?_
        refine r_getI dX3_finds_31 sh_23 ft_X3_54 rfl ?_
        obtain ⟨h11, hv, hf⟩ := bnd hf
        refine r_callV (lv := 4) dX3_finds_34 yo_X3_expand yi_X3_expand ml_X3_61 ya_X3_expand sh_23 ⟨_, rfl, rfl⟩ (Fits.vm (by decide)) rfl rfl (Nat.le_of_ble_eq_true rfl) (S_X3_expand F (gI s1 23 5) s1  _ hv) ?_
        refine r_aload_n dX3_finds_37 rfl ?_
        refine r_dup dX3_finds_38 rfl ?_
        refine r_getI dX3_finds_39 sh_23 ft_X3_54 rfl ?_
        refine r_iconst (v := 1) dX3_finds_42 (by decide) ?_
        refine r_iadd dX3_finds_43 ?_
        refine r_putI dX3_finds_44 sh_23 ft_X3_54 rfl hf fun h12 hf => ?_
        refine r_goto 0 dX3_finds_47 (by decide) ?_
        exact ih3 _ hf
def f_X3_stand (x1_ : Int32) (h : Hp) : Option Int32 :=
  (Option.bind (α := Int32) (
    (if x1_ < 0 then (
      some (-9 : Int32))
    else (
      (if (gI h 23 6) ≤ x1_ then (
        some (-9 : Int32))
      else (
        (ldI h 24 x1_).bind fun v3 =>
        some v3))))) fun t1 =>
  some t1)
set_option maxRecDepth 100000 in
set_option maxHeartbeats 4000000 in
theorem S_X3_stand (x1_ : Int32) (h : Hp) (r : Int32) (hf : f_X3_stand x1_ h = some r) : MetP Y_X3_stand 1 [.ref 23, .int x1_] h (some (.int r), h) := by
  unfold f_X3_stand at hf
  refine met_of yo_X3_stand (Nat.le_of_ble_eq_true rfl) ?_
  show Run Y_X3_stand _ 0 [some (.ref 23), some (.int x1_)] [] h
  refine r_iload_n dX3_stand_0 rfl ?_
  refine r_reg (P := fun t1 => Run Y_X3_stand (VM 1 (some (.int r), h)) 23 [some (.ref 23), some (.int x1_)] [.int t1] h) hf (fun t1 hf => ?_) (fun t1 key2 hf => ?_)
  · exact e_iP dX3_stand_23 rfl hf
  · refine r_if_lt 21 dX3_stand_1 (by decide) hf (fun c5 hf => ?_) (fun c5 hf => ?_)
    · refine r_bipush (v := -9) dX3_stand_21 (by decide) ?_
      cases hf; exact key2
    · refine r_iload_n dX3_stand_4 rfl ?_
      refine r_aload_n dX3_stand_5 rfl ?_
      refine r_getI dX3_stand_6 sh_23 ft_X3_42 rfl ?_
      refine r_icmp_ge 21 dX3_stand_9 (by decide) hf (fun c4 hf => ?_) (fun c4 hf => ?_)
      · refine r_bipush (v := -9) dX3_stand_21 (by decide) ?_
        cases hf; exact key2
      · refine r_aload_n dX3_stand_12 rfl ?_
        refine r_getS (b := 24) dX3_stand_13 sh_23 ft_X3_9 rfl rfl ?_
        refine r_iload_n dX3_stand_16 rfl ?_
        refine r_iald dX3_stand_17 sh_24 hf fun v3 hf => ?_
        refine r_goto 23 dX3_stand_18 (by decide) ?_
        cases hf; exact key2
def f_X3_depth (x1_ : Int32) (h : Hp) : Option Int32 :=
  (Option.bind (α := Int32) (
    (if x1_ < 0 then (
      some (-9 : Int32))
    else (
      (if (gI h 23 6) ≤ x1_ then (
        some (-9 : Int32))
      else (
        (ldI h 25 x1_).bind fun v3 =>
        some v3))))) fun t1 =>
  some t1)
set_option maxRecDepth 100000 in
set_option maxHeartbeats 4000000 in
theorem S_X3_depth (x1_ : Int32) (h : Hp) (r : Int32) (hf : f_X3_depth x1_ h = some r) : MetP Y_X3_depth 1 [.ref 23, .int x1_] h (some (.int r), h) := by
  unfold f_X3_depth at hf
  refine met_of yo_X3_depth (Nat.le_of_ble_eq_true rfl) ?_
  show Run Y_X3_depth _ 0 [some (.ref 23), some (.int x1_)] [] h
  refine r_iload_n dX3_depth_0 rfl ?_
  refine r_reg (P := fun t1 => Run Y_X3_depth (VM 1 (some (.int r), h)) 23 [some (.ref 23), some (.int x1_)] [.int t1] h) hf (fun t1 hf => ?_) (fun t1 key2 hf => ?_)
  · exact e_iP dX3_depth_23 rfl hf
  · refine r_if_lt 21 dX3_depth_1 (by decide) hf (fun c5 hf => ?_) (fun c5 hf => ?_)
    · refine r_bipush (v := -9) dX3_depth_21 (by decide) ?_
      cases hf; exact key2
    · refine r_iload_n dX3_depth_4 rfl ?_
      refine r_aload_n dX3_depth_5 rfl ?_
      refine r_getI dX3_depth_6 sh_23 ft_X3_42 rfl ?_
      refine r_icmp_ge 21 dX3_depth_9 (by decide) hf (fun c4 hf => ?_) (fun c4 hf => ?_)
      · refine r_bipush (v := -9) dX3_depth_21 (by decide) ?_
        cases hf; exact key2
      · refine r_aload_n dX3_depth_12 rfl ?_
        refine r_getS (b := 25) dX3_depth_13 sh_23 ft_X3_15 rfl rfl ?_
        refine r_iload_n dX3_depth_16 rfl ?_
        refine r_iald dX3_depth_17 sh_25 hf fun v3 hf => ?_
        refine r_goto 23 dX3_depth_18 (by decide) ?_
        cases hf; exact key2
def f_X4_set (a0 : Nat) (x1_ : Int32) (x2_ : Int32) (x3_ : Int32) (h : Hp) : Option Hp :=
  (f_X4_has a0 x1_ x2_ (1 : Int32) h).bind fun v1 =>
  (Option.bind (α := Hp) (
    (if v1 = 0 then (
      some h)
    else (
      (ldR (rf a0 0) x1_).bind fun b4 =>
      (stI h b4 x2_ x3_).bind fun h5 =>
      some h5))) fun t2 =>
  some t2)
set_option maxRecDepth 100000 in
set_option maxHeartbeats 4000000 in
theorem S_X4_set (a0 : Nat) (x1_ : Int32) (x2_ : Int32) (x3_ : Int32) (k0 : sh a0 = (0, 4, 2)) (h : Hp) (r : Hp) (hf : f_X4_set a0 x1_ x2_ x3_ h = some r) : MetP Y_X4_set 3 [.ref a0, .int x1_, .int x2_, .int x3_] h (none, r) := by
  unfold f_X4_set at hf
  refine met_of yo_X4_set (Nat.le_of_ble_eq_true rfl) ?_
  show Run Y_X4_set _ 0 [some (.ref a0), some (.int x1_), some (.int x2_), some (.int x3_)] [] h
  refine r_aload_n dX4_set_0 rfl ?_
  refine r_iload_n dX4_set_1 rfl ?_
  refine r_iload_n dX4_set_2 rfl ?_
  refine r_iconst (v := 1) dX4_set_3 (by decide) ?_
  obtain ⟨v1, hv, hf⟩ := bnd hf
  refine r_callV (lv := 2) dX4_set_4 yo_X4_has yi_X4_has ml_X4_33 ya_X4_has k0 ⟨_, rfl, rfl⟩ (Fits.vm (by decide)) rfl rfl (Nat.le_of_ble_eq_true rfl) (S_X4_has a0 x1_ x2_ (1 : Int32) k0 h  _ hv) ?_
  refine r_reg (P := fun t2 => Run Y_X4_set (VM 3 (none, r)) 19 [some (.ref a0), some (.int x1_), some (.int x2_), some (.int x3_)] [] t2) hf (fun t2 hf => ?_) (fun t2 key3 hf => ?_)
  · exact e_vH dX4_set_19 rfl hf
  · refine r_if_eq 19 dX4_set_7 (by decide) hf (fun c6 hf => ?_) (fun c6 hf => ?_)
    · cases hf; exact key3
    · refine r_aload_n dX4_set_10 rfl ?_
      refine r_getS (b := rf a0 0) dX4_set_11 k0 ft_X4_11 rfl rfl ?_
      refine r_iload_n dX4_set_14 rfl ?_
      refine r_aald (E := (1, 0, 40)) dX4_set_15 (sf_4_0 k0) (Or.inl rfl) (se_pl k0) hf fun b4 hb4 hf => ?_
      refine r_iload_n dX4_set_16 rfl ?_
      refine r_iload_n dX4_set_17 rfl ?_
      refine r_iast dX4_set_18 hb4 hf fun h5 hf => ?_
      cases hf; exact key3
def f_X3_trace (F : Nat) (x1_ : Int32) (a2 : Nat) (x3_ : Int32) (h : Hp) : Option (Int32 × Hp) :=
  (f_X3_depth x1_ h).bind fun v1 =>
  fix (σ := Int32 × Int32 × Int32 × Hp) (ρ := (Int32 × Hp)) (fun self3 s2 =>
    (if s2.2.2.1 < 0 then (
      some (s2.1, s2.2.2.2))
    else (
      (ldI s2.2.2.2 27 s2.2.1).bind fun v5 =>
      (f_X4_set a2 x3_ s2.2.2.1 v5 s2.2.2.2).bind fun h6 =>
      (ldI h6 26 s2.2.1).bind fun v7 =>
      self3 (v5, v7, (s2.2.2.1 + (-1)), h6)))) F ((-9 : Int32), x1_, (v1 - (1 : Int32)), h)
set_option maxRecDepth 100000 in
set_option maxHeartbeats 4000000 in
theorem S_X3_trace (F : Nat) (x1_ : Int32) (a2 : Nat) (x3_ : Int32) (k2 : sh a2 = (0, 4, 2)) (h : Hp) (r : (Int32 × Hp)) (hf : f_X3_trace F x1_ a2 x3_ h = some r) : MetP Y_X3_trace 4 [.ref 23, .int x1_, .ref a2, .int x3_] h (some (.int r.1), r.2) := by
  unfold f_X3_trace at hf
  refine met_of yo_X3_trace (Nat.le_of_ble_eq_true rfl) ?_
  show Run Y_X3_trace _ 0 [some (.ref 23), some (.int x1_), some (.ref a2), some (.int x3_), none, none, none] [] h
  refine r_bipush (v := -9) dX3_trace_0 (by decide) ?_
  refine r_istoreA dX3_trace_2 (by decide) ?_
  refine r_iload_n dX3_trace_4 rfl ?_
  refine r_istoreA dX3_trace_5 (by decide) ?_
  refine r_aload_n dX3_trace_7 rfl ?_
  refine r_iload_n dX3_trace_8 rfl ?_
  obtain ⟨v1, hv, hf⟩ := bnd hf
  refine r_callV (lv := 1) dX3_trace_9 yo_X3_depth yi_X3_depth ml_X3_65 ya_X3_depth sh_23 ⟨_, rfl, rfl⟩ (Fits.vm (by decide)) rfl rfl (Nat.le_of_ble_eq_true rfl) (S_X3_depth x1_ h  _ hv) ?_
  refine r_iconst (v := 1) dX3_trace_12 (by decide) ?_
  refine r_isub dX3_trace_13 ?_
  refine r_istoreA dX3_trace_14 (by decide) ?_
  refine r_fix (σ := Int32 × Int32 × Int32 × Hp) (fun s2 => [some (.ref 23), some (.int x1_), some (.ref a2), some (.int x3_), some (.int s2.1), some (.int s2.2.1), some (.int s2.2.2.1)]) (fun s2 => s2.2.2.2) (fun self3 ih4 s2 hf => ?_) F ((-9 : Int32), x1_, (v1 - (1 : Int32)), h) hf
  refine r_iload dX3_trace_16 rfl ?_
  refine r_if_lt 54 dX3_trace_18 (by decide) hf (fun c8 hf => ?_) (fun c8 hf => ?_)
  · refine r_iload dX3_trace_54 rfl ?_
    exact e_iH dX3_trace_56 rfl hf
  · refine r_aload_n dX3_trace_21 rfl ?_
    refine r_getS (b := 27) dX3_trace_22 sh_23 ft_X3_21 rfl rfl ?_
    refine r_iload dX3_trace_25 rfl ?_
    refine r_iald dX3_trace_27 sh_27 hf fun v5 hf => ?_
    refine r_istoreA dX3_trace_28 (by decide) ?_
    refine r_aload_n dX3_trace_30 rfl ?_
    refine r_iload_n dX3_trace_31 rfl ?_
    refine r_iload dX3_trace_32 rfl ?_
    refine r_iload dX3_trace_34 rfl ?_
    obtain ⟨h6, hv, hf⟩ := bnd hf
    refine r_callV (lv := 3) dX3_trace_36 yo_X4_set yi_X4_set ml_X3_69 ya_X4_set k2 ⟨_, rfl, rfl⟩ (Fits.vm (by decide)) rfl rfl (Nat.le_of_ble_eq_true rfl) (S_X4_set a2 x3_ s2.2.2.1 v5 k2 s2.2.2.2  _ hv) ?_
    refine r_aload_n dX3_trace_39 rfl ?_
    refine r_getS (b := 26) dX3_trace_40 sh_23 ft_X3_18 rfl rfl ?_
    refine r_iload dX3_trace_43 rfl ?_
    refine r_iald dX3_trace_45 sh_26 hf fun v7 hf => ?_
    refine r_istoreA dX3_trace_46 (by decide) ?_
    refine r_iincA (v := -1) dX3_trace_48 rfl (by decide) (by decide) ?_
    refine r_goto 16 dX3_trace_51 (by decide) ?_
    exact ih4 _ hf
def f_X3_nearest (F : Nat) (x1_ : Int32) (x2_ : Int32) (x3_ : Int32) (h : Hp) : Option (Int32 × Hp) :=
  (f_X3_begin F x1_ h).bind fun h1 =>
  fix (σ := Int32 × Int32 × Hp) (ρ := (Int32 × Hp)) (fun self3 s2 =>
    (if (11880 : Int32) ≤ s2.2.1 then (
      some (s2.1, s2.2.2))
    else (
      (f_X3_finds F s2.2.1 s2.2.2).bind fun v5 =>
      (if v5.1 = 0 then (
        some (s2.1, v5.2))
      else (
        jn (α := (Unit) → Option (Int32 × Hp)) (fun t6 =>
          (ldI v5.2 24 s2.2.1).bind fun v9 =>
          (ldT 0 x2_).bind fun v10 =>
          (dvI v9 v10).bind fun v11 =>
          (Option.bind (α := Int32) (
            (if (rem32 v11 (12 : Int32)) = x3_ then (
              some (1 : Int32))
            else (
              some (0 : Int32)))) fun t12 =>
          (Option.bind (α := Int32) (
            (if t12 = 0 then (
              some s2.1)
            else (
              (if s2.1 = (-9 : Int32) then (
                some s2.2.1)
              else (
                (ldI v5.2 24 s2.2.1).bind fun v17 =>
                (ldI v5.2 24 s2.1).bind fun v18 =>
                (if v18 ≤ v17 then (
                  some s2.1)
                else (
                  some s2.2.1))))))) fun t15 =>
          self3 (t15, (s2.2.1 + 1), v5.2)))) fun j7 =>
        (if s2.1 = (-9 : Int32) then (
          j7 ())
        else (
          (ldI v5.2 25 s2.2.1).bind fun v22 =>
          (ldI v5.2 25 s2.1).bind fun v23 =>
          (if v22 ≤ v23 then (
            j7 ())
          else (
            some (s2.1, v5.2)))))))))) F ((-9 : Int32), (0 : Int32), h1)
set_option maxRecDepth 100000 in
set_option maxHeartbeats 4000000 in
theorem S_X3_nearest (F : Nat) (x1_ : Int32) (x2_ : Int32) (x3_ : Int32) (h : Hp) (r : (Int32 × Hp)) (hf : f_X3_nearest F x1_ x2_ x3_ h = some r) : MetP Y_X3_nearest 6 [.ref 23, .int x1_, .int x2_, .int x3_] h (some (.int r.1), r.2) := by
  unfold f_X3_nearest at hf
  refine met_of yo_X3_nearest (Nat.le_of_ble_eq_true rfl) ?_
  show Run Y_X3_nearest _ 0 [some (.ref 23), some (.int x1_), some (.int x2_), some (.int x3_), none, none, none] [] h
  refine r_aload_n dX3_nearest_0 rfl ?_
  refine r_iload_n dX3_nearest_1 rfl ?_
  obtain ⟨h1, hv, hf⟩ := bnd hf
  refine r_callV (lv := 2) dX3_nearest_2 yo_X3_begin yi_X3_begin ml_X3_75 ya_X3_begin sh_23 ⟨_, rfl, rfl⟩ (Fits.vm (by decide)) rfl rfl (Nat.le_of_ble_eq_true rfl) (S_X3_begin F x1_ h  _ hv) ?_
  refine r_bipush (v := -9) dX3_nearest_5 (by decide) ?_
  refine r_istoreA dX3_nearest_7 (by decide) ?_
  refine r_iconst (v := 0) dX3_nearest_9 (by decide) ?_
  refine r_istoreA dX3_nearest_10 (by decide) ?_
  refine r_fix (σ := Int32 × Int32 × Hp) (fun s2 => [some (.ref 23), some (.int x1_), some (.int x2_), some (.int x3_), some (.int s2.1), some (.int s2.2.1), none]) (fun s2 => s2.2.2) (fun self3 ih4 s2 hf => ?_) F ((-9 : Int32), (0 : Int32), h1) hf
  refine r_iload dX3_nearest_12 rfl ?_
  refine r_sipush (v := 11880) dX3_nearest_14 (by decide) ?_
  refine r_icmp_ge 122 dX3_nearest_17 (by decide) hf (fun c27 hf => ?_) (fun c27 hf => ?_)
  · refine r_iload dX3_nearest_122 rfl ?_
    exact e_iH dX3_nearest_124 rfl hf
  · refine r_aload_n dX3_nearest_20 rfl ?_
    refine r_iload dX3_nearest_21 rfl ?_
    obtain ⟨v5, hv, hf⟩ := bnd hf
    refine r_callV (lv := 5) dX3_nearest_23 yo_X3_finds yi_X3_finds ml_X3_78 ya_X3_finds sh_23 ⟨_, rfl, rfl⟩ (Fits.vm (by decide)) rfl rfl (Nat.le_of_ble_eq_true rfl) (S_X3_finds F s2.2.1 s2.2.2  _ hv) ?_
    refine r_if_eq 122 dX3_nearest_26 (by decide) hf (fun c26 hf => ?_) (fun c26 hf => ?_)
    · refine r_iload dX3_nearest_122 rfl ?_
      exact e_iH dX3_nearest_124 rfl hf
    · refine r_iload dX3_nearest_29 rfl ?_
      refine r_bipush (v := -9) dX3_nearest_31 (by decide) ?_
      refine r_jn (P := fun t6 => Run Y_X3_nearest (VM 6 (some (.int r.1), r.2)) 56 [some (.ref 23), some (.int x1_), some (.int x2_), some (.int x3_), some (.int s2.1), some (.int s2.2.1), none] [] v5.2) hf (fun t6 hf => ?_) (fun j7 ih8 hf => ?_)
      · refine r_aload_n dX3_nearest_56 rfl ?_
        refine r_getS (b := 24) dX3_nearest_57 sh_23 ft_X3_9 rfl rfl ?_
        refine r_iload dX3_nearest_60 rfl ?_
        refine r_iald dX3_nearest_62 sh_24 hf fun v9 hf => ?_
        refine r_getsN 0 (by decide) dX3_nearest_63 (by decide +kernel) ?_
        refine r_iload_n dX3_nearest_66 rfl ?_
        refine r_tald (by decide) dX3_nearest_67 hf fun v10 hf => ?_
        refine r_idiv dX3_nearest_68 hf fun v11 hf => ?_
        refine r_bipush (v := 12) dX3_nearest_69 (by decide) ?_
        refine r_iremK dX3_nearest_71 (by decide) ?_
        refine r_iload_n dX3_nearest_72 rfl ?_
        refine r_reg (P := fun t12 => Run Y_X3_nearest (VM 6 (some (.int r.1), r.2)) 81 [some (.ref 23), some (.int x1_), some (.int x2_), some (.int x3_), some (.int s2.1), some (.int s2.2.1), none] [.int t12] v5.2) hf (fun t12 hf => ?_) (fun t12 key13 hf => ?_)
        · refine r_istoreA dX3_nearest_81 (by decide) ?_
          refine r_iload dX3_nearest_83 rfl ?_
          refine r_reg (P := fun t15 => Run Y_X3_nearest (VM 6 (some (.int r.1), r.2)) 116 [some (.ref 23), some (.int x1_), some (.int x2_), some (.int x3_), some (.int t15), some (.int s2.2.1), some (.int t12)] [] v5.2) hf (fun t15 hf => ?_) (fun t15 key16 hf => ?_)
          · refine r_iincA (v := 1) dX3_nearest_116 rfl (by decide) (by decide) ?_
            refine r_goto 12 dX3_nearest_119 (by decide) ?_
            refine r_lt (ll_s (ll_s (ll_s (ll_s (ll_s (ll_s (ll_n ll_0))))))) ?_
            exact ih4 _ hf
          · refine r_if_eq 116 dX3_nearest_85 (by decide) hf (fun c21 hf => ?_) (fun c21 hf => ?_)
            · cases hf; exact key16
            · refine r_iload dX3_nearest_88 rfl ?_
              refine r_bipush (v := -9) dX3_nearest_90 (by decide) ?_
              refine r_icmp_eq 112 dX3_nearest_92 (by decide) hf (fun c20 hf => ?_) (fun c20 hf => ?_)
              · refine r_iload dX3_nearest_112 rfl ?_
                refine r_istoreA dX3_nearest_114 (by decide) ?_
                cases hf; exact key16
              · refine r_aload_n dX3_nearest_95 rfl ?_
                refine r_getS (b := 24) dX3_nearest_96 sh_23 ft_X3_9 rfl rfl ?_
                refine r_iload dX3_nearest_99 rfl ?_
                refine r_iald dX3_nearest_101 sh_24 hf fun v17 hf => ?_
                refine r_aload_n dX3_nearest_102 rfl ?_
                refine r_getS (b := 24) dX3_nearest_103 sh_23 ft_X3_9 rfl rfl ?_
                refine r_iload dX3_nearest_106 rfl ?_
                refine r_iald dX3_nearest_108 sh_24 hf fun v18 hf => ?_
                refine r_icmp_ge 116 dX3_nearest_109 (by decide) hf (fun c19 hf => ?_) (fun c19 hf => ?_)
                · cases hf; exact key16
                · refine r_iload dX3_nearest_112 rfl ?_
                  refine r_istoreA dX3_nearest_114 (by decide) ?_
                  cases hf; exact key16
        · refine r_icmp_ne 80 dX3_nearest_73 (by decide) hf (fun c14 hf => ?_) (fun c14 hf => ?_)
          · refine r_iconst (v := 0) dX3_nearest_80 (by decide) ?_
            cases hf; exact key13
          · refine r_iconst (v := 1) dX3_nearest_76 (by decide) ?_
            refine r_goto 81 dX3_nearest_77 (by decide) ?_
            cases hf; exact key13
      refine r_icmp_eq 56 dX3_nearest_33 (by decide) hf (fun c25 hf => ?_) (fun c25 hf => ?_)
      · exact ih8 _ hf
      · refine r_aload_n dX3_nearest_36 rfl ?_
        refine r_getS (b := 25) dX3_nearest_37 sh_23 ft_X3_15 rfl rfl ?_
        refine r_iload dX3_nearest_40 rfl ?_
        refine r_iald dX3_nearest_42 sh_25 hf fun v22 hf => ?_
        refine r_aload_n dX3_nearest_43 rfl ?_
        refine r_getS (b := 25) dX3_nearest_44 sh_23 ft_X3_15 rfl rfl ?_
        refine r_iload dX3_nearest_47 rfl ?_
        refine r_iald dX3_nearest_49 sh_25 hf fun v23 hf => ?_
        refine r_icmp_le 56 dX3_nearest_50 (by decide) hf (fun c24 hf => ?_) (fun c24 hf => ?_)
        · exact ih8 _ hf
        · refine r_goto 122 dX3_nearest_53 (by decide) ?_
          refine r_iload dX3_nearest_122 rfl ?_
          exact e_iH dX3_nearest_124 rfl hf
def f_X4_make (F : Nat) (a0 : Nat) (x1_ : Int32) (x2_ : Int32) (x3_ : Int32) (h : Hp) : Option Hp :=
  (f_X4_knows a0 x1_ h).bind fun v1 =>
  (Option.bind (α := Hp) (
    (if v1 = 0 then (
      some h)
    else (
      (if x2_ < 0 then (
        some h)
      else (
        (if (40 : Int32) < x2_ then (
          some h)
        else (
          (stI h (rf a0 1) x1_ x2_).bind fun h4 =>
          (ldR (rf a0 0) x1_).bind fun b5 =>
          (f_J7_fill_53178 F b5 x3_ h4).bind fun h6 =>
          some h6))))))) fun t2 =>
  some t2)
set_option maxRecDepth 100000 in
set_option maxHeartbeats 4000000 in
theorem S_X4_make (F : Nat) (a0 : Nat) (x1_ : Int32) (x2_ : Int32) (x3_ : Int32) (k0 : sh a0 = (0, 4, 2)) (h : Hp) (r : Hp) (hf : f_X4_make F a0 x1_ x2_ x3_ h = some r) : MetP Y_X4_make 2 [.ref a0, .int x1_, .int x2_, .int x3_] h (none, r) := by
  unfold f_X4_make at hf
  refine met_of yo_X4_make (Nat.le_of_ble_eq_true rfl) ?_
  show Run Y_X4_make _ 0 [some (.ref a0), some (.int x1_), some (.int x2_), some (.int x3_)] [] h
  refine r_aload_n dX4_make_0 rfl ?_
  refine r_iload_n dX4_make_1 rfl ?_
  obtain ⟨v1, hv, hf⟩ := bnd hf
  refine r_callV (lv := 1) dX4_make_2 yo_X4_knows yi_X4_knows ml_X4_30 ya_X4_knows k0 ⟨_, rfl, rfl⟩ (Fits.vm (by decide)) rfl rfl (Nat.le_of_ble_eq_true rfl) (S_X4_knows a0 x1_ k0 h  _ hv) ?_
  refine r_reg (P := fun t2 => Run Y_X4_make (VM 2 (none, r)) 35 [some (.ref a0), some (.int x1_), some (.int x2_), some (.int x3_)] [] t2) hf (fun t2 hf => ?_) (fun t2 key3 hf => ?_)
  · exact e_vH dX4_make_35 rfl hf
  · refine r_if_eq 35 dX4_make_5 (by decide) hf (fun c9 hf => ?_) (fun c9 hf => ?_)
    · cases hf; exact key3
    · refine r_iload_n dX4_make_8 rfl ?_
      refine r_if_lt 35 dX4_make_9 (by decide) hf (fun c8 hf => ?_) (fun c8 hf => ?_)
      · cases hf; exact key3
      · refine r_iload_n dX4_make_12 rfl ?_
        refine r_bipush (v := 40) dX4_make_13 (by decide) ?_
        refine r_icmp_gt 35 dX4_make_15 (by decide) hf (fun c7 hf => ?_) (fun c7 hf => ?_)
        · cases hf; exact key3
        · refine r_aload_n dX4_make_18 rfl ?_
          refine r_getS (b := rf a0 1) dX4_make_19 k0 ft_X4_16 rfl rfl ?_
          refine r_iload_n dX4_make_22 rfl ?_
          refine r_iload_n dX4_make_23 rfl ?_
          refine r_iast dX4_make_24 (sf_4_1 k0) hf fun h4 hf => ?_
          refine r_aload_n dX4_make_25 rfl ?_
          refine r_getS (b := rf a0 0) dX4_make_26 k0 ft_X4_11 rfl rfl ?_
          refine r_iload_n dX4_make_29 rfl ?_
          refine r_aald (E := (1, 0, 40)) dX4_make_30 (sf_4_0 k0) (Or.inl rfl) (se_pl k0) hf fun b5 hb5 hf => ?_
          refine r_iload_n dX4_make_31 rfl ?_
          obtain ⟨h6, hv, hf⟩ := bnd hf
          refine r_callS (lv := 1) dX4_make_32 yo_J7_fill_53178 ys_J7_fill_53178 ml_X4_20 ya_J7_fill_53178 (Fits.vm (by decide)) rfl rfl (Nat.le_of_ble_eq_true rfl) (S_J7_fill_53178 F b5 x3_ (sh_arr hb5) h4  _ hv) ?_
          cases hf; exact key3
def f_X4_drop (a0 : Nat) (x1_ : Int32) (h : Hp) : Option Hp :=
  (f_X4_knows a0 x1_ h).bind fun v1 =>
  (Option.bind (α := Hp) (
    (if v1 = 0 then (
      some h)
    else (
      (stI h (rf a0 1) x1_ (-1 : Int32)).bind fun h4 =>
      some h4))) fun t2 =>
  some t2)
set_option maxRecDepth 100000 in
set_option maxHeartbeats 4000000 in
theorem S_X4_drop (a0 : Nat) (x1_ : Int32) (k0 : sh a0 = (0, 4, 2)) (h : Hp) (r : Hp) (hf : f_X4_drop a0 x1_ h = some r) : MetP Y_X4_drop 2 [.ref a0, .int x1_] h (none, r) := by
  unfold f_X4_drop at hf
  refine met_of yo_X4_drop (Nat.le_of_ble_eq_true rfl) ?_
  show Run Y_X4_drop _ 0 [some (.ref a0), some (.int x1_)] [] h
  refine r_aload_n dX4_drop_0 rfl ?_
  refine r_iload_n dX4_drop_1 rfl ?_
  obtain ⟨v1, hv, hf⟩ := bnd hf
  refine r_callV (lv := 1) dX4_drop_2 yo_X4_knows yi_X4_knows ml_X4_30 ya_X4_knows k0 ⟨_, rfl, rfl⟩ (Fits.vm (by decide)) rfl rfl (Nat.le_of_ble_eq_true rfl) (S_X4_knows a0 x1_ k0 h  _ hv) ?_
  refine r_reg (P := fun t2 => Run Y_X4_drop (VM 2 (none, r)) 15 [some (.ref a0), some (.int x1_)] [] t2) hf (fun t2 hf => ?_) (fun t2 key3 hf => ?_)
  · exact e_vH dX4_drop_15 rfl hf
  · refine r_if_eq 15 dX4_drop_5 (by decide) hf (fun c5 hf => ?_) (fun c5 hf => ?_)
    · cases hf; exact key3
    · refine r_aload_n dX4_drop_8 rfl ?_
      refine r_getS (b := rf a0 1) dX4_drop_9 k0 ft_X4_16 rfl rfl ?_
      refine r_iload_n dX4_drop_12 rfl ?_
      refine r_iconst (v := -1) dX4_drop_13 (by decide) ?_
      refine r_iast dX4_drop_14 (sf_4_1 k0) hf fun h4 hf => ?_
      cases hf; exact key3
def f_X4_move (a0 : Nat) (x1_ : Int32) (x2_ : Int32) (x3_ : Int32) (x4_ : Int32) (x5_ : Int32) (h : Hp) : Option Hp :=
  (f_X4_has a0 x1_ x2_ x5_ h).bind fun v1 =>
  (Option.bind (α := Hp) (
    (if v1 = 0 then (
      some h)
    else (
      (f_X4_has a0 x3_ x4_ x5_ h).bind fun v4 =>
      (if v4 = 0 then (
        some h)
      else (
        (ldR (rf a0 0) x1_).bind fun b5 =>
        (ldR (rf a0 0) x3_).bind fun b6 =>
        (cpI h b5 x2_ b6 x4_ x5_).bind fun h7 =>
        some h7))))) fun t2 =>
  some t2)
set_option maxRecDepth 100000 in
set_option maxHeartbeats 4000000 in
theorem S_X4_move (a0 : Nat) (x1_ : Int32) (x2_ : Int32) (x3_ : Int32) (x4_ : Int32) (x5_ : Int32) (k0 : sh a0 = (0, 4, 2)) (h : Hp) (r : Hp) (hf : f_X4_move a0 x1_ x2_ x3_ x4_ x5_ h = some r) : MetP Y_X4_move 3 [.ref a0, .int x1_, .int x2_, .int x3_, .int x4_, .int x5_] h (none, r) := by
  unfold f_X4_move at hf
  refine met_of yo_X4_move (Nat.le_of_ble_eq_true rfl) ?_
  show Run Y_X4_move _ 0 [some (.ref a0), some (.int x1_), some (.int x2_), some (.int x3_), some (.int x4_), some (.int x5_)] [] h
  refine r_aload_n dX4_move_0 rfl ?_
  refine r_iload_n dX4_move_1 rfl ?_
  refine r_iload_n dX4_move_2 rfl ?_
  refine r_iload dX4_move_3 rfl ?_
  obtain ⟨v1, hv, hf⟩ := bnd hf
  refine r_callV (lv := 2) dX4_move_5 yo_X4_has yi_X4_has ml_X4_33 ya_X4_has k0 ⟨_, rfl, rfl⟩ (Fits.vm (by decide)) rfl rfl (Nat.le_of_ble_eq_true rfl) (S_X4_has a0 x1_ x2_ x5_ k0 h  _ hv) ?_
  refine r_reg (P := fun t2 => Run Y_X4_move (VM 3 (none, r)) 43 [some (.ref a0), some (.int x1_), some (.int x2_), some (.int x3_), some (.int x4_), some (.int x5_)] [] t2) hf (fun t2 hf => ?_) (fun t2 key3 hf => ?_)
  · exact e_vH dX4_move_43 rfl hf
  · refine r_if_eq 43 dX4_move_8 (by decide) hf (fun c9 hf => ?_) (fun c9 hf => ?_)
    · cases hf; exact key3
    · refine r_aload_n dX4_move_11 rfl ?_
      refine r_iload_n dX4_move_12 rfl ?_
      refine r_iload dX4_move_13 rfl ?_
      refine r_iload dX4_move_15 rfl ?_
      obtain ⟨v4, hv, hf⟩ := bnd hf
      refine r_callV (lv := 2) dX4_move_17 yo_X4_has yi_X4_has ml_X4_33 ya_X4_has k0 ⟨_, rfl, rfl⟩ (Fits.vm (by decide)) rfl rfl (Nat.le_of_ble_eq_true rfl) (S_X4_has a0 x3_ x4_ x5_ k0 h  _ hv) ?_
      refine r_if_eq 43 dX4_move_20 (by decide) hf (fun c8 hf => ?_) (fun c8 hf => ?_)
      · cases hf; exact key3
      · refine r_aload_n dX4_move_23 rfl ?_
        refine r_getS (b := rf a0 0) dX4_move_24 k0 ft_X4_11 rfl rfl ?_
        refine r_iload_n dX4_move_27 rfl ?_
        refine r_aald (E := (1, 0, 40)) dX4_move_28 (sf_4_0 k0) (Or.inl rfl) (se_pl k0) hf fun b5 hb5 hf => ?_
        refine r_iload_n dX4_move_29 rfl ?_
        refine r_aload_n dX4_move_30 rfl ?_
        refine r_getS (b := rf a0 0) dX4_move_31 k0 ft_X4_11 rfl rfl ?_
        refine r_iload_n dX4_move_34 rfl ?_
        refine r_aald (E := (1, 0, 40)) dX4_move_35 (sf_4_0 k0) (Or.inl rfl) (se_pl k0) hf fun b6 hb6 hf => ?_
        refine r_iload dX4_move_36 rfl ?_
        refine r_iload dX4_move_38 rfl ?_
        refine r_copy dX4_move_40 hb5 hb6 ml_X4_37 w_acn w_acs w_aci (Fits.vm (by decide)) (Nat.le_of_ble_eq_true rfl) hf fun h7 hf => ?_
        cases hf; exact key3
def f_X4_held (F : Nat) (a0 : Nat) (h : Hp) : Option Int32 :=
  fix (σ := Int32 × Int32) (ρ := Int32) (fun self2 s1 =>
    (if (nI (sh (rf a0 1)).2.2) ≤ s1.2 then (
      some s1.1)
    else (
      (ldI h (rf a0 1) s1.2).bind fun v4 =>
      (Option.bind (α := Int32) (
        (if v4 < 0 then (
          some s1.1)
        else (
          some (s1.1 + 1)))) fun t5 =>
      self2 (t5, (s1.2 + 1)))))) F ((0 : Int32), (0 : Int32))
set_option maxRecDepth 100000 in
set_option maxHeartbeats 4000000 in
theorem S_X4_held (F : Nat) (a0 : Nat) (k0 : sh a0 = (0, 4, 2)) (h : Hp) (r : Int32) (hf : f_X4_held F a0 h = some r) : MetP Y_X4_held 1 [.ref a0] h (some (.int r), h) := by
  unfold f_X4_held at hf
  refine met_of yo_X4_held (Nat.le_of_ble_eq_true rfl) ?_
  show Run Y_X4_held _ 0 [some (.ref a0), none, none] [] h
  refine r_iconst (v := 0) dX4_held_0 (by decide) ?_
  refine r_istore_nA dX4_held_1 (by decide) ?_
  refine r_iconst (v := 0) dX4_held_2 (by decide) ?_
  refine r_istore_nA dX4_held_3 (by decide) ?_
  refine r_fix (σ := Int32 × Int32) (fun s1 => [some (.ref a0), some (.int s1.1), some (.int s1.2)]) (fun s1 => h) (fun self2 ih3 s1 hf => ?_) F ((0 : Int32), (0 : Int32)) hf
  refine r_iload_n dX4_held_4 rfl ?_
  refine r_aload_n dX4_held_5 rfl ?_
  refine r_getS (b := rf a0 1) dX4_held_6 k0 ft_X4_16 rfl rfl ?_
  refine r_alen dX4_held_9 (sf_4_1 k0) ?_
  refine r_icmp_ge 31 dX4_held_10 (by decide) hf (fun c8 hf => ?_) (fun c8 hf => ?_)
  · refine r_iload_n dX4_held_31 rfl ?_
    exact e_iP dX4_held_32 rfl hf
  · refine r_aload_n dX4_held_13 rfl ?_
    refine r_getS (b := rf a0 1) dX4_held_14 k0 ft_X4_16 rfl rfl ?_
    refine r_iload_n dX4_held_17 rfl ?_
    refine r_iald dX4_held_18 (sf_4_1 k0) hf fun v4 hf => ?_
    refine r_reg (P := fun t5 => Run Y_X4_held (VM 1 (some (.int r), h)) 25 [some (.ref a0), some (.int t5), some (.int s1.2)] [] h) hf (fun t5 hf => ?_) (fun t5 key6 hf => ?_)
    · refine r_iincA (v := 1) dX4_held_25 rfl (by decide) (by decide) ?_
      refine r_goto 4 dX4_held_28 (by decide) ?_
      exact ih3 _ hf
    · refine r_if_lt 25 dX4_held_19 (by decide) hf (fun c7 hf => ?_) (fun c7 hf => ?_)
      · cases hf; exact key6
      · refine r_iincA (v := 1) dX4_held_22 rfl (by decide) (by decide) ?_
        cases hf; exact key6
def f_X4_mixedInto (F : Nat) (a0 : Nat) (x1_ : Int64) (h : Hp) : Option Int64 :=
  fix (σ := Int64 × Int32) (ρ := Int64) (fun self2 s1 =>
    (if (nI (sh (rf a0 1)).2.2) ≤ s1.2 then (
      some s1.1)
    else (
      (ldI h (rf a0 1) s1.2).bind fun v4 =>
      nm ((((31 : Int64) * s1.1) + (v4).toInt64)) fun x5 =>
      fix (σ := Int64 × Int32) (ρ := Int64) (fun self7 s6 =>
        (ldI h (rf a0 1) s1.2).bind fun v9 =>
        (if v9 ≤ s6.2 then (
          self2 (s6.1, (s1.2 + 1)))
        else (
          (ldR (rf a0 0) s1.2).bind fun b10 =>
          (ldI h b10 s6.2).bind fun v11 =>
          nm ((((31 : Int64) * s6.1) + (v11).toInt64)) fun x12 =>
          self7 (x12, (s6.2 + 1))))) F (x5, (0 : Int32))))) F (x1_, (0 : Int32))
set_option maxRecDepth 100000 in
set_option maxHeartbeats 4000000 in
theorem S_X4_mixedInto (F : Nat) (a0 : Nat) (x1_ : Int64) (k0 : sh a0 = (0, 4, 2)) (h : Hp) (r : Int64) (hf : f_X4_mixedInto F a0 x1_ h = some r) : MetP Y_X4_mixedInto 1 [.ref a0, .long x1_] h (some (.long r), h) := by
  unfold f_X4_mixedInto at hf
  refine met_of yo_X4_mixedInto (Nat.le_of_ble_eq_true rfl) ?_
  show Run Y_X4_mixedInto _ 0 [some (.ref a0), some (.long x1_), none, none, none, none, none] [] h
  refine r_lload_n dX4_mixedInto_0 rfl ?_
  refine r_lstore_nA dX4_mixedInto_1 (by decide) ?_
  refine r_iconst (v := 0) dX4_mixedInto_2 (by decide) ?_
  refine r_istoreA dX4_mixedInto_3 (by decide) ?_
  refine r_fix (σ := Int64 × Int32) (fun s1 => [some (.ref a0), some (.long x1_), none, some (.long s1.1), none, some (.int s1.2), none]) (fun s1 => h) (fun self2 ih3 s1 hf => ?_) F (x1_, (0 : Int32)) hf
  refine r_iload dX4_mixedInto_5 rfl ?_
  refine r_aload_n dX4_mixedInto_7 rfl ?_
  refine r_getS (b := rf a0 1) dX4_mixedInto_8 k0 ft_X4_16 rfl rfl ?_
  refine r_alen dX4_mixedInto_11 (sf_4_1 k0) ?_
  refine r_icmp_ge 75 dX4_mixedInto_12 (by decide) hf (fun c14 hf => ?_) (fun c14 hf => ?_)
  · refine r_lload_n dX4_mixedInto_75 rfl ?_
    exact e_lP dX4_mixedInto_76 rfl hf
  · refine r_ldc2 dX4_mixedInto_15 cn_X4_43 ?_
    refine r_lload_n dX4_mixedInto_18 rfl ?_
    refine r_lmul dX4_mixedInto_19 ?_
    refine r_aload_n dX4_mixedInto_20 rfl ?_
    refine r_getS (b := rf a0 1) dX4_mixedInto_21 k0 ft_X4_16 rfl rfl ?_
    refine r_iload dX4_mixedInto_24 rfl ?_
    refine r_iald dX4_mixedInto_26 (sf_4_1 k0) hf fun v4 hf => ?_
    refine r_i2l dX4_mixedInto_27 ?_
    refine r_ladd dX4_mixedInto_28 ?_
    refine r_lstore_n dX4_mixedInto_29 (by decide) hf fun x5 hf => ?_
    refine r_iconst (v := 0) dX4_mixedInto_30 (by decide) ?_
    refine r_istoreA dX4_mixedInto_31 (by decide) ?_
    refine r_fix (σ := Int64 × Int32) (fun s6 => [some (.ref a0), some (.long x1_), none, some (.long s6.1), none, some (.int s1.2), some (.int s6.2)]) (fun s6 => h) (fun self7 ih8 s6 hf => ?_) F (x5, (0 : Int32)) hf
    refine r_iload dX4_mixedInto_33 rfl ?_
    refine r_aload_n dX4_mixedInto_35 rfl ?_
    refine r_getS (b := rf a0 1) dX4_mixedInto_36 k0 ft_X4_16 rfl rfl ?_
    refine r_iload dX4_mixedInto_39 rfl ?_
    refine r_iald dX4_mixedInto_41 (sf_4_1 k0) hf fun v9 hf => ?_
    refine r_icmp_ge 69 dX4_mixedInto_42 (by decide) hf (fun c13 hf => ?_) (fun c13 hf => ?_)
    · refine r_iincA (v := 1) dX4_mixedInto_69 rfl (by decide) (by decide) ?_
      refine r_goto 5 dX4_mixedInto_72 (by decide) ?_
      refine r_lt (ll_s (ll_s (ll_n (ll_s (ll_n (ll_s (ll_n ll_0))))))) ?_
      exact ih3 _ hf
    · refine r_ldc2 dX4_mixedInto_45 cn_X4_43 ?_
      refine r_lload_n dX4_mixedInto_48 rfl ?_
      refine r_lmul dX4_mixedInto_49 ?_
      refine r_aload_n dX4_mixedInto_50 rfl ?_
      refine r_getS (b := rf a0 0) dX4_mixedInto_51 k0 ft_X4_11 rfl rfl ?_
      refine r_iload dX4_mixedInto_54 rfl ?_
      refine r_aald (E := (1, 0, 40)) dX4_mixedInto_56 (sf_4_0 k0) (Or.inl rfl) (se_pl k0) hf fun b10 hb10 hf => ?_
      refine r_iload dX4_mixedInto_57 rfl ?_
      refine r_iald dX4_mixedInto_59 hb10 hf fun v11 hf => ?_
      refine r_i2l dX4_mixedInto_60 ?_
      refine r_ladd dX4_mixedInto_61 ?_
      refine r_lstore_n dX4_mixedInto_62 (by decide) hf fun x12 hf => ?_
      refine r_iincA (v := 1) dX4_mixedInto_63 rfl (by decide) (by decide) ?_
      refine r_goto 33 dX4_mixedInto_66 (by decide) ?_
      exact ih8 _ hf
def f_X5_take (F : Nat) (a1 : Nat) (x2_ : Int32) (h : Hp) : Option Hp :=
  (f_X4_size a1 x2_ h).bind fun v1 =>
  nm (sI h 31 0 (mxI (0 : Int32) (mnI v1 (5 : Int32)))) fun h2 =>
  fix (σ := Int32 × Hp) (ρ := Hp) (fun self4 s3 =>
    (if (gI s3.2 31 0) ≤ s3.1 then (
      nm (sI s3.2 31 4 (-9 : Int32)) fun h6 =>
      nm (sI h6 31 5 (0 : Int32)) fun h7 =>
      some h7)
    else (
      (f_X4_get a1 x2_ s3.1 s3.2).bind fun v8 =>
      (stI s3.2 32 s3.1 (v8 / (100 : Int32))).bind fun h9 =>
      (f_X4_get a1 x2_ s3.1 h9).bind fun v10 =>
      (stI h9 33 s3.1 (rem32 v10 (100 : Int32))).bind fun h11 =>
      self4 ((s3.1 + 1), h11)))) F ((0 : Int32), h2)
set_option maxRecDepth 100000 in
set_option maxHeartbeats 4000000 in
theorem S_X5_take (F : Nat) (a1 : Nat) (x2_ : Int32) (k1 : sh a1 = (0, 4, 2)) (h : Hp) (r : Hp) (hf : f_X5_take F a1 x2_ h = some r) : MetP Y_X5_take 4 [.ref 31, .ref a1, .int x2_] h (none, r) := by
  unfold f_X5_take at hf
  refine met_of yo_X5_take (Nat.le_of_ble_eq_true rfl) ?_
  show Run Y_X5_take _ 0 [some (.ref 31), some (.ref a1), some (.int x2_), none] [] h
  refine r_aload_n dX5_take_0 rfl ?_
  refine r_iconst (v := 0) dX5_take_1 (by decide) ?_
  refine r_aload_n dX5_take_2 rfl ?_
  refine r_iload_n dX5_take_3 rfl ?_
  obtain ⟨v1, hv, hf⟩ := bnd hf
  refine r_callV (lv := 2) dX5_take_4 yo_X4_size yi_X4_size ml_X5_34 ya_X4_size k1 ⟨_, rfl, rfl⟩ (Fits.vm (by decide)) rfl rfl (Nat.le_of_ble_eq_true rfl) (S_X4_size a1 x2_ k1 h  _ hv) ?_
  refine r_iconst (v := 5) dX5_take_7 (by decide) ?_
  refine r_mmin dX5_take_8 ml_X5_40 wm_min_s wm_i wm_min_c (Fits.vm (by decide)) (Nat.le_of_ble_eq_true rfl) ?_
  refine r_mmax dX5_take_11 ml_X5_46 wm_max_s wm_i wm_max_c (Fits.vm (by decide)) (Nat.le_of_ble_eq_true rfl) ?_
  refine r_putI dX5_take_14 sh_31 ft_X5_49 rfl hf fun h2 hf => ?_
  refine r_iconst (v := 0) dX5_take_17 (by decide) ?_
  refine r_istore_nA dX5_take_18 (by decide) ?_
  refine r_fix (σ := Int32 × Hp) (fun s3 => [some (.ref 31), some (.ref a1), some (.int x2_), some (.int s3.1)]) (fun s3 => s3.2) (fun self4 ih5 s3 hf => ?_) F ((0 : Int32), h2) hf
  refine r_iload_n dX5_take_19 rfl ?_
  refine r_aload_n dX5_take_20 rfl ?_
  refine r_getI dX5_take_21 sh_31 ft_X5_49 rfl ?_
  refine r_icmp_ge 63 dX5_take_24 (by decide) hf (fun c12 hf => ?_) (fun c12 hf => ?_)
  · refine r_aload_n dX5_take_63 rfl ?_
    refine r_bipush (v := -9) dX5_take_64 (by decide) ?_
    refine r_putI dX5_take_66 sh_31 ft_X5_56 rfl hf fun h6 hf => ?_
    refine r_aload_n dX5_take_69 rfl ?_
    refine r_iconst (v := 0) dX5_take_70 (by decide) ?_
    refine r_putI dX5_take_71 sh_31 ft_X5_59 rfl hf fun h7 hf => ?_
    exact e_vH dX5_take_74 rfl hf
  · refine r_aload_n dX5_take_27 rfl ?_
    refine r_getS (b := 32) dX5_take_28 sh_31 ft_X5_9 rfl rfl ?_
    refine r_iload_n dX5_take_31 rfl ?_
    refine r_aload_n dX5_take_32 rfl ?_
    refine r_iload_n dX5_take_33 rfl ?_
    refine r_iload_n dX5_take_34 rfl ?_
    obtain ⟨v8, hv, hf⟩ := bnd hf
    refine r_callV (lv := 3) dX5_take_35 yo_X4_get yi_X4_get ml_X5_53 ya_X4_get k1 ⟨_, rfl, rfl⟩ (Fits.vm (by decide)) rfl rfl (Nat.le_of_ble_eq_true rfl) (S_X4_get a1 x2_ s3.1 k1 s3.2  _ hv) ?_
    refine r_bipush (v := 100) dX5_take_38 (by decide) ?_
    refine r_idivK dX5_take_40 (by decide) ?_
    refine r_iast dX5_take_41 sh_32 hf fun h9 hf => ?_
    refine r_aload_n dX5_take_42 rfl ?_
    refine r_getS (b := 33) dX5_take_43 sh_31 ft_X5_15 rfl rfl ?_
    refine r_iload_n dX5_take_46 rfl ?_
    refine r_aload_n dX5_take_47 rfl ?_
    refine r_iload_n dX5_take_48 rfl ?_
    refine r_iload_n dX5_take_49 rfl ?_
    obtain ⟨v10, hv, hf⟩ := bnd hf
    refine r_callV (lv := 3) dX5_take_50 yo_X4_get yi_X4_get ml_X5_53 ya_X4_get k1 ⟨_, rfl, rfl⟩ (Fits.vm (by decide)) rfl rfl (Nat.le_of_ble_eq_true rfl) (S_X4_get a1 x2_ s3.1 k1 h9  _ hv) ?_
    refine r_bipush (v := 100) dX5_take_53 (by decide) ?_
    refine r_iremK dX5_take_55 (by decide) ?_
    refine r_iast dX5_take_56 sh_33 hf fun h11 hf => ?_
    refine r_iincA (v := 1) dX5_take_57 rfl (by decide) (by decide) ?_
    refine r_goto 19 dX5_take_60 (by decide) ?_
    exact ih5 _ hf
def f_X5_all  (h : Hp) : Option Int32 :=
  some (((1 : Int32) <<< ((gI h 31 0) &&& 31)) - (1 : Int32))
set_option maxRecDepth 100000 in
set_option maxHeartbeats 4000000 in
theorem S_X5_all  (h : Hp) (r : Int32) (hf : f_X5_all h = some r) : MetP Y_X5_all 1 [.ref 31] h (some (.int r), h) := by
  unfold f_X5_all at hf
  refine met_of yo_X5_all (Nat.le_of_ble_eq_true rfl) ?_
  show Run Y_X5_all _ 0 [some (.ref 31)] [] h
  refine r_iconst (v := 1) dX5_all_0 (by decide) ?_
  refine r_aload_n dX5_all_1 rfl ?_
  refine r_getI dX5_all_2 sh_31 ft_X5_49 rfl ?_
  refine r_ishl dX5_all_5 ?_
  refine r_iconst (v := 1) dX5_all_6 (by decide) ?_
  refine r_isub dX5_all_7 ?_
  exact e_iP dX5_all_8 rfl hf
def f_X5_beats (x1_ : Int32) (x2_ : Int32) (h : Hp) : Option Int32 :=
  (Option.bind (α := Int32) (
    (if (gI h 31 4) < x1_ then (
      some (1 : Int32))
    else (
      (if x1_ = (gI h 31 4) then (
        (if (gI h 31 5) ≤ x2_ then (
          some (0 : Int32))
        else (
          some (1 : Int32))))
      else (
        some (0 : Int32)))))) fun t1 =>
  ckZ t1)
set_option maxRecDepth 100000 in
set_option maxHeartbeats 4000000 in
theorem S_X5_beats (x1_ : Int32) (x2_ : Int32) (h : Hp) (r : Int32) (hf : f_X5_beats x1_ x2_ h = some r) : MetP Y_X5_beats 1 [.ref 31, .int x1_, .int x2_] h (some (.int r), h) := by
  unfold f_X5_beats at hf
  refine met_of yo_X5_beats (Nat.le_of_ble_eq_true rfl) ?_
  show Run Y_X5_beats _ 0 [some (.ref 31), some (.int x1_), some (.int x2_)] [] h
  refine r_iload_n dX5_beats_0 rfl ?_
  refine r_aload_n dX5_beats_1 rfl ?_
  refine r_getI dX5_beats_2 sh_31 ft_X5_56 rfl ?_
  refine r_reg (P := fun t1 => Run Y_X5_beats (VM 1 (some (.int r), h)) 29 [some (.ref 31), some (.int x1_), some (.int x2_)] [.int t1] h) hf (fun t1 hf => ?_) (fun t1 key2 hf => ?_)
  · exact e_zP dX5_beats_29 rfl hf
  · refine r_icmp_gt 24 dX5_beats_5 (by decide) hf (fun c5 hf => ?_) (fun c5 hf => ?_)
    · refine r_iconst (v := 1) dX5_beats_24 (by decide) ?_
      refine r_goto 29 dX5_beats_25 (by decide) ?_
      cases hf; exact key2
    · refine r_iload_n dX5_beats_8 rfl ?_
      refine r_aload_n dX5_beats_9 rfl ?_
      refine r_getI dX5_beats_10 sh_31 ft_X5_56 rfl ?_
      refine r_icmp_ne 28 dX5_beats_13 (by decide) hf (fun c4 hf => ?_) (fun c4 hf => ?_)
      · refine r_iconst (v := 0) dX5_beats_28 (by decide) ?_
        cases hf; exact key2
      · refine r_iload_n dX5_beats_16 rfl ?_
        refine r_aload_n dX5_beats_17 rfl ?_
        refine r_getI dX5_beats_18 sh_31 ft_X5_59 rfl ?_
        refine r_icmp_ge 28 dX5_beats_21 (by decide) hf (fun c3 hf => ?_) (fun c3 hf => ?_)
        · refine r_iconst (v := 0) dX5_beats_28 (by decide) ?_
          cases hf; exact key2
        · refine r_iconst (v := 1) dX5_beats_24 (by decide) ?_
          refine r_goto 29 dX5_beats_25 (by decide) ?_
          cases hf; exact key2
def f_X5_offer (F : Nat) (x1_ : Int32) (x2_ : Int32) (x3_ : Int32) (x4_ : Int32) (h : Hp) : Option Hp :=
  (f_X5_beats x1_ x2_ h).bind fun v1 =>
  (if v1 = 0 then (
    some h)
  else (
    nm (sI h 31 4 x1_) fun h2 =>
    nm (sI h2 31 5 x2_) fun h3 =>
    (cpI h3 35 (0 : Int32) 34 (0 : Int32) (5 : Int32)).bind fun h4 =>
    fix (σ := Int32 × Int32 × Hp) (ρ := Hp) (fun self6 s5 =>
      (if (gI s5.2.2 31 0) ≤ s5.2.1 then (
        some s5.2.2)
      else (
        (if (gI s5.2.2 31 0) ≤ s5.1 then (
          some s5.2.2)
        else (
          (Option.bind (α := Int32 × Hp) (
            (if ((x4_ >>> (s5.2.1 &&& 31)) &&& (1 : Int32)) = (1 : Int32) then (
              (stI s5.2.2 34 s5.1 s5.2.1).bind fun h10 =>
              some ((s5.1 + 1), h10))
            else (
              some (s5.1, s5.2.2)))) fun t8 =>
          self6 (t8.1, (s5.2.1 + 1), t8.2))))))) F (x3_, (0 : Int32), h4)))
set_option maxRecDepth 100000 in
set_option maxHeartbeats 4000000 in
theorem S_X5_offer (F : Nat) (x1_ : Int32) (x2_ : Int32) (x3_ : Int32) (x4_ : Int32) (h : Hp) (r : Hp) (hf : f_X5_offer F x1_ x2_ x3_ x4_ h = some r) : MetP Y_X5_offer 2 [.ref 31, .int x1_, .int x2_, .int x3_, .int x4_] h (none, r) := by
  unfold f_X5_offer at hf
  refine met_of yo_X5_offer (Nat.le_of_ble_eq_true rfl) ?_
  show Run Y_X5_offer _ 0 [some (.ref 31), some (.int x1_), some (.int x2_), some (.int x3_), some (.int x4_), none, none] [] h
  refine r_aload_n dX5_offer_0 rfl ?_
  refine r_iload_n dX5_offer_1 rfl ?_
  refine r_iload_n dX5_offer_2 rfl ?_
  obtain ⟨v1, hv, hf⟩ := bnd hf
  refine r_callV (lv := 1) dX5_offer_3 yo_X5_beats yi_X5_beats ml_X5_83 ya_X5_beats sh_31 ⟨_, rfl, rfl⟩ (Fits.vm (by decide)) rfl rfl (Nat.le_of_ble_eq_true rfl) (S_X5_beats x1_ x2_ h  _ hv) ?_
  refine r_if_ne 10 dX5_offer_6 (by decide) hf (fun c14 hf => ?_) (fun c14 hf => ?_)
  · refine r_aload_n dX5_offer_10 rfl ?_
    refine r_iload_n dX5_offer_11 rfl ?_
    refine r_putI dX5_offer_12 sh_31 ft_X5_56 rfl hf fun h2 hf => ?_
    refine r_aload_n dX5_offer_15 rfl ?_
    refine r_iload_n dX5_offer_16 rfl ?_
    refine r_putI dX5_offer_17 sh_31 ft_X5_59 rfl hf fun h3 hf => ?_
    refine r_aload_n dX5_offer_20 rfl ?_
    refine r_getS (b := 35) dX5_offer_21 sh_31 ft_X5_21 rfl rfl ?_
    refine r_iconst (v := 0) dX5_offer_24 (by decide) ?_
    refine r_aload_n dX5_offer_25 rfl ?_
    refine r_getS (b := 34) dX5_offer_26 sh_31 ft_X5_18 rfl rfl ?_
    refine r_iconst (v := 0) dX5_offer_29 (by decide) ?_
    refine r_iconst (v := 5) dX5_offer_30 (by decide) ?_
    refine r_copy dX5_offer_31 sh_35 sh_34 ml_X5_91 w_acn w_acs w_aci (Fits.vm (by decide)) (Nat.le_of_ble_eq_true rfl) hf fun h4 hf => ?_
    refine r_iload_n dX5_offer_34 rfl ?_
    refine r_istoreA dX5_offer_35 (by decide) ?_
    refine r_iconst (v := 0) dX5_offer_37 (by decide) ?_
    refine r_istoreA dX5_offer_38 (by decide) ?_
    refine r_fix (σ := Int32 × Int32 × Hp) (fun s5 => [some (.ref 31), some (.int x1_), some (.int x2_), some (.int x3_), some (.int x4_), some (.int s5.1), some (.int s5.2.1)]) (fun s5 => s5.2.2) (fun self6 ih7 s5 hf => ?_) F (x3_, (0 : Int32), h4) hf
    refine r_iload dX5_offer_40 rfl ?_
    refine r_aload_n dX5_offer_42 rfl ?_
    refine r_getI dX5_offer_43 sh_31 ft_X5_49 rfl ?_
    refine r_icmp_ge 87 dX5_offer_46 (by decide) hf (fun c13 hf => ?_) (fun c13 hf => ?_)
    · exact e_vH dX5_offer_87 rfl hf
    · refine r_iload dX5_offer_49 rfl ?_
      refine r_aload_n dX5_offer_51 rfl ?_
      refine r_getI dX5_offer_52 sh_31 ft_X5_49 rfl ?_
      refine r_icmp_ge 87 dX5_offer_55 (by decide) hf (fun c12 hf => ?_) (fun c12 hf => ?_)
      · exact e_vH dX5_offer_87 rfl hf
      · refine r_iload dX5_offer_58 rfl ?_
        refine r_iload dX5_offer_60 rfl ?_
        refine r_ishr dX5_offer_62 ?_
        refine r_iconst (v := 1) dX5_offer_63 (by decide) ?_
        refine r_iand dX5_offer_64 ?_
        refine r_iconst (v := 1) dX5_offer_65 (by decide) ?_
        refine r_reg (P := fun t8 => Run Y_X5_offer (VM 2 (none, r)) 81 [some (.ref 31), some (.int x1_), some (.int x2_), some (.int x3_), some (.int x4_), some (.int t8.1), some (.int s5.2.1)] [] t8.2) hf (fun t8 hf => ?_) (fun t8 key9 hf => ?_)
        · refine r_iincA (v := 1) dX5_offer_81 rfl (by decide) (by decide) ?_
          refine r_goto 40 dX5_offer_84 (by decide) ?_
          exact ih7 _ hf
        · refine r_icmp_ne 81 dX5_offer_66 (by decide) hf (fun c11 hf => ?_) (fun c11 hf => ?_)
          · cases hf; exact key9
          · refine r_aload_n dX5_offer_69 rfl ?_
            refine r_getS (b := 34) dX5_offer_70 sh_31 ft_X5_18 rfl rfl ?_
            refine r_iload dX5_offer_73 rfl ?_
            refine r_iload dX5_offer_75 rfl ?_
            refine r_iast dX5_offer_77 sh_34 hf fun h10 hf => ?_
            refine r_iincA (v := 1) dX5_offer_78 rfl (by decide) (by decide) ?_
            cases hf; exact key9
  · exact e_vH dX5_offer_9 rfl hf
def f_J6_bitCount_0f7a4 (x0_ : Int32) (h : Hp) : Option Int32 :=
  nm ((x0_ - (((x0_).toUInt32 >>> (((1 : Int32)).toUInt32 &&& Int32.toUInt32 31)).toInt32 &&& (1431655765 : Int32)))) fun x1 =>
  nm (((x1 &&& (858993459 : Int32)) + (((x1).toUInt32 >>> (((2 : Int32)).toUInt32 &&& Int32.toUInt32 31)).toInt32 &&& (858993459 : Int32)))) fun x2 =>
  nm (((x2 + ((x2).toUInt32 >>> (((4 : Int32)).toUInt32 &&& Int32.toUInt32 31)).toInt32) &&& (252645135 : Int32))) fun x3 =>
  nm ((x3 + ((x3).toUInt32 >>> (((8 : Int32)).toUInt32 &&& Int32.toUInt32 31)).toInt32)) fun x4 =>
  nm ((x4 + ((x4).toUInt32 >>> (((16 : Int32)).toUInt32 &&& Int32.toUInt32 31)).toInt32)) fun x5 =>
  some (x5 &&& (63 : Int32))
set_option maxRecDepth 100000 in
set_option maxHeartbeats 4000000 in
theorem S_J6_bitCount_0f7a4 (x0_ : Int32) (h : Hp) (r : Int32) (hf : f_J6_bitCount_0f7a4 x0_ h = some r) : MetP Y_J6_bitCount_0f7a4 1 [.int x0_] h (some (.int r), h) := by
  unfold f_J6_bitCount_0f7a4 at hf
  refine met_of yo_J6_bitCount_0f7a4 (Nat.le_of_ble_eq_true rfl) ?_
  show Run Y_J6_bitCount_0f7a4 _ 0 [some (.int x0_)] [] h
  refine r_iload_n dJ6_bitCount_0f7a4_0 rfl ?_
  refine r_iload_n dJ6_bitCount_0f7a4_1 rfl ?_
  refine r_iconst (v := 1) dJ6_bitCount_0f7a4_2 (by decide) ?_
  refine r_iushr dJ6_bitCount_0f7a4_3 ?_
  refine r_ldcw dJ6_bitCount_0f7a4_4 cn_J6_265 ?_
  refine r_iand dJ6_bitCount_0f7a4_7 ?_
  refine r_isub dJ6_bitCount_0f7a4_8 ?_
  refine r_istore_n dJ6_bitCount_0f7a4_9 (by decide) hf fun x1 hf => ?_
  refine r_iload_n dJ6_bitCount_0f7a4_10 rfl ?_
  refine r_ldcw dJ6_bitCount_0f7a4_11 cn_J6_266 ?_
  refine r_iand dJ6_bitCount_0f7a4_14 ?_
  refine r_iload_n dJ6_bitCount_0f7a4_15 rfl ?_
  refine r_iconst (v := 2) dJ6_bitCount_0f7a4_16 (by decide) ?_
  refine r_iushr dJ6_bitCount_0f7a4_17 ?_
  refine r_ldcw dJ6_bitCount_0f7a4_18 cn_J6_266 ?_
  refine r_iand dJ6_bitCount_0f7a4_21 ?_
  refine r_iadd dJ6_bitCount_0f7a4_22 ?_
  refine r_istore_n dJ6_bitCount_0f7a4_23 (by decide) hf fun x2 hf => ?_
  refine r_iload_n dJ6_bitCount_0f7a4_24 rfl ?_
  refine r_iload_n dJ6_bitCount_0f7a4_25 rfl ?_
  refine r_iconst (v := 4) dJ6_bitCount_0f7a4_26 (by decide) ?_
  refine r_iushr dJ6_bitCount_0f7a4_27 ?_
  refine r_iadd dJ6_bitCount_0f7a4_28 ?_
  refine r_ldcw dJ6_bitCount_0f7a4_29 cn_J6_267 ?_
  refine r_iand dJ6_bitCount_0f7a4_32 ?_
  refine r_istore_n dJ6_bitCount_0f7a4_33 (by decide) hf fun x3 hf => ?_
  refine r_iload_n dJ6_bitCount_0f7a4_34 rfl ?_
  refine r_iload_n dJ6_bitCount_0f7a4_35 rfl ?_
  refine r_bipush (v := 8) dJ6_bitCount_0f7a4_36 (by decide) ?_
  refine r_iushr dJ6_bitCount_0f7a4_38 ?_
  refine r_iadd dJ6_bitCount_0f7a4_39 ?_
  refine r_istore_n dJ6_bitCount_0f7a4_40 (by decide) hf fun x4 hf => ?_
  refine r_iload_n dJ6_bitCount_0f7a4_41 rfl ?_
  refine r_iload_n dJ6_bitCount_0f7a4_42 rfl ?_
  refine r_bipush (v := 16) dJ6_bitCount_0f7a4_43 (by decide) ?_
  refine r_iushr dJ6_bitCount_0f7a4_45 ?_
  refine r_iadd dJ6_bitCount_0f7a4_46 ?_
  refine r_istore_n dJ6_bitCount_0f7a4_47 (by decide) hf fun x5 hf => ?_
  refine r_iload_n dJ6_bitCount_0f7a4_48 rfl ?_
  refine r_bipush (v := 63) dJ6_bitCount_0f7a4_49 (by decide) ?_
  refine r_iand dJ6_bitCount_0f7a4_51 ?_
  exact e_iP dJ6_bitCount_0f7a4_52 rfl hf
def f_X5_arrange (F : Nat) : Nat → Int32 → Int32 → Int32 → Int32 → Int32 → Hp → Option Hp
  | 0, _, _, _, _, _, _ => none
  | D + 1, x1_, x2_, x3_, x4_, x5_, h =>
    jn (α := (Unit) → Option Hp) (fun t1 =>
      (f_X5_offer F x1_ x3_ x1_ (0 : Int32) h).bind fun h4 =>
      some h4) fun j2 =>
    (if (gI h 31 0) ≤ x1_ then (
      j2 ())
    else (
      (if x1_ < (5 : Int32) then (
        fix (σ := Int32 × Int32 × Hp) (ρ := Hp) (fun self6 s5 =>
          (if (gI s5.2.2 31 0) ≤ s5.2.1 then (
            (f_J6_bitCount_0f7a4 s5.1 s5.2.2).bind fun v8 =>
            (f_X5_beats (x1_ + v8) x3_ s5.2.2).bind fun v9 =>
            (if v9 = 0 then (
              some s5.2.2)
            else (
              fix (σ := Int32 × Hp) (ρ := Hp) (fun self11 s10 =>
                (if (gI s10.2 31 0) ≤ s10.1 then (
                  some s10.2)
                else (
                  nm ((x4_ &&& (((1 : Int32) <<< (s10.1 &&& 31)) ^^^ (-1 : Int32)))) fun x13 =>
                  nm (((x1_ * (5 : Int32)) + s10.1)) fun x14 =>
                  (Option.bind (α := Hp) (
                    (if ((s5.1 >>> (s10.1 &&& 31)) &&& (1 : Int32)) = (1 : Int32) then (
                      (stI s10.2 35 x1_ s10.1).bind fun h20 =>
                      (ldI h20 36 x14).bind fun v21 =>
                      (ldI h20 37 x14).bind fun v22 =>
                      (f_X5_arrange F D (x1_ + (1 : Int32)) v21 (x3_ + v22) x13 s5.1 h20).bind fun h23 =>
                      some h23)
                    else (
                      (if x13 = x4_ then (
                        some s10.2)
                      else (
                        (stI s10.2 35 x1_ s10.1).bind fun h17 =>
                        (f_X5_offer F x1_ x3_ (x1_ + (1 : Int32)) x13 h17).bind fun h18 =>
                        some h18))))) fun t15 =>
                  self11 ((s10.1 + 1), t15))))) F ((0 : Int32), s5.2.2))))
          else (
            (Option.bind (α := Int32) (
              (if (((x4_ &&& x5_) >>> (s5.2.1 &&& 31)) &&& (1 : Int32)) = (1 : Int32) then (
                some (1 : Int32))
              else (
                some (0 : Int32)))) fun t27 =>
            (Option.bind (α := Int32 × Hp) (
              (if t27 = 0 then (
                some ((-9 : Int32), s5.2.2))
              else (
                (ldI s5.2.2 32 s5.2.1).bind fun v32 =>
                (ldI s5.2.2 33 s5.2.1).bind fun v33 =>
                (f_X3_nearest F x2_ v32 v33 s5.2.2).bind fun v34 =>
                some (v34.1, v34.2)))) fun t30 =>
            (Option.bind (α := Int32 × Hp) (
              (if t30.1 = (-9 : Int32) then (
                some (s5.1, t30.2))
              else (
                nm ((s5.1 ||| ((1 : Int32) <<< (s5.2.1 &&& 31)))) fun x38 =>
                (f_X3_stand t30.1 t30.2).bind fun v39 =>
                (stI t30.2 36 ((x1_ * (5 : Int32)) + s5.2.1) v39).bind fun h40 =>
                (f_X3_depth t30.1 h40).bind fun v41 =>
                (stI h40 37 ((x1_ * (5 : Int32)) + s5.2.1) v41).bind fun h42 =>
                some (x38, h42)))) fun t36 =>
            self6 (t36.1, (s5.2.1 + 1), t36.2))))))) F ((0 : Int32), (0 : Int32), h))
      else (
        j2 ()))))
set_option maxRecDepth 100000 in
set_option maxHeartbeats 4000000 in
theorem S_X5_arrange (F : Nat) : ∀ (D : Nat) (x1_ : Int32) (x2_ : Int32) (x3_ : Int32) (x4_ : Int32) (x5_ : Int32) (h : Hp) (r : Hp), f_X5_arrange F D x1_ x2_ x3_ x4_ x5_ h = some r → MetP Y_X5_arrange (7 + D) [.ref 31, .int x1_, .int x2_, .int x3_, .int x4_, .int x5_] h (none, r)
  | 0, x1_, x2_, x3_, x4_, x5_, h, r, hf => by cases hf
  | D + 1, x1_, x2_, x3_, x4_, x5_, h, r, hf => by
    have ihD := S_X5_arrange F D
    unfold f_X5_arrange at hf
    refine met_of yo_X5_arrange (Nat.le_of_ble_eq_true rfl) ?_
    show Run Y_X5_arrange _ 0 [some (.ref 31), some (.int x1_), some (.int x2_), some (.int x3_), some (.int x4_), some (.int x5_), none, none, none, none] [] h
    refine r_iload_n dX5_arrange_0 rfl ?_
    refine r_aload_n dX5_arrange_1 rfl ?_
    refine r_getI dX5_arrange_2 sh_31 ft_X5_49 rfl ?_
    refine r_jn (P := fun t1 => Run Y_X5_arrange (VM (7 + (D + 1)) (none, r)) 13 [some (.ref 31), some (.int x1_), some (.int x2_), some (.int x3_), some (.int x4_), some (.int x5_), none, none, none, none] [] h) hf (fun t1 hf => ?_) (fun j2 ih3 hf => ?_)
    · refine r_aload_n dX5_arrange_13 rfl ?_
      refine r_iload_n dX5_arrange_14 rfl ?_
      refine r_iload_n dX5_arrange_15 rfl ?_
      refine r_iload_n dX5_arrange_16 rfl ?_
      refine r_iconst (v := 0) dX5_arrange_17 (by decide) ?_
      obtain ⟨h4, hv, hf⟩ := bnd hf
      refine r_callV (lv := 2) dX5_arrange_18 yo_X5_offer yi_X5_offer ml_X5_62 ya_X5_offer sh_31 ⟨_, rfl, rfl⟩ (Fits.vm (by omega)) rfl rfl (Nat.le_of_ble_eq_true rfl) (S_X5_offer F x1_ x3_ x1_ (0 : Int32) h  _ hv) ?_
      exact e_vH dX5_arrange_21 rfl hf
    refine r_icmp_ge 13 dX5_arrange_5 (by decide) hf (fun c46 hf => ?_) (fun c46 hf => ?_)
    · exact ih3 _ hf
    · refine r_iload_n dX5_arrange_8 rfl ?_
      refine r_iconst (v := 5) dX5_arrange_9 (by decide) ?_
      refine r_icmp_lt 22 dX5_arrange_10 (by decide) hf (fun c45 hf => ?_) (fun c45 hf => ?_)
      · refine r_iconst (v := 0) dX5_arrange_22 (by decide) ?_
        refine r_istoreA dX5_arrange_23 (by decide) ?_
        refine r_iconst (v := 0) dX5_arrange_25 (by decide) ?_
        refine r_istoreA dX5_arrange_26 (by decide) ?_
        refine r_fix (σ := Int32 × Int32 × Hp) (fun s5 => [some (.ref 31), some (.int x1_), some (.int x2_), some (.int x3_), some (.int x4_), some (.int x5_), some (.int s5.1), some (.int s5.2.1), none, none]) (fun s5 => s5.2.2) (fun self6 ih7 s5 hf => ?_) F ((0 : Int32), (0 : Int32), h) hf
        refine r_iload dX5_arrange_28 rfl ?_
        refine r_aload_n dX5_arrange_30 rfl ?_
        refine r_getI dX5_arrange_31 sh_31 ft_X5_49 rfl ?_
        refine r_icmp_ge 154 dX5_arrange_34 (by decide) hf (fun c44 hf => ?_) (fun c44 hf => ?_)
        · refine r_aload_n dX5_arrange_154 rfl ?_
          refine r_iload_n dX5_arrange_155 rfl ?_
          refine r_iload dX5_arrange_156 rfl ?_
          obtain ⟨v8, hv, hf⟩ := bnd hf
          refine r_callS (lv := 1) dX5_arrange_158 yo_J6_bitCount_0f7a4 ys_J6_bitCount_0f7a4 ml_X5_78 ya_J6_bitCount_0f7a4 (Fits.vm (by omega)) rfl rfl (Nat.le_of_ble_eq_true rfl) (S_J6_bitCount_0f7a4 s5.1 s5.2.2  _ hv) ?_
          refine r_iadd dX5_arrange_161 ?_
          refine r_iload_n dX5_arrange_162 rfl ?_
          obtain ⟨v9, hv, hf⟩ := bnd hf
          refine r_callV (lv := 1) dX5_arrange_163 yo_X5_beats yi_X5_beats ml_X5_83 ya_X5_beats sh_31 ⟨_, rfl, rfl⟩ (Fits.vm (by omega)) rfl rfl (Nat.le_of_ble_eq_true rfl) (S_X5_beats (x1_ + v8) x3_ s5.2.2  _ hv) ?_
          refine r_if_ne 170 dX5_arrange_166 (by decide) hf (fun c26 hf => ?_) (fun c26 hf => ?_)
          · refine r_iconst (v := 0) dX5_arrange_170 (by decide) ?_
            refine r_istoreA dX5_arrange_171 (by decide) ?_
            refine r_fix (σ := Int32 × Hp) (fun s10 => [some (.ref 31), some (.int x1_), some (.int x2_), some (.int x3_), some (.int x4_), some (.int x5_), some (.int s5.1), some (.int s10.1), none, none]) (fun s10 => s10.2) (fun self11 ih12 s10 hf => ?_) F ((0 : Int32), s5.2.2) hf
            refine r_iload dX5_arrange_173 rfl ?_
            refine r_aload_n dX5_arrange_175 rfl ?_
            refine r_getI dX5_arrange_176 sh_31 ft_X5_49 rfl ?_
            refine r_icmp_ge 282 dX5_arrange_179 (by decide) hf (fun c25 hf => ?_) (fun c25 hf => ?_)
            · exact e_vH dX5_arrange_282 rfl hf
            · refine r_iload dX5_arrange_182 rfl ?_
              refine r_iconst (v := 1) dX5_arrange_184 (by decide) ?_
              refine r_iload dX5_arrange_185 rfl ?_
              refine r_ishl dX5_arrange_187 ?_
              refine r_iconst (v := -1) dX5_arrange_188 (by decide) ?_
              refine r_ixor dX5_arrange_189 ?_
              refine r_iand dX5_arrange_190 ?_
              refine r_istore dX5_arrange_191 (by decide) hf fun x13 hf => ?_
              refine r_iload_n dX5_arrange_193 rfl ?_
              refine r_iconst (v := 5) dX5_arrange_194 (by decide) ?_
              refine r_imul dX5_arrange_195 ?_
              refine r_iload dX5_arrange_196 rfl ?_
              refine r_iadd dX5_arrange_198 ?_
              refine r_istore dX5_arrange_199 (by decide) hf fun x14 hf => ?_
              refine r_iload dX5_arrange_201 rfl ?_
              refine r_iload dX5_arrange_203 rfl ?_
              refine r_ishr dX5_arrange_205 ?_
              refine r_iconst (v := 1) dX5_arrange_206 (by decide) ?_
              refine r_iand dX5_arrange_207 ?_
              refine r_iconst (v := 1) dX5_arrange_208 (by decide) ?_
              refine r_reg (P := fun t15 => Run Y_X5_arrange (VM (7 + (D + 1)) (none, r)) 276 [some (.ref 31), some (.int x1_), some (.int x2_), some (.int x3_), some (.int x4_), some (.int x5_), some (.int s5.1), some (.int s10.1), some (.int x13), some (.int x14)] [] t15) hf (fun t15 hf => ?_) (fun t15 key16 hf => ?_)
              · refine r_iincA (v := 1) dX5_arrange_276 rfl (by decide) (by decide) ?_
                refine r_goto 173 dX5_arrange_279 (by decide) ?_
                refine r_lt (ll_s (ll_s (ll_s (ll_s (ll_s (ll_s (ll_s (ll_s (ll_n (ll_n ll_0)))))))))) ?_
                exact ih12 _ hf
              · refine r_icmp_ne 250 dX5_arrange_209 (by decide) hf (fun c24 hf => ?_) (fun c24 hf => ?_)
                · refine r_iload dX5_arrange_250 rfl ?_
                  refine r_iload dX5_arrange_252 rfl ?_
                  refine r_icmp_eq 276 dX5_arrange_254 (by decide) hf (fun c19 hf => ?_) (fun c19 hf => ?_)
                  · cases hf; exact key16
                  · refine r_aload_n dX5_arrange_257 rfl ?_
                    refine r_getS (b := 35) dX5_arrange_258 sh_31 ft_X5_21 rfl rfl ?_
                    refine r_iload_n dX5_arrange_261 rfl ?_
                    refine r_iload dX5_arrange_262 rfl ?_
                    refine r_iast dX5_arrange_264 sh_35 hf fun h17 hf => ?_
                    refine r_aload_n dX5_arrange_265 rfl ?_
                    refine r_iload_n dX5_arrange_266 rfl ?_
                    refine r_iload_n dX5_arrange_267 rfl ?_
                    refine r_iload_n dX5_arrange_268 rfl ?_
                    refine r_iconst (v := 1) dX5_arrange_269 (by decide) ?_
                    refine r_iadd dX5_arrange_270 ?_
                    refine r_iload dX5_arrange_271 rfl ?_
                    obtain ⟨h18, hv, hf⟩ := bnd hf
                    refine r_callV (lv := 2) dX5_arrange_273 yo_X5_offer yi_X5_offer ml_X5_62 ya_X5_offer sh_31 ⟨_, rfl, rfl⟩ (Fits.vm (by omega)) rfl rfl (Nat.le_of_ble_eq_true rfl) (S_X5_offer F x1_ x3_ (x1_ + (1 : Int32)) x13 h17  _ hv) ?_
                    cases hf; exact key16
                · refine r_aload_n dX5_arrange_212 rfl ?_
                  refine r_getS (b := 35) dX5_arrange_213 sh_31 ft_X5_21 rfl rfl ?_
                  refine r_iload_n dX5_arrange_216 rfl ?_
                  refine r_iload dX5_arrange_217 rfl ?_
                  refine r_iast dX5_arrange_219 sh_35 hf fun h20 hf => ?_
                  refine r_aload_n dX5_arrange_220 rfl ?_
                  refine r_iload_n dX5_arrange_221 rfl ?_
                  refine r_iconst (v := 1) dX5_arrange_222 (by decide) ?_
                  refine r_iadd dX5_arrange_223 ?_
                  refine r_aload_n dX5_arrange_224 rfl ?_
                  refine r_getS (b := 36) dX5_arrange_225 sh_31 ft_X5_24 rfl rfl ?_
                  refine r_iload dX5_arrange_228 rfl ?_
                  refine r_iald dX5_arrange_230 sh_36 hf fun v21 hf => ?_
                  refine r_iload_n dX5_arrange_231 rfl ?_
                  refine r_aload_n dX5_arrange_232 rfl ?_
                  refine r_getS (b := 37) dX5_arrange_233 sh_31 ft_X5_27 rfl rfl ?_
                  refine r_iload dX5_arrange_236 rfl ?_
                  refine r_iald dX5_arrange_238 sh_37 hf fun v22 hf => ?_
                  refine r_iadd dX5_arrange_239 ?_
                  refine r_iload dX5_arrange_240 rfl ?_
                  refine r_iload dX5_arrange_242 rfl ?_
                  obtain ⟨h23, hv, hf⟩ := bnd hf
                  refine r_callV (lv := (7 + D)) dX5_arrange_244 yo_X5_arrange yi_X5_arrange ml_X5_87 ya_X5_arrange sh_31 ⟨_, rfl, rfl⟩ (Fits.vm (by omega)) rfl rfl (Nat.le_of_ble_eq_true rfl) (ihD (x1_ + (1 : Int32)) v21 (x3_ + v22) x13 s5.1 h20 _ hv) ?_
                  refine r_goto 276 dX5_arrange_247 (by decide) ?_
                  cases hf; exact key16
          · exact e_vH dX5_arrange_169 rfl hf
        · refine r_iload dX5_arrange_37 rfl ?_
          refine r_iload dX5_arrange_39 rfl ?_
          refine r_iand dX5_arrange_41 ?_
          refine r_iload dX5_arrange_42 rfl ?_
          refine r_ishr dX5_arrange_44 ?_
          refine r_iconst (v := 1) dX5_arrange_45 (by decide) ?_
          refine r_iand dX5_arrange_46 ?_
          refine r_iconst (v := 1) dX5_arrange_47 (by decide) ?_
          refine r_reg (P := fun t27 => Run Y_X5_arrange (VM (7 + (D + 1)) (none, r)) 56 [some (.ref 31), some (.int x1_), some (.int x2_), some (.int x3_), some (.int x4_), some (.int x5_), some (.int s5.1), some (.int s5.2.1), none, none] [.int t27] s5.2.2) hf (fun t27 hf => ?_) (fun t27 key28 hf => ?_)
          · refine r_istoreA dX5_arrange_56 (by decide) ?_
            refine r_iload dX5_arrange_58 rfl ?_
            refine r_reg (P := fun t30 => Run Y_X5_arrange (VM (7 + (D + 1)) (none, r)) 90 [some (.ref 31), some (.int x1_), some (.int x2_), some (.int x3_), some (.int x4_), some (.int x5_), some (.int s5.1), some (.int s5.2.1), some (.int t27), none] [.int t30.1] t30.2) hf (fun t30 hf => ?_) (fun t30 key31 hf => ?_)
            · refine r_istoreA dX5_arrange_90 (by decide) ?_
              refine r_iload dX5_arrange_92 rfl ?_
              refine r_bipush (v := -9) dX5_arrange_94 (by decide) ?_
              refine r_reg (P := fun t36 => Run Y_X5_arrange (VM (7 + (D + 1)) (none, r)) 148 [some (.ref 31), some (.int x1_), some (.int x2_), some (.int x3_), some (.int x4_), some (.int x5_), some (.int t36.1), some (.int s5.2.1), some (.int t27), some (.int t30.1)] [] t36.2) hf (fun t36 hf => ?_) (fun t36 key37 hf => ?_)
              · refine r_iincA (v := 1) dX5_arrange_148 rfl (by decide) (by decide) ?_
                refine r_goto 28 dX5_arrange_151 (by decide) ?_
                refine r_lt (ll_s (ll_s (ll_s (ll_s (ll_s (ll_s (ll_s (ll_s (ll_n (ll_n ll_0)))))))))) ?_
                exact ih7 _ hf
              · refine r_icmp_eq 148 dX5_arrange_96 (by decide) hf (fun c43 hf => ?_) (fun c43 hf => ?_)
                · cases hf; exact key37
                · refine r_iload dX5_arrange_99 rfl ?_
                  refine r_iconst (v := 1) dX5_arrange_101 (by decide) ?_
                  refine r_iload dX5_arrange_102 rfl ?_
                  refine r_ishl dX5_arrange_104 ?_
                  refine r_ior dX5_arrange_105 ?_
                  refine r_istore dX5_arrange_106 (by decide) hf fun x38 hf => ?_
                  refine r_aload_n dX5_arrange_108 rfl ?_
                  refine r_getS (b := 36) dX5_arrange_109 sh_31 ft_X5_24 rfl rfl ?_
                  refine r_iload_n dX5_arrange_112 rfl ?_
                  refine r_iconst (v := 5) dX5_arrange_113 (by decide) ?_
                  refine r_imul dX5_arrange_114 ?_
                  refine r_iload dX5_arrange_115 rfl ?_
                  refine r_iadd dX5_arrange_117 ?_
                  refine r_aload_n dX5_arrange_118 rfl ?_
                  refine r_getS (b := 23) dX5_arrange_119 sh_31 ft_X5_30 rfl rfl ?_
                  refine r_iload dX5_arrange_122 rfl ?_
                  obtain ⟨v39, hv, hf⟩ := bnd hf
                  refine r_callV (lv := 1) dX5_arrange_124 yo_X3_stand yi_X3_stand ml_X5_72 ya_X3_stand sh_23 ⟨_, rfl, rfl⟩ (Fits.vm (by omega)) rfl rfl (Nat.le_of_ble_eq_true rfl) (S_X3_stand t30.1 t30.2  _ hv) ?_
                  refine r_iast dX5_arrange_127 sh_36 hf fun h40 hf => ?_
                  refine r_aload_n dX5_arrange_128 rfl ?_
                  refine r_getS (b := 37) dX5_arrange_129 sh_31 ft_X5_27 rfl rfl ?_
                  refine r_iload_n dX5_arrange_132 rfl ?_
                  refine r_iconst (v := 5) dX5_arrange_133 (by decide) ?_
                  refine r_imul dX5_arrange_134 ?_
                  refine r_iload dX5_arrange_135 rfl ?_
                  refine r_iadd dX5_arrange_137 ?_
                  refine r_aload_n dX5_arrange_138 rfl ?_
                  refine r_getS (b := 23) dX5_arrange_139 sh_31 ft_X5_30 rfl rfl ?_
                  refine r_iload dX5_arrange_142 rfl ?_
                  obtain ⟨v41, hv, hf⟩ := bnd hf
                  refine r_callV (lv := 1) dX5_arrange_144 yo_X3_depth yi_X3_depth ml_X5_75 ya_X3_depth sh_23 ⟨_, rfl, rfl⟩ (Fits.vm (by omega)) rfl rfl (Nat.le_of_ble_eq_true rfl) (S_X3_depth t30.1 h40  _ hv) ?_
                  refine r_iast dX5_arrange_147 sh_37 hf fun h42 hf => ?_
                  cases hf; exact key37
            · refine r_if_eq 88 dX5_arrange_60 (by decide) hf (fun c35 hf => ?_) (fun c35 hf => ?_)
              · refine r_bipush (v := -9) dX5_arrange_88 (by decide) ?_
                cases hf; exact key31
              · refine r_aload_n dX5_arrange_63 rfl ?_
                refine r_getS (b := 23) dX5_arrange_64 sh_31 ft_X5_30 rfl rfl ?_
                refine r_iload_n dX5_arrange_67 rfl ?_
                refine r_aload_n dX5_arrange_68 rfl ?_
                refine r_getS (b := 32) dX5_arrange_69 sh_31 ft_X5_9 rfl rfl ?_
                refine r_iload dX5_arrange_72 rfl ?_
                refine r_iald dX5_arrange_74 sh_32 hf fun v32 hf => ?_
                refine r_aload_n dX5_arrange_75 rfl ?_
                refine r_getS (b := 33) dX5_arrange_76 sh_31 ft_X5_15 rfl rfl ?_
                refine r_iload dX5_arrange_79 rfl ?_
                refine r_iald dX5_arrange_81 sh_33 hf fun v33 hf => ?_
                obtain ⟨v34, hv, hf⟩ := bnd hf
                refine r_callV (lv := 6) dX5_arrange_82 yo_X3_nearest yi_X3_nearest ml_X5_66 ya_X3_nearest sh_23 ⟨_, rfl, rfl⟩ (Fits.vm (by omega)) rfl rfl (Nat.le_of_ble_eq_true rfl) (S_X3_nearest F x2_ v32 v33 s5.2.2  _ hv) ?_
                refine r_goto 90 dX5_arrange_85 (by decide) ?_
                cases hf; exact key31
          · refine r_icmp_ne 55 dX5_arrange_48 (by decide) hf (fun c29 hf => ?_) (fun c29 hf => ?_)
            · refine r_iconst (v := 0) dX5_arrange_55 (by decide) ?_
              cases hf; exact key28
            · refine r_iconst (v := 1) dX5_arrange_51 (by decide) ?_
              refine r_goto 56 dX5_arrange_52 (by decide) ?_
              cases hf; exact key28
      · exact ih3 _ hf
