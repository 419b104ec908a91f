def f_X2_follow (F : Nat) (a1 : Nat) (x2_ : Int32) (x3_ : Int32) (h : Hp) : Option Hp :=
  nm (sR h 22 0 (some a1)) fun h1 =>
  nm (sI h1 22 2 x3_) fun h2 =>
  nm (sI h2 22 1 (0 : Int32)) fun h3 =>
  fix (σ := Int32 × Hp) (ρ := Hp) (fun self5 s4 =>
    (if (gI s4.2 a1 2) ≤ s4.1 then (
      some s4.2)
    else (
      (f_X6_lineOf a1 s4.1 s4.2).bind fun v7 =>
      (Option.bind (α := Hp) (
        (if v7 < ((gI s4.2 a1 1) - x2_) then (
          some s4.2)
        else (
          nm (sI s4.2 22 1 ((gI s4.2 22 1) ||| ((1 : Int32) <<< (s4.1 &&& 31)))) fun h10 =>
          some h10))) fun t8 =>
      self5 ((s4.1 + 1), t8))))) F ((0 : Int32), h3)
set_option maxRecDepth 100000 in
set_option maxHeartbeats 4000000 in
theorem S_X2_follow (F : Nat) (a1 : Nat) (x2_ : Int32) (x3_ : Int32) (k1 : sh a1 = (0, 6, 14)) (h : Hp) (r : Hp) (hf : f_X2_follow F a1 x2_ x3_ h = some r) : MetP Y_X2_follow 2 [.ref 22, .ref a1, .int x2_, .int x3_] h (none, r) := by
  unfold f_X2_follow at hf
  refine met_of yo_X2_follow (Nat.le_of_ble_eq_true rfl) ?_
  show Run Y_X2_follow _ 0 [some (.ref 22), some (.ref a1), some (.int x2_), some (.int x3_), none] [] h
  refine r_aload_n dX2_follow_0 rfl ?_
  refine r_aload_n dX2_follow_1 rfl ?_
  refine r_putR dX2_follow_2 sh_22 ft_X2_9 rfl hf fun h1 hf => ?_
  refine r_aload_n dX2_follow_5 rfl ?_
  refine r_iload_n dX2_follow_6 rfl ?_
  refine r_putI dX2_follow_7 sh_22 ft_X2_15 rfl hf fun h2 hf => ?_
  refine r_aload_n dX2_follow_10 rfl ?_
  refine r_iconst (v := 0) dX2_follow_11 (by decide) ?_
  refine r_putI dX2_follow_12 sh_22 ft_X2_19 rfl hf fun h3 hf => ?_
  refine r_iconst (v := 0) dX2_follow_15 (by decide) ?_
  refine r_istoreA dX2_follow_16 (by decide) ?_
  refine r_fix (σ := Int32 × Hp) (fun s4 => [some (.ref 22), some (.ref a1), some (.int x2_), some (.int x3_), some (.int s4.1)]) (fun s4 => s4.2) (fun self5 ih6 s4 hf => ?_) F ((0 : Int32), h3) hf
  refine r_iload dX2_follow_18 rfl ?_
  refine r_aload_n dX2_follow_20 rfl ?_
  refine r_getI dX2_follow_21 k1 ft_X2_22 rfl ?_
  refine r_icmp_ge 61 dX2_follow_24 (by decide) hf (fun c12 hf => ?_) (fun c12 hf => ?_)
  · exact e_vH dX2_follow_61 rfl hf
  · refine r_aload_n dX2_follow_27 rfl ?_
    refine r_iload dX2_follow_28 rfl ?_
    obtain ⟨v7, hv, hf⟩ := bnd hf
    refine r_callV (lv := 1) dX2_follow_30 yo_X6_lineOf yi_X6_lineOf ml_X2_27 ya_X6_lineOf k1 ⟨_, rfl, rfl⟩ (Fits.vm (by decide)) rfl rfl (Nat.le_of_ble_eq_true rfl) (S_X6_lineOf a1 s4.1 k1 s4.2  _ hv) ?_
    refine r_aload_n dX2_follow_33 rfl ?_
    refine r_getI dX2_follow_34 k1 ft_X2_31 rfl ?_
    refine r_iload_n dX2_follow_37 rfl ?_
    refine r_isub dX2_follow_38 ?_
    refine r_reg (P := fun t8 => Run Y_X2_follow (VM 2 (none, r)) 55 [some (.ref 22), some (.ref a1), some (.int x2_), some (.int x3_), some (.int s4.1)] [] t8) hf (fun t8 hf => ?_) (fun t8 key9 hf => ?_)
    · refine r_iincA (v := 1) dX2_follow_55 rfl (by decide) (by decide) ?_
      refine r_goto 18 dX2_follow_58 (by decide) ?_
      exact ih6 _ hf
    · refine r_icmp_lt 55 dX2_follow_39 (by decide) hf (fun c11 hf => ?_) (fun c11 hf => ?_)
      · cases hf; exact key9
      · refine r_aload_n dX2_follow_42 rfl ?_
        refine r_dup dX2_follow_43 rfl ?_
        refine r_getI dX2_follow_44 sh_22 ft_X2_19 rfl ?_
        refine r_iconst (v := 1) dX2_follow_47 (by decide) ?_
        refine r_iload dX2_follow_48 rfl ?_
        refine r_ishl dX2_follow_50 ?_
        refine r_ior dX2_follow_51 ?_
        refine r_putI dX2_follow_52 sh_22 ft_X2_19 rfl hf fun h10 hf => ?_
        cases hf; exact key9
def f_X7_cellOf (x0_ : Int32) (x1_ : Int32) (h : Hp) : Option Int32 :=
  (Option.bind (α := Int32) (
    (if x1_ < 0 then (
      some (-9 : Int32))
    else (
      (if x1_ < (4 : Int32) then (
        (ldT 0 x1_).bind fun v3 =>
        (dvI x0_ v3).bind fun v4 =>
        some (rem32 v4 (12 : Int32)))
      else (
        some (-9 : Int32)))))) fun t1 =>
  some t1)
set_option maxRecDepth 100000 in
set_option maxHeartbeats 4000000 in
theorem S_X7_cellOf (x0_ : Int32) (x1_ : Int32) (h : Hp) (r : Int32) (hf : f_X7_cellOf x0_ x1_ h = some r) : MetP Y_X7_cellOf 1 [.int x0_, .int x1_] h (some (.int r), h) := by
  unfold f_X7_cellOf at hf
  refine met_of yo_X7_cellOf (Nat.le_of_ble_eq_true rfl) ?_
  show Run Y_X7_cellOf _ 0 [some (.int x0_), some (.int x1_)] [] h
  refine r_iload_n dX7_cellOf_0 rfl ?_
  refine r_reg (P := fun t1 => Run Y_X7_cellOf (VM 1 (some (.int r), h)) 24 [some (.int x0_), some (.int x1_)] [.int t1] h) hf (fun t1 hf => ?_) (fun t1 key2 hf => ?_)
  · exact e_iP dX7_cellOf_24 rfl hf
  · refine r_if_lt 9 dX7_cellOf_1 (by decide) hf (fun c6 hf => ?_) (fun c6 hf => ?_)
    · refine r_bipush (v := -9) dX7_cellOf_9 (by decide) ?_
      refine r_goto 24 dX7_cellOf_11 (by decide) ?_
      cases hf; exact key2
    · refine r_iload_n dX7_cellOf_4 rfl ?_
      refine r_iconst (v := 4) dX7_cellOf_5 (by decide) ?_
      refine r_icmp_lt 14 dX7_cellOf_6 (by decide) hf (fun c5 hf => ?_) (fun c5 hf => ?_)
      · refine r_iload_n dX7_cellOf_14 rfl ?_
        refine r_gets 0 (by decide) dX7_cellOf_15 fs_X7_380 ?_
        refine r_iload_n dX7_cellOf_18 rfl ?_
        refine r_tald (by decide) dX7_cellOf_19 hf fun v3 hf => ?_
        refine r_idiv dX7_cellOf_20 hf fun v4 hf => ?_
        refine r_bipush (v := 12) dX7_cellOf_21 (by decide) ?_
        refine r_iremK dX7_cellOf_23 (by decide) ?_
        cases hf; exact key2
      · refine r_bipush (v := -9) dX7_cellOf_9 (by decide) ?_
        refine r_goto 24 dX7_cellOf_11 (by decide) ?_
        cases hf; exact key2
def f_X2_taken (F : Nat) (x1_ : Int32) (h : Hp) : Option Int32 :=
  fix (σ := Int32 × Int32) (ρ := Int32) (fun self2 s1 =>
    (gO h 22 0 (0, 6, 14)).bind fun y4 =>
    (if (gI h y4 4) ≤ s1.2 then (
      some s1.1)
    else (
      (ldT 0 s1.2).bind fun v5 =>
      (dvI x1_ v5).bind fun v6 =>
      nm ((s1.1 ||| ((1 : Int32) <<< ((rem32 v6 (12 : Int32)) &&& 31)))) fun x7 =>
      self2 (x7, (s1.2 + 1))))) F ((0 : Int32), (0 : Int32))
set_option maxRecDepth 100000 in
set_option maxHeartbeats 4000000 in
theorem S_X2_taken (F : Nat) (x1_ : Int32) (h : Hp) (r : Int32) (hf : f_X2_taken F x1_ h = some r) : MetP Y_X2_taken 1 [.ref 22, .int x1_] h (some (.int r), h) := by
  unfold f_X2_taken at hf
  refine met_of yo_X2_taken (Nat.le_of_ble_eq_true rfl) ?_
  show Run Y_X2_taken _ 0 [some (.ref 22), some (.int x1_), none, none] [] h
  refine r_iconst (v := 0) dX2_taken_0 (by decide) ?_
  refine r_istore_nA dX2_taken_1 (by decide) ?_
  refine r_iconst (v := 0) dX2_taken_2 (by decide) ?_
  refine r_istore_nA dX2_taken_3 (by decide) ?_
  refine r_fix (σ := Int32 × Int32) (fun s1 => [some (.ref 22), some (.int x1_), some (.int s1.1), some (.int s1.2)]) (fun s1 => h) (fun self2 ih3 s1 hf => ?_) F ((0 : Int32), (0 : Int32)) hf
  refine r_iload_n dX2_taken_4 rfl ?_
  refine r_aload_n dX2_taken_5 rfl ?_
  refine r_getR (E := (0, 6, 14)) dX2_taken_6 sh_22 ft_X2_9 rfl hf fun y4 hy4 hf => ?_
  refine r_getI dX2_taken_9 hy4 ft_X2_34 rfl ?_
  refine r_icmp_ge 36 dX2_taken_12 (by decide) hf (fun c8 hf => ?_) (fun c8 hf => ?_)
  · refine r_iload_n dX2_taken_36 rfl ?_
    exact e_iP dX2_taken_37 rfl hf
  · refine r_iload_n dX2_taken_15 rfl ?_
    refine r_iconst (v := 1) dX2_taken_16 (by decide) ?_
    refine r_iload_n dX2_taken_17 rfl ?_
    refine r_getsN 0 (by decide) dX2_taken_18 (by decide +kernel) ?_
    refine r_iload_n dX2_taken_21 rfl ?_
    refine r_tald (by decide) dX2_taken_22 hf fun v5 hf => ?_
    refine r_idiv dX2_taken_23 hf fun v6 hf => ?_
    refine r_bipush (v := 12) dX2_taken_24 (by decide) ?_
    refine r_iremK dX2_taken_26 (by decide) ?_
    refine r_ishl dX2_taken_27 ?_
    refine r_ior dX2_taken_28 ?_
    refine r_istore_n dX2_taken_29 (by decide) hf fun x7 hf => ?_
    refine r_iincA (v := 1) dX2_taken_30 rfl (by decide) (by decide) ?_
    refine r_goto 4 dX2_taken_33 (by decide) ?_
    exact ih3 _ hf
def f_X6_tooFar (F : Nat) (a0 : Nat) (x1_ : Int32) (x2_ : Int32) (h : Hp) : Option Int32 :=
  fix (σ := Int32 × Int32) (ρ := Int32) (fun self2 s1 =>
    (if (gI h a0 5) ≤ s1.2 then (
      some s1.1)
    else (
      (Option.bind (α := Int32) (
        (if (gI h a0 4) ≤ (s1.2 + (1 : Int32)) then (
          some (0 : Int32))
        else (
          some (s1.2 + (1 : Int32))))) fun t4 =>
      (ldT 0 s1.2).bind fun v7 =>
      (dvI x1_ v7).bind fun v8 =>
      (ldT 0 t4).bind fun v9 =>
      (dvI x1_ v9).bind fun v10 =>
      (Option.bind (α := Int32) (
        (if ((x2_ >>> (s1.2 &&& 31)) &&& (1 : Int32)) = 0 then (
          (ldI h (rf a0 11) (((rem32 v8 (12 : Int32)) * (12 : Int32)) + (rem32 v10 (12 : Int32)))).bind fun v13 =>
          (ldI h (rf a0 10) s1.2).bind fun v14 =>
          (if v13 ≤ v14 then (
            some s1.1)
          else (
            nm ((s1.1 ||| ((1 : Int32) <<< (s1.2 &&& 31)))) fun x15 =>
            some x15)))
        else (
          some s1.1))) fun t11 =>
      self2 (t11, (s1.2 + 1))))))) F ((0 : Int32), (0 : Int32))
set_option maxRecDepth 100000 in
set_option maxHeartbeats 4000000 in
theorem S_X6_tooFar (F : Nat) (a0 : Nat) (x1_ : Int32) (x2_ : Int32) (k0 : sh a0 = (0, 6, 14)) (h : Hp) (r : Int32) (hf : f_X6_tooFar F a0 x1_ x2_ h = some r) : MetP Y_X6_tooFar 1 [.ref a0, .int x1_, .int x2_] h (some (.int r), h) := by
  unfold f_X6_tooFar at hf
  refine met_of yo_X6_tooFar (Nat.le_of_ble_eq_true rfl) ?_
  show Run Y_X6_tooFar _ 0 [some (.ref a0), some (.int x1_), some (.int x2_), none, none, none, none, none] [] h
  refine r_iconst (v := 0) dX6_tooFar_0 (by decide) ?_
  refine r_istore_nA dX6_tooFar_1 (by decide) ?_
  refine r_iconst (v := 0) dX6_tooFar_2 (by decide) ?_
  refine r_istoreA dX6_tooFar_3 (by decide) ?_
  refine r_fix (σ := Int32 × Int32) (fun s1 => [some (.ref a0), some (.int x1_), some (.int x2_), some (.int s1.1), some (.int s1.2), none, none, none]) (fun s1 => h) (fun self2 ih3 s1 hf => ?_) F ((0 : Int32), (0 : Int32)) hf
  refine r_iload dX6_tooFar_5 rfl ?_
  refine r_aload_n dX6_tooFar_7 rfl ?_
  refine r_getI dX6_tooFar_8 k0 ft_X6_49 rfl ?_
  refine r_icmp_ge 106 dX6_tooFar_11 (by decide) hf (fun c18 hf => ?_) (fun c18 hf => ?_)
  · refine r_iload_n dX6_tooFar_106 rfl ?_
    exact e_iP dX6_tooFar_107 rfl hf
  · refine r_iload dX6_tooFar_14 rfl ?_
    refine r_iconst (v := 1) dX6_tooFar_16 (by decide) ?_
    refine r_iadd dX6_tooFar_17 ?_
    refine r_aload_n dX6_tooFar_18 rfl ?_
    refine r_getI dX6_tooFar_19 k0 ft_X6_46 rfl ?_
    refine r_reg (P := fun t4 => Run Y_X6_tooFar (VM 1 (some (.int r), h)) 33 [some (.ref a0), some (.int x1_), some (.int x2_), some (.int s1.1), some (.int s1.2), none, none, none] [.int t4] h) hf (fun t4 hf => ?_) (fun t4 key5 hf => ?_)
    · refine r_istoreA dX6_tooFar_33 (by decide) ?_
      refine r_iload_n dX6_tooFar_35 rfl ?_
      refine r_getsN 0 (by decide) dX6_tooFar_36 (by decide +kernel) ?_
      refine r_iload dX6_tooFar_39 rfl ?_
      refine r_tald (by decide) dX6_tooFar_41 hf fun v7 hf => ?_
      refine r_idiv dX6_tooFar_42 hf fun v8 hf => ?_
      refine r_bipush (v := 12) dX6_tooFar_43 (by decide) ?_
      refine r_iremK dX6_tooFar_45 (by decide) ?_
      refine r_istoreA dX6_tooFar_46 (by decide) ?_
      refine r_iload_n dX6_tooFar_48 rfl ?_
      refine r_getsN 0 (by decide) dX6_tooFar_49 (by decide +kernel) ?_
      refine r_iload dX6_tooFar_52 rfl ?_
      refine r_tald (by decide) dX6_tooFar_54 hf fun v9 hf => ?_
      refine r_idiv dX6_tooFar_55 hf fun v10 hf => ?_
      refine r_bipush (v := 12) dX6_tooFar_56 (by decide) ?_
      refine r_iremK dX6_tooFar_58 (by decide) ?_
      refine r_istoreA dX6_tooFar_59 (by decide) ?_
      refine r_iload_n dX6_tooFar_61 rfl ?_
      refine r_iload dX6_tooFar_62 rfl ?_
      refine r_ishr dX6_tooFar_64 ?_
      refine r_iconst (v := 1) dX6_tooFar_65 (by decide) ?_
      refine r_iand dX6_tooFar_66 ?_
      refine r_reg (P := fun t11 => Run Y_X6_tooFar (VM 1 (some (.int r), h)) 100 [some (.ref a0), some (.int x1_), some (.int x2_), some (.int t11), some (.int s1.2), some (.int t4), some (.int (rem32 v8 (12 : Int32))), some (.int (rem32 v10 (12 : Int32)))] [] h) hf (fun t11 hf => ?_) (fun t11 key12 hf => ?_)
      · refine r_iincA (v := 1) dX6_tooFar_100 rfl (by decide) (by decide) ?_
        refine r_goto 5 dX6_tooFar_103 (by decide) ?_
        refine r_lt (ll_s (ll_s (ll_s (ll_s (ll_s (ll_n (ll_n (ll_n ll_0)))))))) ?_
        exact ih3 _ hf
      · refine r_if_ne 100 dX6_tooFar_67 (by decide) hf (fun c17 hf => ?_) (fun c17 hf => ?_)
        · cases hf; exact key12
        · refine r_aload_n dX6_tooFar_70 rfl ?_
          refine r_getS (b := rf a0 11) dX6_tooFar_71 k0 ft_X6_24 rfl rfl ?_
          refine r_iload dX6_tooFar_74 rfl ?_
          refine r_bipush (v := 12) dX6_tooFar_76 (by decide) ?_
          refine r_imul dX6_tooFar_78 ?_
          refine r_iload dX6_tooFar_79 rfl ?_
          refine r_iadd dX6_tooFar_81 ?_
          refine r_iald dX6_tooFar_82 (sf_6_11 k0) hf fun v13 hf => ?_
          refine r_aload_n dX6_tooFar_83 rfl ?_
          refine r_getS (b := rf a0 10) dX6_tooFar_84 k0 ft_X6_21 rfl rfl ?_
          refine r_iload dX6_tooFar_87 rfl ?_
          refine r_iald dX6_tooFar_89 (sf_6_10 k0) hf fun v14 hf => ?_
          refine r_icmp_le 100 dX6_tooFar_90 (by decide) hf (fun c16 hf => ?_) (fun c16 hf => ?_)
          · cases hf; exact key12
          · refine r_iload_n dX6_tooFar_93 rfl ?_
            refine r_iconst (v := 1) dX6_tooFar_94 (by decide) ?_
            refine r_iload dX6_tooFar_95 rfl ?_
            refine r_ishl dX6_tooFar_97 ?_
            refine r_ior dX6_tooFar_98 ?_
            refine r_istore_n dX6_tooFar_99 (by decide) hf fun x15 hf => ?_
            cases hf; exact key12
    · refine r_icmp_ge 32 dX6_tooFar_22 (by decide) hf (fun c6 hf => ?_) (fun c6 hf => ?_)
      · refine r_iconst (v := 0) dX6_tooFar_32 (by decide) ?_
        cases hf; exact key5
      · refine r_iload dX6_tooFar_25 rfl ?_
        refine r_iconst (v := 1) dX6_tooFar_27 (by decide) ?_
        refine r_iadd dX6_tooFar_28 ?_
        refine r_goto 33 dX6_tooFar_29 (by decide) ?_
        cases hf; exact key5
def f_X2_takingAlong (F : Nat) (x1_ : Int32) (x2_ : Int32) (x3_ : Int32) (x4_ : Int32) (h : Hp) : Option Int32 :=
  fix (σ := Int32 × Int32) (ρ := Int32) (fun self2 s1 =>
    (gO h 22 0 (0, 6, 14)).bind fun y4 =>
    (if (gI h y4 5) ≤ s1.2 then (
      (if s1.1 = (-9 : Int32) then (
        some (-9 : Int32))
      else (
        (ldT 0 s1.1).bind fun v5 =>
        (dvI x1_ v5).bind fun v6 =>
        (ldT 0 s1.1).bind fun v7 =>
        some (x1_ + ((x3_ - (rem32 v6 (12 : Int32))) * v7)))))
    else (
      (gO h 22 0 (0, 6, 14)).bind fun y9 =>
      (ldI h (rf y9 13) ((s1.2 * (4 : Int32)) + x2_)).bind fun v10 =>
      (if ((x4_ >>> (s1.2 &&& 31)) &&& (1 : Int32)) = (1 : Int32) then (
        (if v10 = (-9 : Int32) then (
          self2 (s1.1, (s1.2 + 1)))
        else (
          (gO h 22 0 (0, 6, 14)).bind fun y11 =>
          (ldI h (rf y11 7) v10).bind fun v12 =>
          (if v12 = (2 : Int32) then (
            (if s1.1 = (-9 : Int32) then (
              (if (((gI h 22 1) >>> (x3_ &&& 31)) &&& (1 : Int32)) = (1 : Int32) then (
                some (-9 : Int32))
              else (
                self2 (v10, (s1.2 + 1)))))
            else (
              some (-9 : Int32))))
          else (
            self2 (s1.1, (s1.2 + 1)))))))
      else (
        self2 (s1.1, (s1.2 + 1))))))) F ((-9 : Int32), (0 : Int32))
set_option maxRecDepth 100000 in
set_option maxHeartbeats 4000000 in
theorem S_X2_takingAlong (F : Nat) (x1_ : Int32) (x2_ : Int32) (x3_ : Int32) (x4_ : Int32) (h : Hp) (r : Int32) (hf : f_X2_takingAlong F x1_ x2_ x3_ x4_ h = some r) : MetP Y_X2_takingAlong 1 [.ref 22, .int x1_, .int x2_, .int x3_, .int x4_] h (some (.int r), h) := by
  unfold f_X2_takingAlong at hf
  refine met_of yo_X2_takingAlong (Nat.le_of_ble_eq_true rfl) ?_
  show Run Y_X2_takingAlong _ 0 [some (.ref 22), some (.int x1_), some (.int x2_), some (.int x3_), some (.int x4_), none, none, none] [] h
  refine r_bipush (v := -9) dX2_takingAlong_0 (by decide) ?_
  refine r_istoreA dX2_takingAlong_2 (by decide) ?_
  refine r_iconst (v := 0) dX2_takingAlong_4 (by decide) ?_
  refine r_istoreA dX2_takingAlong_5 (by decide) ?_
  refine r_fix (σ := Int32 × Int32) (fun s1 => [some (.ref 22), some (.int x1_), some (.int x2_), some (.int x3_), some (.int x4_), some (.int s1.1), some (.int s1.2), none]) (fun s1 => h) (fun self2 ih3 s1 hf => ?_) F ((-9 : Int32), (0 : Int32)) hf
  refine r_iload dX2_takingAlong_7 rfl ?_
  refine r_aload_n dX2_takingAlong_9 rfl ?_
  refine r_getR (E := (0, 6, 14)) dX2_takingAlong_10 sh_22 ft_X2_9 rfl hf fun y4 hy4 hf => ?_
  refine r_getI dX2_takingAlong_13 hy4 ft_X2_64 rfl ?_
  refine r_icmp_ge 99 dX2_takingAlong_16 (by decide) hf (fun c18 hf => ?_) (fun c18 hf => ?_)
  · refine r_iload dX2_takingAlong_99 rfl ?_
    refine r_bipush (v := -9) dX2_takingAlong_101 (by decide) ?_
    refine r_icmp_ne 109 dX2_takingAlong_103 (by decide) hf (fun c8 hf => ?_) (fun c8 hf => ?_)
    · refine r_iload_n dX2_takingAlong_109 rfl ?_
      refine r_getsN 0 (by decide) dX2_takingAlong_110 (by decide +kernel) ?_
      refine r_iload dX2_takingAlong_113 rfl ?_
      refine r_tald (by decide) dX2_takingAlong_115 hf fun v5 hf => ?_
      refine r_idiv dX2_takingAlong_116 hf fun v6 hf => ?_
      refine r_bipush (v := 12) dX2_takingAlong_117 (by decide) ?_
      refine r_iremK dX2_takingAlong_119 (by decide) ?_
      refine r_istoreA dX2_takingAlong_120 (by decide) ?_
      refine r_iload_n dX2_takingAlong_122 rfl ?_
      refine r_iload_n dX2_takingAlong_123 rfl ?_
      refine r_iload dX2_takingAlong_124 rfl ?_
      refine r_isub dX2_takingAlong_126 ?_
      refine r_getsN 0 (by decide) dX2_takingAlong_127 (by decide +kernel) ?_
      refine r_iload dX2_takingAlong_130 rfl ?_
      refine r_tald (by decide) dX2_takingAlong_132 hf fun v7 hf => ?_
      refine r_imul dX2_takingAlong_133 ?_
      refine r_iadd dX2_takingAlong_134 ?_
      exact e_iP dX2_takingAlong_135 rfl hf
    · refine r_bipush (v := -9) dX2_takingAlong_106 (by decide) ?_
      exact e_iP dX2_takingAlong_108 rfl hf
  · refine r_aload_n dX2_takingAlong_19 rfl ?_
    refine r_getR (E := (0, 6, 14)) dX2_takingAlong_20 sh_22 ft_X2_9 rfl hf fun y9 hy9 hf => ?_
    refine r_getS (b := rf y9 13) dX2_takingAlong_23 hy9 ft_X2_67 rfl rfl ?_
    refine r_iload dX2_takingAlong_26 rfl ?_
    refine r_iconst (v := 4) dX2_takingAlong_28 (by decide) ?_
    refine r_imul dX2_takingAlong_29 ?_
    refine r_iload_n dX2_takingAlong_30 rfl ?_
    refine r_iadd dX2_takingAlong_31 ?_
    refine r_iald dX2_takingAlong_32 (sf_6_13 hy9) hf fun v10 hf => ?_
    refine r_istoreA dX2_takingAlong_33 (by decide) ?_
    refine r_iload dX2_takingAlong_35 rfl ?_
    refine r_iload dX2_takingAlong_37 rfl ?_
    refine r_ishr dX2_takingAlong_39 ?_
    refine r_iconst (v := 1) dX2_takingAlong_40 (by decide) ?_
    refine r_iand dX2_takingAlong_41 ?_
    refine r_iconst (v := 1) dX2_takingAlong_42 (by decide) ?_
    refine r_icmp_ne 93 dX2_takingAlong_43 (by decide) hf (fun c17 hf => ?_) (fun c17 hf => ?_)
    · refine r_iincA (v := 1) dX2_takingAlong_93 rfl (by decide) (by decide) ?_
      refine r_goto 7 dX2_takingAlong_96 (by decide) ?_
      refine r_lt (ll_s (ll_s (ll_s (ll_s (ll_s (ll_s (ll_s (ll_n ll_0)))))))) ?_
      exact ih3 _ hf
    · refine r_iload dX2_takingAlong_46 rfl ?_
      refine r_bipush (v := -9) dX2_takingAlong_48 (by decide) ?_
      refine r_icmp_eq 93 dX2_takingAlong_50 (by decide) hf (fun c16 hf => ?_) (fun c16 hf => ?_)
      · refine r_iincA (v := 1) dX2_takingAlong_93 rfl (by decide) (by decide) ?_
        refine r_goto 7 dX2_takingAlong_96 (by decide) ?_
        refine r_lt (ll_s (ll_s (ll_s (ll_s (ll_s (ll_s (ll_s (ll_n ll_0)))))))) ?_
        exact ih3 _ hf
      · refine r_aload_n dX2_takingAlong_53 rfl ?_
        refine r_getR (E := (0, 6, 14)) dX2_takingAlong_54 sh_22 ft_X2_9 rfl hf fun y11 hy11 hf => ?_
        refine r_getS (b := rf y11 7) dX2_takingAlong_57 hy11 ft_X2_41 rfl rfl ?_
        refine r_iload dX2_takingAlong_60 rfl ?_
        refine r_iald dX2_takingAlong_62 (sf_6_7 hy11) hf fun v12 hf => ?_
        refine r_iconst (v := 2) dX2_takingAlong_63 (by decide) ?_
        refine r_icmp_ne 93 dX2_takingAlong_64 (by decide) hf (fun c15 hf => ?_) (fun c15 hf => ?_)
        · refine r_iincA (v := 1) dX2_takingAlong_93 rfl (by decide) (by decide) ?_
          refine r_goto 7 dX2_takingAlong_96 (by decide) ?_
          refine r_lt (ll_s (ll_s (ll_s (ll_s (ll_s (ll_s (ll_s (ll_n ll_0)))))))) ?_
          exact ih3 _ hf
        · refine r_iload dX2_takingAlong_67 rfl ?_
          refine r_bipush (v := -9) dX2_takingAlong_69 (by decide) ?_
          refine r_icmp_ne 86 dX2_takingAlong_71 (by decide) hf (fun c14 hf => ?_) (fun c14 hf => ?_)
          · refine r_bipush (v := -9) dX2_takingAlong_86 (by decide) ?_
            exact e_iP dX2_takingAlong_88 rfl hf
          · refine r_aload_n dX2_takingAlong_74 rfl ?_
            refine r_getI dX2_takingAlong_75 sh_22 ft_X2_19 rfl ?_
            refine r_iload_n dX2_takingAlong_78 rfl ?_
            refine r_ishr dX2_takingAlong_79 ?_
            refine r_iconst (v := 1) dX2_takingAlong_80 (by decide) ?_
            refine r_iand dX2_takingAlong_81 ?_
            refine r_iconst (v := 1) dX2_takingAlong_82 (by decide) ?_
            refine r_icmp_ne 89 dX2_takingAlong_83 (by decide) hf (fun c13 hf => ?_) (fun c13 hf => ?_)
            · refine r_iload dX2_takingAlong_89 rfl ?_
              refine r_istoreA dX2_takingAlong_91 (by decide) ?_
              refine r_iincA (v := 1) dX2_takingAlong_93 rfl (by decide) (by decide) ?_
              refine r_goto 7 dX2_takingAlong_96 (by decide) ?_
              refine r_lt (ll_s (ll_s (ll_s (ll_s (ll_s (ll_s (ll_s (ll_n ll_0)))))))) ?_
              exact ih3 _ hf
            · refine r_bipush (v := -9) dX2_takingAlong_86 (by decide) ?_
              exact e_iP dX2_takingAlong_88 rfl hf
def f_X2_after (F : Nat) (x1_ : Int32) (x2_ : Int32) (x3_ : Int32) (h : Hp) : Option Int32 :=
  (if x2_ < 0 then (
    some (-9 : Int32))
  else (
    (gO h 22 0 (0, 6, 14)).bind fun y1 =>
    (if (gI h y1 4) ≤ x2_ then (
      some (-9 : Int32))
    else (
      (if x3_ < 0 then (
        some (-9 : Int32))
      else (
        (if (4 : Int32) ≤ x3_ then (
          some (-9 : Int32))
        else (
          (gO h 22 0 (0, 6, 14)).bind fun y2 =>
          (ldI h (rf y2 7) x2_).bind fun v3 =>
          (ldT 2 v3).bind fun v4 =>
          (if ((v4 >>> (x3_ &&& 31)) &&& (1 : Int32)) = 0 then (
            some (-9 : Int32))
          else (
            (f_X7_cellOf x1_ x2_ h).bind fun v5 =>
            (gO h 22 0 (0, 6, 14)).bind fun y6 =>
            (ldI h (rf y6 12) ((v5 * (4 : Int32)) + x3_)).bind fun v7 =>
            (if v7 = (-9 : Int32) then (
              some (-9 : Int32))
            else (
              (f_X2_taken F x1_ h).bind fun v8 =>
              (if ((((gI h 22 1) ||| v8) >>> (v7 &&& 31)) &&& (1 : Int32)) = (1 : Int32) then (
                some (-9 : Int32))
              else (
                (ldT 0 x2_).bind fun v9 =>
                (gO h 22 0 (0, 6, 14)).bind fun y10 =>
                (f_X6_tooFar F y10 (x1_ + ((v7 - v5) * v9)) (gI h 22 2) h).bind fun v11 =>
                (Option.bind (α := Int32 × Int32) (
                  (if v11 = 0 then (
                    some ((x1_ + ((v7 - v5) * v9)), v11))
                  else (
                    (gO h 22 0 (0, 6, 14)).bind fun y14 =>
                    (ldI h (rf y14 7) x2_).bind fun v15 =>
                    (if v15 = (1 : Int32) then (
                      (f_X2_takingAlong F (x1_ + ((v7 - v5) * v9)) x2_ v5 v11 h).bind fun v16 =>
                      (Option.bind (α := Int32) (
                        (if v16 = (-9 : Int32) then (
                          some v11)
                        else (
                          (gO h 22 0 (0, 6, 14)).bind fun y19 =>
                          (f_X6_tooFar F y19 v16 (gI h 22 2) h).bind fun v20 =>
                          some v20))) fun t17 =>
                      some (v16, t17)))
                    else (
                      some ((x1_ + ((v7 - v5) * v9)), v11)))))) fun t12 =>
                (Option.bind (α := Int32) (
                  (if t12.2 = 0 then (
                    some t12.1)
                  else (
                    some (-9 : Int32)))) fun t24 =>
                some t24))))))))))))))))
set_option maxRecDepth 100000 in
set_option maxHeartbeats 4000000 in
theorem S_X2_after (F : Nat) (x1_ : Int32) (x2_ : Int32) (x3_ : Int32) (h : Hp) (r : Int32) (hf : f_X2_after F x1_ x2_ x3_ h = some r) : MetP Y_X2_after 2 [.ref 22, .int x1_, .int x2_, .int x3_] h (some (.int r), h) := by
  unfold f_X2_after at hf
  refine met_of yo_X2_after (Nat.le_of_ble_eq_true rfl) ?_
  show Run Y_X2_after _ 0 [some (.ref 22), some (.int x1_), some (.int x2_), some (.int x3_), none, none, none, none] [] h
  refine r_iload_n dX2_after_0 rfl ?_
  refine r_if_lt 44 dX2_after_1 (by decide) hf (fun c33 hf => ?_) (fun c33 hf => ?_)
  · refine r_bipush (v := -9) dX2_after_44 (by decide) ?_
    exact e_iP dX2_after_46 rfl hf
  · refine r_iload_n dX2_after_4 rfl ?_
    refine r_aload_n dX2_after_5 rfl ?_
    refine r_getR (E := (0, 6, 14)) dX2_after_6 sh_22 ft_X2_9 rfl hf fun y1 hy1 hf => ?_
    refine r_getI dX2_after_9 hy1 ft_X2_34 rfl ?_
    refine r_icmp_ge 44 dX2_after_12 (by decide) hf (fun c32 hf => ?_) (fun c32 hf => ?_)
    · refine r_bipush (v := -9) dX2_after_44 (by decide) ?_
      exact e_iP dX2_after_46 rfl hf
    · refine r_iload_n dX2_after_15 rfl ?_
      refine r_if_lt 44 dX2_after_16 (by decide) hf (fun c31 hf => ?_) (fun c31 hf => ?_)
      · refine r_bipush (v := -9) dX2_after_44 (by decide) ?_
        exact e_iP dX2_after_46 rfl hf
      · refine r_iload_n dX2_after_19 rfl ?_
        refine r_iconst (v := 4) dX2_after_20 (by decide) ?_
        refine r_icmp_ge 44 dX2_after_21 (by decide) hf (fun c30 hf => ?_) (fun c30 hf => ?_)
        · refine r_bipush (v := -9) dX2_after_44 (by decide) ?_
          exact e_iP dX2_after_46 rfl hf
        · refine r_getsN 2 (by decide) dX2_after_24 (by decide +kernel) ?_
          refine r_aload_n dX2_after_27 rfl ?_
          refine r_getR (E := (0, 6, 14)) dX2_after_28 sh_22 ft_X2_9 rfl hf fun y2 hy2 hf => ?_
          refine r_getS (b := rf y2 7) dX2_after_31 hy2 ft_X2_41 rfl rfl ?_
          refine r_iload_n dX2_after_34 rfl ?_
          refine r_iald dX2_after_35 (sf_6_7 hy2) hf fun v3 hf => ?_
          refine r_tald (by decide) dX2_after_36 hf fun v4 hf => ?_
          refine r_iload_n dX2_after_37 rfl ?_
          refine r_ishr dX2_after_38 ?_
          refine r_iconst (v := 1) dX2_after_39 (by decide) ?_
          refine r_iand dX2_after_40 ?_
          refine r_if_ne 47 dX2_after_41 (by decide) hf (fun c29 hf => ?_) (fun c29 hf => ?_)
          · refine r_iload_n dX2_after_47 rfl ?_
            refine r_iload_n dX2_after_48 rfl ?_
            obtain ⟨v5, hv, hf⟩ := bnd hf
            refine r_callSN (lv := 1) dX2_after_49 yo_X7_cellOf ys_X7_cellOf ml_X2_44 ya_X7_cellOf (Fits.vm (by decide)) rfl rfl (Nat.le_of_ble_eq_true rfl) (S_X7_cellOf x1_ x2_ h  _ hv) ?_
            refine r_istoreA dX2_after_52 (by decide) ?_
            refine r_aload_n dX2_after_54 rfl ?_
            refine r_getR (E := (0, 6, 14)) dX2_after_55 sh_22 ft_X2_9 rfl hf fun y6 hy6 hf => ?_
            refine r_getS (b := rf y6 12) dX2_after_58 hy6 ft_X2_48 rfl rfl ?_
            refine r_iload dX2_after_61 rfl ?_
            refine r_iconst (v := 4) dX2_after_63 (by decide) ?_
            refine r_imul dX2_after_64 ?_
            refine r_iload_n dX2_after_65 rfl ?_
            refine r_iadd dX2_after_66 ?_
            refine r_iald dX2_after_67 (sf_6_12 hy6) hf fun v7 hf => ?_
            refine r_istoreA dX2_after_68 (by decide) ?_
            refine r_iload dX2_after_70 rfl ?_
            refine r_bipush (v := -9) dX2_after_72 (by decide) ?_
            refine r_icmp_eq 96 dX2_after_74 (by decide) hf (fun c28 hf => ?_) (fun c28 hf => ?_)
            · refine r_bipush (v := -9) dX2_after_96 (by decide) ?_
              exact e_iP dX2_after_98 rfl hf
            · refine r_aload_n dX2_after_77 rfl ?_
              refine r_getI dX2_after_78 sh_22 ft_X2_19 rfl ?_
              refine r_aload_n dX2_after_81 rfl ?_
              refine r_iload_n dX2_after_82 rfl ?_
              obtain ⟨v8, hv, hf⟩ := bnd hf
              refine r_callV (lv := 1) dX2_after_83 yo_X2_taken yi_X2_taken ml_X2_51 ya_X2_taken sh_22 ⟨_, rfl, rfl⟩ (Fits.vm (by decide)) rfl rfl (Nat.le_of_ble_eq_true rfl) (S_X2_taken F x1_ h  _ hv) ?_
              refine r_ior dX2_after_86 ?_
              refine r_iload dX2_after_87 rfl ?_
              refine r_ishr dX2_after_89 ?_
              refine r_iconst (v := 1) dX2_after_90 (by decide) ?_
              refine r_iand dX2_after_91 ?_
              refine r_iconst (v := 1) dX2_after_92 (by decide) ?_
              refine r_icmp_ne 99 dX2_after_93 (by decide) hf (fun c27 hf => ?_) (fun c27 hf => ?_)
              · refine r_iload_n dX2_after_99 rfl ?_
                refine r_iload dX2_after_100 rfl ?_
                refine r_iload dX2_after_102 rfl ?_
                refine r_isub dX2_after_104 ?_
                refine r_getsN 0 (by decide) dX2_after_105 (by decide +kernel) ?_
                refine r_iload_n dX2_after_108 rfl ?_
                refine r_tald (by decide) dX2_after_109 hf fun v9 hf => ?_
                refine r_imul dX2_after_110 ?_
                refine r_iadd dX2_after_111 ?_
                refine r_istoreA dX2_after_112 (by decide) ?_
                refine r_aload_n dX2_after_114 rfl ?_
                refine r_getR (E := (0, 6, 14)) dX2_after_115 sh_22 ft_X2_9 rfl hf fun y10 hy10 hf => ?_
                refine r_iload dX2_after_118 rfl ?_
                refine r_aload_n dX2_after_120 rfl ?_
                refine r_getI dX2_after_121 sh_22 ft_X2_15 rfl ?_
                obtain ⟨v11, hv, hf⟩ := bnd hf
                refine r_callV (lv := 1) dX2_after_124 yo_X6_tooFar yi_X6_tooFar ml_X2_57 ya_X6_tooFar hy10 ⟨_, rfl, rfl⟩ (Fits.vm (by decide)) rfl rfl (Nat.le_of_ble_eq_true rfl) (S_X6_tooFar F y10 (x1_ + ((v7 - v5) * v9)) (gI h 22 2) hy10 h  _ hv) ?_
                refine r_istoreA dX2_after_127 (by decide) ?_
                refine r_iload dX2_after_129 rfl ?_
                refine r_reg (P := fun t12 => Run Y_X2_after (VM 2 (some (.int r), h)) 187 [some (.ref 22), some (.int x1_), some (.int x2_), some (.int x3_), some (.int v5), some (.int v7), some (.int t12.1), some (.int t12.2)] [] h) hf (fun t12 hf => ?_) (fun t12 key13 hf => ?_)
                · refine r_iload dX2_after_187 rfl ?_
                  refine r_reg (P := fun t24 => Run Y_X2_after (VM 2 (some (.int r), h)) 199 [some (.ref 22), some (.int x1_), some (.int x2_), some (.int x3_), some (.int v5), some (.int v7), some (.int t12.1), some (.int t12.2)] [.int t24] h) hf (fun t24 hf => ?_) (fun t24 key25 hf => ?_)
                  · exact e_iP dX2_after_199 rfl hf
                  · refine r_if_ne 197 dX2_after_189 (by decide) hf (fun c26 hf => ?_) (fun c26 hf => ?_)
                    · refine r_bipush (v := -9) dX2_after_197 (by decide) ?_
                      cases hf; exact key25
                    · refine r_iload dX2_after_192 rfl ?_
                      refine r_goto 199 dX2_after_194 (by decide) ?_
                      cases hf; exact key25
                · refine r_if_eq 187 dX2_after_131 (by decide) hf (fun c23 hf => ?_) (fun c23 hf => ?_)
                  · cases hf; exact key13
                  · refine r_aload_n dX2_after_134 rfl ?_
                    refine r_getR (E := (0, 6, 14)) dX2_after_135 sh_22 ft_X2_9 rfl hf fun y14 hy14 hf => ?_
                    refine r_getS (b := rf y14 7) dX2_after_138 hy14 ft_X2_41 rfl rfl ?_
                    refine r_iload_n dX2_after_141 rfl ?_
                    refine r_iald dX2_after_142 (sf_6_7 hy14) hf fun v15 hf => ?_
                    refine r_iconst (v := 1) dX2_after_143 (by decide) ?_
                    refine r_icmp_ne 187 dX2_after_144 (by decide) hf (fun c22 hf => ?_) (fun c22 hf => ?_)
                    · cases hf; exact key13
                    · refine r_aload_n dX2_after_147 rfl ?_
                      refine r_iload dX2_after_148 rfl ?_
                      refine r_iload_n dX2_after_150 rfl ?_
                      refine r_iload dX2_after_151 rfl ?_
                      refine r_iload dX2_after_153 rfl ?_
                      obtain ⟨v16, hv, hf⟩ := bnd hf
                      refine r_callV (lv := 1) dX2_after_155 yo_X2_takingAlong yi_X2_takingAlong ml_X2_60 ya_X2_takingAlong sh_22 ⟨_, rfl, rfl⟩ (Fits.vm (by decide)) rfl rfl (Nat.le_of_ble_eq_true rfl) (S_X2_takingAlong F (x1_ + ((v7 - v5) * v9)) x2_ v5 v11 h  _ hv) ?_
                      refine r_istoreA dX2_after_158 (by decide) ?_
                      refine r_iload dX2_after_160 rfl ?_
                      refine r_bipush (v := -9) dX2_after_162 (by decide) ?_
                      refine r_reg (P := fun t17 => Run Y_X2_after (VM 2 (some (.int r), h)) 185 [some (.ref 22), some (.int x1_), some (.int x2_), some (.int x3_), some (.int v5), some (.int v7), some (.int v16), some (.int v11)] [.int t17] h) hf (fun t17 hf => ?_) (fun t17 key18 hf => ?_)
                      · refine r_istoreA dX2_after_185 (by decide) ?_
                        cases hf; exact key13
                      · refine r_icmp_ne 172 dX2_after_164 (by decide) hf (fun c21 hf => ?_) (fun c21 hf => ?_)
                        · refine r_aload_n dX2_after_172 rfl ?_
                          refine r_getR (E := (0, 6, 14)) dX2_after_173 sh_22 ft_X2_9 rfl hf fun y19 hy19 hf => ?_
                          refine r_iload dX2_after_176 rfl ?_
                          refine r_aload_n dX2_after_178 rfl ?_
                          refine r_getI dX2_after_179 sh_22 ft_X2_15 rfl ?_
                          obtain ⟨v20, hv, hf⟩ := bnd hf
                          refine r_callV (lv := 1) dX2_after_182 yo_X6_tooFar yi_X6_tooFar ml_X2_57 ya_X6_tooFar hy19 ⟨_, rfl, rfl⟩ (Fits.vm (by decide)) rfl rfl (Nat.le_of_ble_eq_true rfl) (S_X6_tooFar F y19 v16 (gI h 22 2) hy19 h  _ hv) ?_
                          cases hf; exact key18
                        · refine r_iload dX2_after_167 rfl ?_
                          refine r_goto 185 dX2_after_169 (by decide) ?_
                          cases hf; exact key18
              · refine r_bipush (v := -9) dX2_after_96 (by decide) ?_
                exact e_iP dX2_after_98 rfl hf
          · refine r_bipush (v := -9) dX2_after_44 (by decide) ?_
            exact e_iP dX2_after_46 rfl hf
def f_X3_forget  (h : Hp) : Option Hp :=
  nm (sI h 23 11 (0 : Int32)) fun h1 =>
  nm (sI h1 23 6 (0 : Int32)) fun h2 =>
  some h2
set_option maxRecDepth 100000 in
set_option maxHeartbeats 4000000 in
theorem S_X3_forget  (h : Hp) (r : Hp) (hf : f_X3_forget h = some r) : MetP Y_X3_forget 1 [.ref 23] h (none, r) := by
  unfold f_X3_forget at hf
  refine met_of yo_X3_forget (Nat.le_of_ble_eq_true rfl) ?_
  show Run Y_X3_forget _ 0 [some (.ref 23)] [] h
  refine r_aload_n dX3_forget_0 rfl ?_
  refine r_iconst (v := 0) dX3_forget_1 (by decide) ?_
  refine r_putI dX3_forget_2 sh_23 ft_X3_38 rfl hf fun h1 hf => ?_
  refine r_aload_n dX3_forget_5 rfl ?_
  refine r_iconst (v := 0) dX3_forget_6 (by decide) ?_
  refine r_putI dX3_forget_7 sh_23 ft_X3_42 rfl hf fun h2 hf => ?_
  exact e_vH dX3_forget_10 rfl hf
def f_X3_arrive (x1_ : Int32) (x2_ : Int32) (x3_ : Int32) (x4_ : Int32) (h : Hp) : Option Hp :=
  (ldI h 28 x1_).bind fun v1 =>
  (Option.bind (α := Hp) (
    (if v1 = (gI h 23 8) then (
      some h)
    else (
      (if (11880 : Int32) ≤ (gI h 23 6) then (
        some h)
      else (
        (stI h 28 x1_ (gI h 23 8)).bind fun h4 =>
        (stI h4 24 (gI h4 23 6) x1_).bind fun h5 =>
        (stI h5 25 (gI h5 23 6) x4_).bind fun h6 =>
        (stI h6 26 (gI h6 23 6) x3_).bind fun h7 =>
        (stI h7 27 (gI h7 23 6) x2_).bind fun h8 =>
        nm (sI h8 23 6 ((gI h8 23 6) + (1 : Int32))) fun h9 =>
        some h9))))) fun t2 =>
  some t2)
set_option maxRecDepth 100000 in
set_option maxHeartbeats 4000000 in
theorem S_X3_arrive (x1_ : Int32) (x2_ : Int32) (x3_ : Int32) (x4_ : Int32) (h : Hp) (r : Hp) (hf : f_X3_arrive x1_ x2_ x3_ x4_ h = some r) : MetP Y_X3_arrive 1 [.ref 23, .int x1_, .int x2_, .int x3_, .int x4_] h (none, r) := by
  unfold f_X3_arrive at hf
  refine met_of yo_X3_arrive (Nat.le_of_ble_eq_true rfl) ?_
  show Run Y_X3_arrive _ 0 [some (.ref 23), some (.int x1_), some (.int x2_), some (.int x3_), some (.int x4_)] [] h
  refine r_aload_n dX3_arrive_0 rfl ?_
  refine r_getS (b := 28) dX3_arrive_1 sh_23 ft_X3_24 rfl rfl ?_
  refine r_iload_n dX3_arrive_4 rfl ?_
  refine r_iald dX3_arrive_5 sh_28 hf fun v1 hf => ?_
  refine r_aload_n dX3_arrive_6 rfl ?_
  refine r_getI dX3_arrive_7 sh_23 ft_X3_51 rfl ?_
  refine r_reg (P := fun t2 => Run Y_X3_arrive (VM 1 (none, r)) 84 [some (.ref 23), some (.int x1_), some (.int x2_), some (.int x3_), some (.int x4_)] [] t2) hf (fun t2 hf => ?_) (fun t2 key3 hf => ?_)
  · exact e_vH dX3_arrive_84 rfl hf
  · refine r_icmp_eq 84 dX3_arrive_10 (by decide) hf (fun c11 hf => ?_) (fun c11 hf => ?_)
    · cases hf; exact key3
    · refine r_aload_n dX3_arrive_13 rfl ?_
      refine r_getI dX3_arrive_14 sh_23 ft_X3_42 rfl ?_
      refine r_sipush (v := 11880) dX3_arrive_17 (by decide) ?_
      refine r_icmp_ge 84 dX3_arrive_20 (by decide) hf (fun c10 hf => ?_) (fun c10 hf => ?_)
      · cases hf; exact key3
      · refine r_aload_n dX3_arrive_23 rfl ?_
        refine r_getS (b := 28) dX3_arrive_24 sh_23 ft_X3_24 rfl rfl ?_
        refine r_iload_n dX3_arrive_27 rfl ?_
        refine r_aload_n dX3_arrive_28 rfl ?_
        refine r_getI dX3_arrive_29 sh_23 ft_X3_51 rfl ?_
        refine r_iast dX3_arrive_32 sh_28 hf fun h4 hf => ?_
        refine r_aload_n dX3_arrive_33 rfl ?_
        refine r_getS (b := 24) dX3_arrive_34 sh_23 ft_X3_9 rfl rfl ?_
        refine r_aload_n dX3_arrive_37 rfl ?_
        refine r_getI dX3_arrive_38 sh_23 ft_X3_42 rfl ?_
        refine r_iload_n dX3_arrive_41 rfl ?_
        refine r_iast dX3_arrive_42 sh_24 hf fun h5 hf => ?_
        refine r_aload_n dX3_arrive_43 rfl ?_
        refine r_getS (b := 25) dX3_arrive_44 sh_23 ft_X3_15 rfl rfl ?_
        refine r_aload_n dX3_arrive_47 rfl ?_
        refine r_getI dX3_arrive_48 sh_23 ft_X3_42 rfl ?_
        refine r_iload dX3_arrive_51 rfl ?_
        refine r_iast dX3_arrive_53 sh_25 hf fun h6 hf => ?_
        refine r_aload_n dX3_arrive_54 rfl ?_
        refine r_getS (b := 26) dX3_arrive_55 sh_23 ft_X3_18 rfl rfl ?_
        refine r_aload_n dX3_arrive_58 rfl ?_
        refine r_getI dX3_arrive_59 sh_23 ft_X3_42 rfl ?_
        refine r_iload_n dX3_arrive_62 rfl ?_
        refine r_iast dX3_arrive_63 sh_26 hf fun h7 hf => ?_
        refine r_aload_n dX3_arrive_64 rfl ?_
        refine r_getS (b := 27) dX3_arrive_65 sh_23 ft_X3_21 rfl rfl ?_
        refine r_aload_n dX3_arrive_68 rfl ?_
        refine r_getI dX3_arrive_69 sh_23 ft_X3_42 rfl ?_
        refine r_iload_n dX3_arrive_72 rfl ?_
        refine r_iast dX3_arrive_73 sh_27 hf fun h8 hf => ?_
        refine r_aload_n dX3_arrive_74 rfl ?_
        refine r_dup dX3_arrive_75 rfl ?_
        refine r_getI dX3_arrive_76 sh_23 ft_X3_42 rfl ?_
        refine r_iconst (v := 1) dX3_arrive_79 (by decide) ?_
        refine r_iadd dX3_arrive_80 ?_
        refine r_putI dX3_arrive_81 sh_23 ft_X3_42 rfl hf fun h9 hf => ?_
        cases hf; exact key3
def f_X3_begin (F : Nat) (x1_ : Int32) (h : Hp) : Option Hp :=
  (Option.bind (α := Hp) (
    (if (gI h 23 11) = 0 then (
      (f_J7_fill_53178 F 29 (0 : Int32) h).bind fun h3 =>
      nm (sI h3 23 11 (1 : Int32)) fun h4 =>
      some h4)
    else (
      some h))) fun t1 =>
  jn (α := (Unit) → Option Hp) (fun t6 =>
    nm (sI t1 23 8 ((gI t1 23 8) + (1 : Int32))) fun h9 =>
    nm (sI h9 23 5 (0 : Int32)) fun h10 =>
    nm (sI h10 23 6 (0 : Int32)) fun h11 =>
    (f_X3_arrive x1_ (-9 : Int32) (-9 : Int32) (0 : Int32) h11).bind fun h12 =>
    some h12) fun j7 =>
  (if (gI t1 23 6) ≤ 0 then (
    j7 ())
  else (
    (ldI t1 24 (0 : Int32)).bind fun v13 =>
    (if v13 = x1_ then (
      some t1)
    else (
      j7 ())))))
set_option maxRecDepth 100000 in
set_option maxHeartbeats 4000000 in
theorem S_X3_begin (F : Nat) (x1_ : Int32) (h : Hp) (r : Hp) (hf : f_X3_begin F x1_ h = some r) : MetP Y_X3_begin 2 [.ref 23, .int x1_] h (none, r) := by
  unfold f_X3_begin at hf
  refine met_of yo_X3_begin (Nat.le_of_ble_eq_true rfl) ?_
  show Run Y_X3_begin _ 0 [some (.ref 23), some (.int x1_)] [] h
  refine r_aload_n dX3_begin_0 rfl ?_
  refine r_getI dX3_begin_1 sh_23 ft_X3_38 rfl ?_
  refine r_reg (P := fun t1 => Run Y_X3_begin (VM 2 (none, r)) 20 [some (.ref 23), some (.int x1_)] [] t1) hf (fun t1 hf => ?_) (fun t1 key2 hf => ?_)
  · refine r_aload_n dX3_begin_20 rfl ?_
    refine r_getI dX3_begin_21 sh_23 ft_X3_42 rfl ?_
    refine r_jn (P := fun t6 => Run Y_X3_begin (VM 2 (none, r)) 38 [some (.ref 23), some (.int x1_)] [] t1) hf (fun t6 hf => ?_) (fun j7 ih8 hf => ?_)
    · refine r_aload_n dX3_begin_38 rfl ?_
      refine r_dup dX3_begin_39 rfl ?_
      refine r_getI dX3_begin_40 sh_23 ft_X3_51 rfl ?_
      refine r_iconst (v := 1) dX3_begin_43 (by decide) ?_
      refine r_iadd dX3_begin_44 ?_
      refine r_putI dX3_begin_45 sh_23 ft_X3_51 rfl hf fun h9 hf => ?_
      refine r_aload_n dX3_begin_48 rfl ?_
      refine r_iconst (v := 0) dX3_begin_49 (by decide) ?_
      refine r_putI dX3_begin_50 sh_23 ft_X3_54 rfl hf fun h10 hf => ?_
      refine r_aload_n dX3_begin_53 rfl ?_
      refine r_iconst (v := 0) dX3_begin_54 (by decide) ?_
      refine r_putI dX3_begin_55 sh_23 ft_X3_42 rfl hf fun h11 hf => ?_
      refine r_aload_n dX3_begin_58 rfl ?_
      refine r_iload_n dX3_begin_59 rfl ?_
      refine r_bipush (v := -9) dX3_begin_60 (by decide) ?_
      refine r_bipush (v := -9) dX3_begin_62 (by decide) ?_
      refine r_iconst (v := 0) dX3_begin_64 (by decide) ?_
      obtain ⟨h12, hv, hf⟩ := bnd hf
      refine r_callV (lv := 1) dX3_begin_65 yo_X3_arrive yi_X3_arrive ml_X3_57 ya_X3_arrive sh_23 ⟨_, rfl, rfl⟩ (Fits.vm (by decide)) rfl rfl (Nat.le_of_ble_eq_true rfl) (S_X3_arrive x1_ (-9 : Int32) (-9 : Int32) (0 : Int32) h11  _ hv) ?_
      exact e_vH dX3_begin_68 rfl hf
    refine r_if_le 38 dX3_begin_24 (by decide) hf (fun c15 hf => ?_) (fun c15 hf => ?_)
    · exact ih8 _ hf
    · refine r_aload_n dX3_begin_27 rfl ?_
      refine r_getS (b := 24) dX3_begin_28 sh_23 ft_X3_9 rfl rfl ?_
      refine r_iconst (v := 0) dX3_begin_31 (by decide) ?_
      refine r_iald dX3_begin_32 sh_24 hf fun v13 hf => ?_
      refine r_iload_n dX3_begin_33 rfl ?_
      refine r_icmp_ne 38 dX3_begin_34 (by decide) hf (fun c14 hf => ?_) (fun c14 hf => ?_)
      · exact ih8 _ hf
      · exact e_vH dX3_begin_37 rfl hf
  · refine r_if_ne 20 dX3_begin_4 (by decide) hf (fun c5 hf => ?_) (fun c5 hf => ?_)
    · cases hf; exact key2
    · refine r_aload_n dX3_begin_7 rfl ?_
      refine r_getS (b := 29) dX3_begin_8 sh_23 ft_X3_27 rfl rfl ?_
      refine r_iconst (v := 0) dX3_begin_11 (by decide) ?_
      obtain ⟨h3, hv, hf⟩ := bnd hf
      refine r_callS (lv := 1) dX3_begin_12 yo_J7_fill_53178 ys_J7_fill_53178 ml_X3_45 ya_J7_fill_53178 (Fits.vm (by decide)) rfl rfl (Nat.le_of_ble_eq_true rfl) (S_J7_fill_53178 F 29 (0 : Int32) (sh_arr sh_29) h  _ hv) ?_
      refine r_aload_n dX3_begin_15 rfl ?_
      refine r_iconst (v := 1) dX3_begin_16 (by decide) ?_
      refine r_putI dX3_begin_17 sh_23 ft_X3_38 rfl hf fun h4 hf => ?_
      cases hf; exact key2
def f_X3_learn (F : Nat) (x1_ : Int32) (h : Hp) : Option Hp :=
  fix (σ := Int32 × Hp) (ρ := Hp) (fun self2 s1 =>
    (if (16 : Int32) ≤ s1.1 then (
      (stI s1.2 29 x1_ ((((32 : Int32) * (gI h 23 11)) + (gI s1.2 23 11)) - (gI h 23 11))).bind fun h4 =>
      some h4)
    else (
      (f_X2_after F x1_ (s1.1 / (4 : Int32)) (rem32 s1.1 (4 : Int32)) s1.2).bind fun v5 =>
      (Option.bind (α := Hp) (
        (if v5 = (-9 : Int32) then (
          some s1.2)
        else (
          (if (nI 97921) ≤ (gI s1.2 23 11) then (
            some s1.2)
          else (
            (stI s1.2 30 (gI s1.2 23 11) ((((64 : Int32) * v5) + ((10 : Int32) * (s1.1 / (4 : Int32)))) + (rem32 s1.1 (4 : Int32)))).bind fun h8 =>
            nm (sI h8 23 11 ((gI h8 23 11) + (1 : Int32))) fun h9 =>
            some h9))))) fun t6 =>
      self2 ((s1.1 + 1), t6))))) F ((0 : Int32), h)
set_option maxRecDepth 100000 in
set_option maxHeartbeats 4000000 in
theorem S_X3_learn (F : Nat) (x1_ : Int32) (h : Hp) (r : Hp) (hf : f_X3_learn F x1_ h = some r) : MetP Y_X3_learn 3 [.ref 23, .int x1_] h (none, r) := by
  unfold f_X3_learn at hf
  refine met_of yo_X3_learn (Nat.le_of_ble_eq_true rfl) ?_
  show Run Y_X3_learn _ 0 [some (.ref 23), some (.int x1_), none, none, none] [] h
  refine r_aload_n dX3_learn_0 rfl ?_
  refine r_getI dX3_learn_1 sh_23 ft_X3_38 rfl ?_
  refine r_istore_nA dX3_learn_4 (by decide) ?_
  refine r_iconst (v := 0) dX3_learn_5 (by decide) ?_
  refine r_istore_nA dX3_learn_6 (by decide) ?_
  refine r_fix (σ := Int32 × Hp) (fun s1 => [some (.ref 23), some (.int x1_), some (.int (gI h 23 11)), some (.int s1.1), none]) (fun s1 => s1.2) (fun self2 ih3 s1 hf => ?_) F ((0 : Int32), h) hf
  refine r_iload_n dX3_learn_7 rfl ?_
  refine r_bipush (v := 16) dX3_learn_8 (by decide) ?_
  refine r_icmp_ge 89 dX3_learn_10 (by decide) hf (fun c12 hf => ?_) (fun c12 hf => ?_)
  · refine r_aload_n dX3_learn_89 rfl ?_
    refine r_getS (b := 29) dX3_learn_90 sh_23 ft_X3_27 rfl rfl ?_
    refine r_iload_n dX3_learn_93 rfl ?_
    refine r_bipush (v := 32) dX3_learn_94 (by decide) ?_
    refine r_iload_n dX3_learn_96 rfl ?_
    refine r_imul dX3_learn_97 ?_
    refine r_aload_n dX3_learn_98 rfl ?_
    refine r_getI dX3_learn_99 sh_23 ft_X3_38 rfl ?_
    refine r_iadd dX3_learn_102 ?_
    refine r_iload_n dX3_learn_103 rfl ?_
    refine r_isub dX3_learn_104 ?_
    refine r_iast dX3_learn_105 sh_29 hf fun h4 hf => ?_
    exact e_vH dX3_learn_106 rfl hf
  · refine r_aload_n dX3_learn_13 rfl ?_
    refine r_getS (b := 22) dX3_learn_14 sh_23 ft_X3_34 rfl rfl ?_
    refine r_iload_n dX3_learn_17 rfl ?_
    refine r_iload_n dX3_learn_18 rfl ?_
    refine r_iconst (v := 4) dX3_learn_19 (by decide) ?_
    refine r_idivK dX3_learn_20 (by decide) ?_
    refine r_iload_n dX3_learn_21 rfl ?_
    refine r_iconst (v := 4) dX3_learn_22 (by decide) ?_
    refine r_iremK dX3_learn_23 (by decide) ?_
    obtain ⟨v5, hv, hf⟩ := bnd hf
    refine r_callV (lv := 2) dX3_learn_24 yo_X2_after yi_X2_after ml_X3_88 ya_X2_after sh_22 ⟨_, rfl, rfl⟩ (Fits.vm (by decide)) rfl rfl (Nat.le_of_ble_eq_true rfl) (S_X2_after F x1_ (s1.1 / (4 : Int32)) (rem32 s1.1 (4 : Int32)) s1.2  _ hv) ?_
    refine r_istoreA dX3_learn_27 (by decide) ?_
    refine r_iload dX3_learn_29 rfl ?_
    refine r_bipush (v := -9) dX3_learn_31 (by decide) ?_
    refine r_reg (P := fun t6 => Run Y_X3_learn (VM 3 (none, r)) 83 [some (.ref 23), some (.int x1_), some (.int (gI h 23 11)), some (.int s1.1), some (.int v5)] [] t6) hf (fun t6 hf => ?_) (fun t6 key7 hf => ?_)
    · refine r_iincA (v := 1) dX3_learn_83 rfl (by decide) (by decide) ?_
      refine r_goto 7 dX3_learn_86 (by decide) ?_
      refine r_lt (ll_s (ll_s (ll_s (ll_s (ll_n ll_0))))) ?_
      exact ih3 _ hf
    · refine r_icmp_eq 83 dX3_learn_33 (by decide) hf (fun c11 hf => ?_) (fun c11 hf => ?_)
      · cases hf; exact key7
      · refine r_aload_n dX3_learn_36 rfl ?_
        refine r_getI dX3_learn_37 sh_23 ft_X3_38 rfl ?_
        refine r_aload_n dX3_learn_40 rfl ?_
        refine r_getS (b := 30) dX3_learn_41 sh_23 ft_X3_31 rfl rfl ?_
        refine r_alen dX3_learn_44 sh_30 ?_
        refine r_icmp_ge 83 dX3_learn_45 (by decide) hf (fun c10 hf => ?_) (fun c10 hf => ?_)
        · cases hf; exact key7
        · refine r_aload_n dX3_learn_48 rfl ?_
          refine r_getS (b := 30) dX3_learn_49 sh_23 ft_X3_31 rfl rfl ?_
          refine r_aload_n dX3_learn_52 rfl ?_
          refine r_getI dX3_learn_53 sh_23 ft_X3_38 rfl ?_
          refine r_bipush (v := 64) dX3_learn_56 (by decide) ?_
          refine r_iload dX3_learn_58 rfl ?_
          refine r_imul dX3_learn_60 ?_
          refine r_bipush (v := 10) dX3_learn_61 (by decide) ?_
          refine r_iload_n dX3_learn_63 rfl ?_
          refine r_iconst (v := 4) dX3_learn_64 (by decide) ?_
          refine r_idivK dX3_learn_65 (by decide) ?_
          refine r_imul dX3_learn_66 ?_
          refine r_iadd dX3_learn_67 ?_
          refine r_iload_n dX3_learn_68 rfl ?_
          refine r_iconst (v := 4) dX3_learn_69 (by decide) ?_
          refine r_iremK dX3_learn_70 (by decide) ?_
          refine r_iadd dX3_learn_71 ?_
          refine r_iast dX3_learn_72 sh_30 hf fun h8 hf => ?_
          refine r_aload_n dX3_learn_73 rfl ?_
          refine r_dup dX3_learn_74 rfl ?_
          refine r_getI dX3_learn_75 sh_23 ft_X3_38 rfl ?_
          refine r_iconst (v := 1) dX3_learn_78 (by decide) ?_
          refine r_iadd dX3_learn_79 ?_
          refine r_putI dX3_learn_80 sh_23 ft_X3_38 rfl hf fun h9 hf => ?_
          cases hf; exact key7
def f_X3_expand (F : Nat) (x1_ : Int32) (h : Hp) : Option Hp :=
  (ldI h 24 x1_).bind fun v1 =>
  (ldI h 29 v1).bind fun v2 =>
  (Option.bind (α := Hp) (
    (if v2 = 0 then (
      (f_X3_learn F v1 h).bind fun h5 =>
      some h5)
    else (
      some h))) fun t3 =>
  (ldI t3 29 v1).bind fun v7 =>
  (ldI t3 29 v1).bind fun v8 =>
  nm (((v7 / (32 : Int32)) + (rem32 v8 (32 : Int32)))) fun x9 =>
  fix (σ := Int32 × Hp) (ρ := Hp) (fun self11 s10 =>
    (if x9 ≤ s10.1 then (
      some s10.2)
    else (
      (ldI s10.2 30 s10.1).bind fun v13 =>
      (ldI s10.2 30 s10.1).bind fun v14 =>
      (ldI s10.2 25 x1_).bind fun v15 =>
      (f_X3_arrive (v13 / (64 : Int32)) (rem32 v14 (64 : Int32)) x1_ (v15 + (1 : Int32)) s10.2).bind fun h16 =>
      self11 ((s10.1 + 1), h16)))) F ((v7 / (32 : Int32)), t3))
set_option maxRecDepth 100000 in
set_option maxHeartbeats 4000000 in
theorem S_X3_expand (F : Nat) (x1_ : Int32) (h : Hp) (r : Hp) (hf : f_X3_expand F x1_ h = some r) : MetP Y_X3_expand 4 [.ref 23, .int x1_] h (none, r) := by
  unfold f_X3_expand at hf
  refine met_of yo_X3_expand (Nat.le_of_ble_eq_true rfl) ?_
  show Run Y_X3_expand _ 0 [some (.ref 23), some (.int x1_), none, none, none, none] [] h
  refine r_aload_n dX3_expand_0 rfl ?_
  refine r_getS (b := 24) dX3_expand_1 sh_23 ft_X3_9 rfl rfl ?_
  refine r_iload_n dX3_expand_4 rfl ?_
  refine r_iald dX3_expand_5 sh_24 hf fun v1 hf => ?_
  refine r_istore_nA dX3_expand_6 (by decide) ?_
  refine r_aload_n dX3_expand_7 rfl ?_
  refine r_getS (b := 29) dX3_expand_8 sh_23 ft_X3_27 rfl rfl ?_
  refine r_iload_n dX3_expand_11 rfl ?_
  refine r_iald dX3_expand_12 sh_29 hf fun v2 hf => ?_
  refine r_reg (P := fun t3 => Run Y_X3_expand (VM 4 (none, r)) 21 [some (.ref 23), some (.int x1_), some (.int v1), none, none, none] [] t3) hf (fun t3 hf => ?_) (fun t3 key4 hf => ?_)
  · refine r_aload_n dX3_expand_21 rfl ?_
    refine r_getS (b := 29) dX3_expand_22 sh_23 ft_X3_27 rfl rfl ?_
    refine r_iload_n dX3_expand_25 rfl ?_
    refine r_iald dX3_expand_26 sh_29 hf fun v7 hf => ?_
    refine r_bipush (v := 32) dX3_expand_27 (by decide) ?_
    refine r_idivK dX3_expand_29 (by decide) ?_
    refine r_istore_nA dX3_expand_30 (by decide) ?_
    refine r_iload_n dX3_expand_31 rfl ?_
    refine r_aload_n dX3_expand_32 rfl ?_
    refine r_getS (b := 29) dX3_expand_33 sh_23 ft_X3_27 rfl rfl ?_
    refine r_iload_n dX3_expand_36 rfl ?_
    refine r_iald dX3_expand_37 sh_29 hf fun v8 hf => ?_
    refine r_bipush (v := 32) dX3_expand_38 (by decide) ?_
    refine r_iremK dX3_expand_40 (by decide) ?_
    refine r_iadd dX3_expand_41 ?_
    refine r_istore dX3_expand_42 (by decide) hf fun x9 hf => ?_
    refine r_iload_n dX3_expand_44 rfl ?_
    refine r_istoreA dX3_expand_45 (by decide) ?_
    refine r_fix (σ := Int32 × Hp) (fun s10 => [some (.ref 23), some (.int x1_), some (.int v1), some (.int (v7 / (32 : Int32))), some (.int x9), some (.int s10.1)]) (fun s10 => s10.2) (fun self11 ih12 s10 hf => ?_) F ((v7 / (32 : Int32)), t3) hf
    refine r_iload dX3_expand_47 rfl ?_
    refine r_iload dX3_expand_49 rfl ?_
    refine r_icmp_ge 93 dX3_expand_51 (by decide) hf (fun c17 hf => ?_) (fun c17 hf => ?_)
    · exact e_vH dX3_expand_93 rfl hf
    · refine r_aload_n dX3_expand_54 rfl ?_
      refine r_aload_n dX3_expand_55 rfl ?_
      refine r_getS (b := 30) dX3_expand_56 sh_23 ft_X3_31 rfl rfl ?_
      refine r_iload dX3_expand_59 rfl ?_
      refine r_iald dX3_expand_61 sh_30 hf fun v13 hf => ?_
      refine r_bipush (v := 64) dX3_expand_62 (by decide) ?_
      refine r_idivK dX3_expand_64 (by decide) ?_
      refine r_aload_n dX3_expand_65 rfl ?_
      refine r_getS (b := 30) dX3_expand_66 sh_23 ft_X3_31 rfl rfl ?_
      refine r_iload dX3_expand_69 rfl ?_
      refine r_iald dX3_expand_71 sh_30 hf fun v14 hf => ?_
      refine r_bipush (v := 64) dX3_expand_72 (by decide) ?_
      refine r_iremK dX3_expand_74 (by decide) ?_
      refine r_iload_n dX3_expand_75 rfl ?_
      refine r_aload_n dX3_expand_76 rfl ?_
      refine r_getS (b := 25) dX3_expand_77 sh_23 ft_X3_15 rfl rfl ?_
      refine r_iload_n dX3_expand_80 rfl ?_
      refine r_iald dX3_expand_81 sh_25 hf fun v15 hf => ?_
      refine r_iconst (v := 1) dX3_expand_82 (by decide) ?_
      refine r_iadd dX3_expand_83 ?_
      obtain ⟨h16, hv, hf⟩ := bnd hf
      refine r_callV (lv := 1) dX3_expand_84 yo_X3_arrive yi_X3_arrive ml_X3_57 ya_X3_arrive sh_23 ⟨_, rfl, rfl⟩ (Fits.vm (by decide)) rfl rfl (Nat.le_of_ble_eq_true rfl) (S_X3_arrive (v13 / (64 : Int32)) (rem32 v14 (64 : Int32)) x1_ (v15 + (1 : Int32)) s10.2  _ hv) ?_
      refine r_iincA (v := 1) dX3_expand_87 rfl (by decide) (by decide) ?_
      refine r_goto 47 dX3_expand_90 (by decide) ?_
      exact ih12 _ hf
  · refine r_if_ne 21 dX3_expand_13 (by decide) hf (fun c6 hf => ?_) (fun c6 hf => ?_)
    · cases hf; exact key4
    · refine r_aload_n dX3_expand_16 rfl ?_
      refine r_iload_n dX3_expand_17 rfl ?_
      obtain ⟨h5, hv, hf⟩ := bnd hf
      refine r_callV (lv := 3) dX3_expand_18 yo_X3_learn yi_X3_learn ml_X3_85 ya_X3_learn sh_23 ⟨_, rfl, rfl⟩ (Fits.vm (by decide)) rfl rfl (Nat.le_of_ble_eq_true rfl) (S_X3_learn F v1 h  _ hv) ?_
      cases hf; exact key4
