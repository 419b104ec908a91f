def f_X6_is (F : Nat) (a0 : Nat) (x1_ : Int32) (x2_ : Int32) (h : Hp) : Option Int32 :=
  (ldI h (rf a0 7) x1_).bind fun v1 =>
  fix (σ := Int32 × Int32) (ρ := Int32) (fun self3 s2 =>
    (if (6 : Int32) ≤ s2.2 then (
      ckZ (0 : Int32))
    else (
      (if s2.1 = x2_ then (
        ckZ (1 : Int32))
      else (
        (ldT 1 s2.1).bind fun v5 =>
        self3 (v5, (s2.2 + 1))))))) F (v1, (0 : Int32))
set_option maxRecDepth 100000 in
set_option maxHeartbeats 4000000 in
theorem S_X6_is (F : Nat) (a0 : Nat) (x1_ : Int32) (x2_ : Int32) (k0 : sh a0 = (0, 6, 14)) (h : Hp) (r : Int32) (hf : f_X6_is F a0 x1_ x2_ h = some r) : MetP Y_X6_is 1 [.ref a0, .int x1_, .int x2_] h (some (.int r), h) := by
  unfold f_X6_is at hf
  refine met_of yo_X6_is (Nat.le_of_ble_eq_true rfl) ?_
  show Run Y_X6_is _ 0 [some (.ref a0), some (.int x1_), some (.int x2_), none, none] [] h
  refine r_aload_n dX6_is_0 rfl ?_
  refine r_getS (b := rf a0 7) dX6_is_1 k0 ft_X6_9 rfl rfl ?_
  refine r_iload_n dX6_is_4 rfl ?_
  refine r_iald dX6_is_5 (sf_6_7 k0) hf fun v1 hf => ?_
  refine r_istore_nA dX6_is_6 (by decide) ?_
  refine r_iconst (v := 0) dX6_is_7 (by decide) ?_
  refine r_istoreA dX6_is_8 (by decide) ?_
  refine r_fix (σ := Int32 × Int32) (fun s2 => [some (.ref a0), some (.int x1_), some (.int x2_), some (.int s2.1), some (.int s2.2)]) (fun s2 => h) (fun self3 ih4 s2 hf => ?_) F (v1, (0 : Int32)) hf
  refine r_iload dX6_is_10 rfl ?_
  refine r_bipush (v := 6) dX6_is_12 (by decide) ?_
  refine r_icmp_ge 36 dX6_is_14 (by decide) hf (fun c7 hf => ?_) (fun c7 hf => ?_)
  · refine r_iconst (v := 0) dX6_is_36 (by decide) ?_
    exact e_zP dX6_is_37 rfl hf
  · refine r_iload_n dX6_is_17 rfl ?_
    refine r_iload_n dX6_is_18 rfl ?_
    refine r_icmp_ne 24 dX6_is_19 (by decide) hf (fun c6 hf => ?_) (fun c6 hf => ?_)
    · refine r_getsN 1 (by decide) dX6_is_24 (by decide +kernel) ?_
      refine r_iload_n dX6_is_27 rfl ?_
      refine r_tald (by decide) dX6_is_28 hf fun v5 hf => ?_
      refine r_istore_nA dX6_is_29 (by decide) ?_
      refine r_iincA (v := 1) dX6_is_30 rfl (by decide) (by decide) ?_
      refine r_goto 10 dX6_is_33 (by decide) ?_
      exact ih4 _ hf
    · refine r_iconst (v := 1) dX6_is_22 (by decide) ?_
      exact e_zP dX6_is_23 rfl hf
def f_X6_chainsOf (F : Nat) (a0 : Nat) (x1_ : Int32) (h : Hp) : Option Int32 :=
  fix (σ := Int32 × Int32) (ρ := Int32) (fun self2 s1 =>
    (if (gI h a0 5) ≤ s1.2 then (
      some s1.1)
    else (
      (ldI h (rf a0 13) ((s1.2 * (4 : Int32)) + x1_)).bind fun v4 =>
      (Option.bind (α := Int32) (
        (if v4 = (-9 : Int32) then (
          some s1.1)
        else (
          nm ((s1.1 ||| ((1 : Int32) <<< (s1.2 &&& 31)))) fun x7 =>
          some x7))) fun t5 =>
      self2 (t5, (s1.2 + 1)))))) F ((0 : Int32), (0 : Int32))
set_option maxRecDepth 100000 in
set_option maxHeartbeats 4000000 in
theorem S_X6_chainsOf (F : Nat) (a0 : Nat) (x1_ : Int32) (k0 : sh a0 = (0, 6, 14)) (h : Hp) (r : Int32) (hf : f_X6_chainsOf F a0 x1_ h = some r) : MetP Y_X6_chainsOf 1 [.ref a0, .int x1_] h (some (.int r), h) := by
  unfold f_X6_chainsOf at hf
  refine met_of yo_X6_chainsOf (Nat.le_of_ble_eq_true rfl) ?_
  show Run Y_X6_chainsOf _ 0 [some (.ref a0), some (.int x1_), none, none] [] h
  refine r_iconst (v := 0) dX6_chainsOf_0 (by decide) ?_
  refine r_istore_nA dX6_chainsOf_1 (by decide) ?_
  refine r_iconst (v := 0) dX6_chainsOf_2 (by decide) ?_
  refine r_istore_nA dX6_chainsOf_3 (by decide) ?_
  refine r_fix (σ := Int32 × Int32) (fun s1 => [some (.ref a0), some (.int x1_), some (.int s1.1), some (.int s1.2)]) (fun s1 => h) (fun self2 ih3 s1 hf => ?_) F ((0 : Int32), (0 : Int32)) hf
  refine r_iload_n dX6_chainsOf_4 rfl ?_
  refine r_aload_n dX6_chainsOf_5 rfl ?_
  refine r_getI dX6_chainsOf_6 k0 ft_X6_49 rfl ?_
  refine r_icmp_ge 39 dX6_chainsOf_9 (by decide) hf (fun c9 hf => ?_) (fun c9 hf => ?_)
  · refine r_iload_n dX6_chainsOf_39 rfl ?_
    exact e_iP dX6_chainsOf_40 rfl hf
  · refine r_aload_n dX6_chainsOf_12 rfl ?_
    refine r_getS (b := rf a0 13) dX6_chainsOf_13 k0 ft_X6_30 rfl rfl ?_
    refine r_iload_n dX6_chainsOf_16 rfl ?_
    refine r_iconst (v := 4) dX6_chainsOf_17 (by decide) ?_
    refine r_imul dX6_chainsOf_18 ?_
    refine r_iload_n dX6_chainsOf_19 rfl ?_
    refine r_iadd dX6_chainsOf_20 ?_
    refine r_iald dX6_chainsOf_21 (sf_6_13 k0) hf fun v4 hf => ?_
    refine r_bipush (v := -9) dX6_chainsOf_22 (by decide) ?_
    refine r_reg (P := fun t5 => Run Y_X6_chainsOf (VM 1 (some (.int r), h)) 33 [some (.ref a0), some (.int x1_), some (.int t5), some (.int s1.2)] [] h) hf (fun t5 hf => ?_) (fun t5 key6 hf => ?_)
    · refine r_iincA (v := 1) dX6_chainsOf_33 rfl (by decide) (by decide) ?_
      refine r_goto 4 dX6_chainsOf_36 (by decide) ?_
      exact ih3 _ hf
    · refine r_icmp_eq 33 dX6_chainsOf_24 (by decide) hf (fun c8 hf => ?_) (fun c8 hf => ?_)
      · cases hf; exact key6
      · refine r_iload_n dX6_chainsOf_27 rfl ?_
        refine r_iconst (v := 1) dX6_chainsOf_28 (by decide) ?_
        refine r_iload_n dX6_chainsOf_29 rfl ?_
        refine r_ishl dX6_chainsOf_30 ?_
        refine r_ior dX6_chainsOf_31 ?_
        refine r_istore_n dX6_chainsOf_32 (by decide) hf fun x7 hf => ?_
        cases hf; exact key6
def f_X6_firstStand (F : Nat) (a0 : Nat) (h : Hp) : Option Int32 :=
  fix (σ := Int32 × Int32) (ρ := Int32) (fun self2 s1 =>
    (if (gI h a0 4) ≤ s1.2 then (
      some s1.1)
    else (
      (ldI h (rf a0 8) s1.2).bind fun v4 =>
      (ldT 0 s1.2).bind fun v5 =>
      self2 ((s1.1 + (v4 * v5)), (s1.2 + 1))))) F ((0 : Int32), (0 : Int32))
set_option maxRecDepth 100000 in
set_option maxHeartbeats 4000000 in
theorem S_X6_firstStand (F : Nat) (a0 : Nat) (k0 : sh a0 = (0, 6, 14)) (h : Hp) (r : Int32) (hf : f_X6_firstStand F a0 h = some r) : MetP Y_X6_firstStand 1 [.ref a0] h (some (.int r), h) := by
  unfold f_X6_firstStand at hf
  refine met_of yo_X6_firstStand (Nat.le_of_ble_eq_true rfl) ?_
  show Run Y_X6_firstStand _ 0 [some (.ref a0), none, none] [] h
  refine r_iconst (v := 0) dX6_firstStand_0 (by decide) ?_
  refine r_istore_nA dX6_firstStand_1 (by decide) ?_
  refine r_iconst (v := 0) dX6_firstStand_2 (by decide) ?_
  refine r_istore_nA dX6_firstStand_3 (by decide) ?_
  refine r_fix (σ := Int32 × Int32) (fun s1 => [some (.ref a0), some (.int s1.1), some (.int s1.2)]) (fun s1 => h) (fun self2 ih3 s1 hf => ?_) F ((0 : Int32), (0 : Int32)) hf
  refine r_iload_n dX6_firstStand_4 rfl ?_
  refine r_aload_n dX6_firstStand_5 rfl ?_
  refine r_getI dX6_firstStand_6 k0 ft_X6_46 rfl ?_
  refine r_icmp_ge 33 dX6_firstStand_9 (by decide) hf (fun c6 hf => ?_) (fun c6 hf => ?_)
  · refine r_iload_n dX6_firstStand_33 rfl ?_
    exact e_iP dX6_firstStand_34 rfl hf
  · refine r_iload_n dX6_firstStand_12 rfl ?_
    refine r_aload_n dX6_firstStand_13 rfl ?_
    refine r_getS (b := rf a0 8) dX6_firstStand_14 k0 ft_X6_15 rfl rfl ?_
    refine r_iload_n dX6_firstStand_17 rfl ?_
    refine r_iald dX6_firstStand_18 (sf_6_8 k0) hf fun v4 hf => ?_
    refine r_getsN 0 (by decide) dX6_firstStand_19 (by decide +kernel) ?_
    refine r_iload_n dX6_firstStand_22 rfl ?_
    refine r_tald (by decide) dX6_firstStand_23 hf fun v5 hf => ?_
    refine r_imul dX6_firstStand_24 ?_
    refine r_iadd dX6_firstStand_25 ?_
    refine r_istore_nA dX6_firstStand_26 (by decide) ?_
    refine r_iincA (v := 1) dX6_firstStand_27 rfl (by decide) (by decide) ?_
    refine r_goto 4 dX6_firstStand_30 (by decide) ?_
    exact ih3 _ hf
def f_X7_found (x1_ : Int32) (h : Hp) : Option (Int32 × Hp) :=
  nm (sI h 0 15 x1_) fun h1 =>
  (ldI h1 40 x1_).bind fun v2 =>
  (stI h1 40 x1_ (v2 + (1 : Int32))).bind fun h3 =>
  some ((-3 : Int32), h3)
set_option maxRecDepth 100000 in
set_option maxHeartbeats 4000000 in
theorem S_X7_found (x1_ : Int32) (h : Hp) (r : (Int32 × Hp)) (hf : f_X7_found x1_ h = some r) : MetP Y_X7_found 1 [.ref 0, .int x1_] h (some (.int r.1), r.2) := by
  unfold f_X7_found at hf
  refine met_of yo_X7_found (Nat.le_of_ble_eq_true rfl) ?_
  show Run Y_X7_found _ 0 [some (.ref 0), some (.int x1_)] [] h
  refine r_aload_n dX7_found_0 rfl ?_
  refine r_iload_n dX7_found_1 rfl ?_
  refine r_putI dX7_found_2 sh_0 ft_X7_360 rfl hf fun h1 hf => ?_
  refine r_aload_n dX7_found_5 rfl ?_
  refine r_getS (b := 40) dX7_found_6 sh_0 ft_X7_71 rfl rfl ?_
  refine r_iload_n dX7_found_9 rfl ?_
  refine r_dup2 dX7_found_10 rfl rfl ?_
  refine r_iald dX7_found_11 sh_40 hf fun v2 hf => ?_
  refine r_iconst (v := 1) dX7_found_12 (by decide) ?_
  refine r_iadd dX7_found_13 ?_
  refine r_iast dX7_found_14 sh_40 hf fun h3 hf => ?_
  refine r_bipush (v := -3) dX7_found_15 (by decide) ?_
  exact e_iH dX7_found_17 rfl hf
def f_X7_made (F : Nat) (a1 : Nat) (x2_ : Int32) (x3_ : Int32) (x4_ : Int32) (h : Hp) : Option (Int32 × Hp) :=
  (f_X4_knows a1 x2_ h).bind fun v1 =>
  (if v1 = 0 then (
    some ((-1 : Int32), h))
  else (
    (if x3_ ≤ (40 : Int32) then (
      (if 0 ≤ x3_ then (
        (f_X4_make F a1 x2_ x3_ x4_ h).bind fun h2 =>
        some (x3_, h2))
      else (
        (f_X7_found (5 : Int32) h).bind fun v3 =>
        some (v3.1, v3.2))))
    else (
      some ((-1 : Int32), h)))))
set_option maxRecDepth 100000 in
set_option maxHeartbeats 4000000 in
theorem S_X7_made (F : Nat) (a1 : Nat) (x2_ : Int32) (x3_ : Int32) (x4_ : Int32) (k1 : sh a1 = (0, 4, 2)) (h : Hp) (r : (Int32 × Hp)) (hf : f_X7_made F a1 x2_ x3_ x4_ h = some r) : MetP Y_X7_made 3 [.ref 0, .ref a1, .int x2_, .int x3_, .int x4_] h (some (.int r.1), r.2) := by
  unfold f_X7_made at hf
  refine met_of yo_X7_made (Nat.le_of_ble_eq_true rfl) ?_
  show Run Y_X7_made _ 0 [some (.ref 0), some (.ref a1), some (.int x2_), some (.int x3_), some (.int x4_)] [] h
  refine r_aload_n dX7_made_0 rfl ?_
  refine r_iload_n dX7_made_1 rfl ?_
  obtain ⟨v1, hv, hf⟩ := bnd hf
  refine r_callV (lv := 1) dX7_made_2 yo_X4_knows yi_X4_knows ml_X7_114 ya_X4_knows k1 ⟨_, rfl, rfl⟩ (Fits.vm (by decide)) rfl rfl (Nat.le_of_ble_eq_true rfl) (S_X4_knows a1 x2_ k1 h  _ hv) ?_
  refine r_if_eq 14 dX7_made_5 (by decide) hf (fun c6 hf => ?_) (fun c6 hf => ?_)
  · refine r_iconst (v := -1) dX7_made_14 (by decide) ?_
    exact e_iH dX7_made_15 rfl hf
  · refine r_iload_n dX7_made_8 rfl ?_
    refine r_bipush (v := 40) dX7_made_9 (by decide) ?_
    refine r_icmp_le 16 dX7_made_11 (by decide) hf (fun c5 hf => ?_) (fun c5 hf => ?_)
    · refine r_iload_n dX7_made_16 rfl ?_
      refine r_if_ge 26 dX7_made_17 (by decide) hf (fun c4 hf => ?_) (fun c4 hf => ?_)
      · refine r_aload_n dX7_made_26 rfl ?_
        refine r_iload_n dX7_made_27 rfl ?_
        refine r_iload_n dX7_made_28 rfl ?_
        refine r_iload dX7_made_29 rfl ?_
        obtain ⟨h2, hv, hf⟩ := bnd hf
        refine r_callV (lv := 2) dX7_made_31 yo_X4_make yi_X4_make ml_X7_242 ya_X4_make k1 ⟨_, rfl, rfl⟩ (Fits.vm (by decide)) rfl rfl (Nat.le_of_ble_eq_true rfl) (S_X4_make F a1 x2_ x3_ x4_ k1 h  _ hv) ?_
        refine r_iload_n dX7_made_34 rfl ?_
        exact e_iH dX7_made_35 rfl hf
      · refine r_aload_n dX7_made_20 rfl ?_
        refine r_iconst (v := 5) dX7_made_21 (by decide) ?_
        obtain ⟨v3, hv, hf⟩ := bnd hf
        refine r_callV (lv := 1) dX7_made_22 yo_X7_found yi_X7_found ml_X7_118 ya_X7_found sh_0 ⟨_, rfl, rfl⟩ (Fits.vm (by decide)) rfl rfl (Nat.le_of_ble_eq_true rfl) (S_X7_found (5 : Int32) h  _ hv) ?_
        exact e_iH dX7_made_25 rfl hf
    · refine r_iconst (v := -1) dX7_made_14 (by decide) ?_
      exact e_iH dX7_made_15 rfl hf
def f_X7_row (F : Nat) (x1_ : Int32) (x2_ : Int32) (h : Hp) : Option (Int32 × Hp) :=
  (f_X7_made F 1 x1_ x2_ (0 : Int32) h).bind fun v1 =>
  some (v1.1, v1.2)
set_option maxRecDepth 100000 in
set_option maxHeartbeats 4000000 in
theorem S_X7_row (F : Nat) (x1_ : Int32) (x2_ : Int32) (h : Hp) (r : (Int32 × Hp)) (hf : f_X7_row F x1_ x2_ h = some r) : MetP Y_X7_row 4 [.ref 0, .int x1_, .int x2_] h (some (.int r.1), r.2) := by
  unfold f_X7_row at hf
  refine met_of yo_X7_row (Nat.le_of_ble_eq_true rfl) ?_
  show Run Y_X7_row _ 0 [some (.ref 0), some (.int x1_), some (.int x2_)] [] h
  refine r_aload_n dX7_row_0 rfl ?_
  refine r_aload_n dX7_row_1 rfl ?_
  refine r_getS (b := 1) dX7_row_2 sh_0 ft_X7_14 rfl rfl ?_
  refine r_iload_n dX7_row_5 rfl ?_
  refine r_iload_n dX7_row_6 rfl ?_
  refine r_iconst (v := 0) dX7_row_7 (by decide) ?_
  obtain ⟨v1, hv, hf⟩ := bnd hf
  refine r_callV (lv := 3) dX7_row_8 yo_X7_made yi_X7_made ml_X7_87 ya_X7_made sh_0 ⟨_, rfl, rfl⟩ (Fits.vm (by decide)) rfl rfl (Nat.le_of_ble_eq_true rfl) (S_X7_made F 1 x1_ x2_ (0 : Int32) sh_1 h  _ hv) ?_
  exact e_iH dX7_row_11 rfl hf
def f_X7_refusedMissing (a1 : Nat) (x2_ : Int32) (h : Hp) : Option (Int32 × Hp) :=
  (f_X4_knows a1 x2_ h).bind fun v1 =>
  (if v1 = 0 then (
    some ((-1 : Int32), h))
  else (
    (f_X4_holds a1 x2_ h).bind fun v2 =>
    (Option.bind (α := Int32 × Hp) (
      (if v2 = 0 then (
        (f_X7_found (1 : Int32) h).bind fun v5 =>
        some (v5.1, v5.2))
      else (
        some ((0 : Int32), h)))) fun t3 =>
    some (t3.1, t3.2))))
set_option maxRecDepth 100000 in
set_option maxHeartbeats 4000000 in
theorem S_X7_refusedMissing (a1 : Nat) (x2_ : Int32) (k1 : sh a1 = (0, 4, 2)) (h : Hp) (r : (Int32 × Hp)) (hf : f_X7_refusedMissing a1 x2_ h = some r) : MetP Y_X7_refusedMissing 2 [.ref 0, .ref a1, .int x2_] h (some (.int r.1), r.2) := by
  unfold f_X7_refusedMissing at hf
  refine met_of yo_X7_refusedMissing (Nat.le_of_ble_eq_true rfl) ?_
  show Run Y_X7_refusedMissing _ 0 [some (.ref 0), some (.ref a1), some (.int x2_)] [] h
  refine r_aload_n dX7_refusedMissing_0 rfl ?_
  refine r_iload_n dX7_refusedMissing_1 rfl ?_
  obtain ⟨v1, hv, hf⟩ := bnd hf
  refine r_callV (lv := 1) dX7_refusedMissing_2 yo_X4_knows yi_X4_knows ml_X7_114 ya_X4_knows k1 ⟨_, rfl, rfl⟩ (Fits.vm (by decide)) rfl rfl (Nat.le_of_ble_eq_true rfl) (S_X4_knows a1 x2_ k1 h  _ hv) ?_
  refine r_if_ne 10 dX7_refusedMissing_5 (by decide) hf (fun c7 hf => ?_) (fun c7 hf => ?_)
  · refine r_aload_n dX7_refusedMissing_10 rfl ?_
    refine r_iload_n dX7_refusedMissing_11 rfl ?_
    obtain ⟨v2, hv, hf⟩ := bnd hf
    refine r_callV (lv := 1) dX7_refusedMissing_12 yo_X4_holds yi_X4_holds ml_X7_122 ya_X4_holds k1 ⟨_, rfl, rfl⟩ (Fits.vm (by decide)) rfl rfl (Nat.le_of_ble_eq_true rfl) (S_X4_holds a1 x2_ k1 h  _ hv) ?_
    refine r_reg (P := fun t3 => Run Y_X7_refusedMissing (VM 2 (some (.int r.1), r.2)) 27 [some (.ref 0), some (.ref a1), some (.int x2_)] [.int t3.1] t3.2) hf (fun t3 hf => ?_) (fun t3 key4 hf => ?_)
    · exact e_iH dX7_refusedMissing_27 rfl hf
    · refine r_if_eq 22 dX7_refusedMissing_15 (by decide) hf (fun c6 hf => ?_) (fun c6 hf => ?_)
      · refine r_aload_n dX7_refusedMissing_22 rfl ?_
        refine r_iconst (v := 1) dX7_refusedMissing_23 (by decide) ?_
        obtain ⟨v5, hv, hf⟩ := bnd hf
        refine r_callV (lv := 1) dX7_refusedMissing_24 yo_X7_found yi_X7_found ml_X7_118 ya_X7_found sh_0 ⟨_, rfl, rfl⟩ (Fits.vm (by decide)) rfl rfl (Nat.le_of_ble_eq_true rfl) (S_X7_found (1 : Int32) h  _ hv) ?_
        cases hf; exact key4
      · refine r_iconst (v := 0) dX7_refusedMissing_18 (by decide) ?_
        refine r_goto 27 dX7_refusedMissing_19 (by decide) ?_
        cases hf; exact key4
  · refine r_iconst (v := -1) dX7_refusedMissing_8 (by decide) ?_
    exact e_iH dX7_refusedMissing_9 rfl hf
def f_X7_refusedPlace (a1 : Nat) (x2_ : Int32) (x3_ : Int32) (h : Hp) : Option (Int32 × Hp) :=
  (f_X7_refusedMissing a1 x2_ h).bind fun v1 =>
  (if v1.1 = 0 then (
    (f_X4_has a1 x2_ x3_ (1 : Int32) v1.2).bind fun v2 =>
    (Option.bind (α := Int32 × Hp) (
      (if v2 = 0 then (
        (f_X7_found (2 : Int32) v1.2).bind fun v5 =>
        some (v5.1, v5.2))
      else (
        some ((0 : Int32), v1.2)))) fun t3 =>
    some (t3.1, t3.2)))
  else (
    some (v1.1, v1.2)))
set_option maxRecDepth 100000 in
set_option maxHeartbeats 4000000 in
theorem S_X7_refusedPlace (a1 : Nat) (x2_ : Int32) (x3_ : Int32) (k1 : sh a1 = (0, 4, 2)) (h : Hp) (r : (Int32 × Hp)) (hf : f_X7_refusedPlace a1 x2_ x3_ h = some r) : MetP Y_X7_refusedPlace 3 [.ref 0, .ref a1, .int x2_, .int x3_] h (some (.int r.1), r.2) := by
  unfold f_X7_refusedPlace at hf
  refine met_of yo_X7_refusedPlace (Nat.le_of_ble_eq_true rfl) ?_
  show Run Y_X7_refusedPlace _ 0 [some (.ref 0), some (.ref a1), some (.int x2_), some (.int x3_), none] [] h
  refine r_aload_n dX7_refusedPlace_0 rfl ?_
  refine r_aload_n dX7_refusedPlace_1 rfl ?_
  refine r_iload_n dX7_refusedPlace_2 rfl ?_
  obtain ⟨v1, hv, hf⟩ := bnd hf
  refine r_callV (lv := 2) dX7_refusedPlace_3 yo_X7_refusedMissing yi_X7_refusedMissing ml_X7_107 ya_X7_refusedMissing sh_0 ⟨_, rfl, rfl⟩ (Fits.vm (by decide)) rfl rfl (Nat.le_of_ble_eq_true rfl) (S_X7_refusedMissing a1 x2_ k1 h  _ hv) ?_
  refine r_istoreA dX7_refusedPlace_6 (by decide) ?_
  refine r_iload dX7_refusedPlace_8 rfl ?_
  refine r_if_eq 16 dX7_refusedPlace_10 (by decide) hf (fun c7 hf => ?_) (fun c7 hf => ?_)
  · refine r_aload_n dX7_refusedPlace_16 rfl ?_
    refine r_iload_n dX7_refusedPlace_17 rfl ?_
    refine r_iload_n dX7_refusedPlace_18 rfl ?_
    refine r_iconst (v := 1) dX7_refusedPlace_19 (by decide) ?_
    obtain ⟨v2, hv, hf⟩ := bnd hf
    refine r_callV (lv := 2) dX7_refusedPlace_20 yo_X4_has yi_X4_has ml_X7_125 ya_X4_has k1 ⟨_, rfl, rfl⟩ (Fits.vm (by decide)) rfl rfl (Nat.le_of_ble_eq_true rfl) (S_X4_has a1 x2_ x3_ (1 : Int32) k1 v1.2  _ hv) ?_
    refine r_reg (P := fun t3 => Run Y_X7_refusedPlace (VM 3 (some (.int r.1), r.2)) 35 [some (.ref 0), some (.ref a1), some (.int x2_), some (.int x3_), some (.int v1.1)] [.int t3.1] t3.2) hf (fun t3 hf => ?_) (fun t3 key4 hf => ?_)
    · exact e_iH dX7_refusedPlace_35 rfl hf
    · refine r_if_eq 30 dX7_refusedPlace_23 (by decide) hf (fun c6 hf => ?_) (fun c6 hf => ?_)
      · refine r_aload_n dX7_refusedPlace_30 rfl ?_
        refine r_iconst (v := 2) dX7_refusedPlace_31 (by decide) ?_
        obtain ⟨v5, hv, hf⟩ := bnd hf
        refine r_callV (lv := 1) dX7_refusedPlace_32 yo_X7_found yi_X7_found ml_X7_118 ya_X7_found sh_0 ⟨_, rfl, rfl⟩ (Fits.vm (by decide)) rfl rfl (Nat.le_of_ble_eq_true rfl) (S_X7_found (2 : Int32) v1.2  _ hv) ?_
        cases hf; exact key4
      · refine r_iconst (v := 0) dX7_refusedPlace_26 (by decide) ?_
        refine r_goto 35 dX7_refusedPlace_27 (by decide) ?_
        cases hf; exact key4
  · refine r_iload dX7_refusedPlace_13 rfl ?_
    exact e_iH dX7_refusedPlace_15 rfl hf
def f_X7_lay (x1_ : Int32) (x2_ : Int32) (x3_ : Int32) (h : Hp) : Option (Int32 × Hp) :=
  (f_X7_refusedPlace 1 x1_ x2_ h).bind fun v1 =>
  (if v1.1 = 0 then (
    (f_X4_get 1 x1_ x2_ v1.2).bind fun v2 =>
    nm (sI v1.2 0 14 v2) fun h3 =>
    (f_X4_set 1 x1_ x2_ x3_ h3).bind fun h4 =>
    some ((1 : Int32), h4))
  else (
    some (v1.1, v1.2)))
set_option maxRecDepth 100000 in
set_option maxHeartbeats 4000000 in
theorem S_X7_lay (x1_ : Int32) (x2_ : Int32) (x3_ : Int32) (h : Hp) (r : (Int32 × Hp)) (hf : f_X7_lay x1_ x2_ x3_ h = some r) : MetP Y_X7_lay 4 [.ref 0, .int x1_, .int x2_, .int x3_] h (some (.int r.1), r.2) := by
  unfold f_X7_lay at hf
  refine met_of yo_X7_lay (Nat.le_of_ble_eq_true rfl) ?_
  show Run Y_X7_lay _ 0 [some (.ref 0), some (.int x1_), some (.int x2_), some (.int x3_), none] [] h
  refine r_aload_n dX7_lay_0 rfl ?_
  refine r_aload_n dX7_lay_1 rfl ?_
  refine r_getS (b := 1) dX7_lay_2 sh_0 ft_X7_14 rfl rfl ?_
  refine r_iload_n dX7_lay_5 rfl ?_
  refine r_iload_n dX7_lay_6 rfl ?_
  obtain ⟨v1, hv, hf⟩ := bnd hf
  refine r_callV (lv := 3) dX7_lay_7 yo_X7_refusedPlace yi_X7_refusedPlace ml_X7_91 ya_X7_refusedPlace sh_0 ⟨_, rfl, rfl⟩ (Fits.vm (by decide)) rfl rfl (Nat.le_of_ble_eq_true rfl) (S_X7_refusedPlace 1 x1_ x2_ sh_1 h  _ hv) ?_
  refine r_istoreA dX7_lay_10 (by decide) ?_
  refine r_iload dX7_lay_12 rfl ?_
  refine r_if_eq 20 dX7_lay_14 (by decide) hf (fun c5 hf => ?_) (fun c5 hf => ?_)
  · refine r_aload_n dX7_lay_20 rfl ?_
    refine r_aload_n dX7_lay_21 rfl ?_
    refine r_getS (b := 1) dX7_lay_22 sh_0 ft_X7_14 rfl rfl ?_
    refine r_iload_n dX7_lay_25 rfl ?_
    refine r_iload_n dX7_lay_26 rfl ?_
    obtain ⟨v2, hv, hf⟩ := bnd hf
    refine r_callV (lv := 3) dX7_lay_27 yo_X4_get yi_X4_get ml_X7_95 ya_X4_get sh_1 ⟨_, rfl, rfl⟩ (Fits.vm (by decide)) rfl rfl (Nat.le_of_ble_eq_true rfl) (S_X4_get 1 x1_ x2_ sh_1 v1.2  _ hv) ?_
    refine r_putI dX7_lay_30 sh_0 ft_X7_99 rfl hf fun h3 hf => ?_
    refine r_aload_n dX7_lay_33 rfl ?_
    refine r_getS (b := 1) dX7_lay_34 sh_0 ft_X7_14 rfl rfl ?_
    refine r_iload_n dX7_lay_37 rfl ?_
    refine r_iload_n dX7_lay_38 rfl ?_
    refine r_iload_n dX7_lay_39 rfl ?_
    obtain ⟨h4, hv, hf⟩ := bnd hf
    refine r_callV (lv := 3) dX7_lay_40 yo_X4_set yi_X4_set ml_X7_103 ya_X4_set sh_1 ⟨_, rfl, rfl⟩ (Fits.vm (by decide)) rfl rfl (Nat.le_of_ble_eq_true rfl) (S_X4_set 1 x1_ x2_ x3_ sh_1 h3  _ hv) ?_
    refine r_iconst (v := 1) dX7_lay_43 (by decide) ?_
    exact e_iH dX7_lay_44 rfl hf
  · refine r_iload dX7_lay_17 rfl ?_
    exact e_iH dX7_lay_19 rfl hf
def f_X7_at (x1_ : Int32) (x2_ : Int32) (h : Hp) : Option (Int32 × Hp) :=
  (f_X7_refusedPlace 1 x1_ x2_ h).bind fun v1 =>
  (if v1.1 = 0 then (
    (f_X4_get 1 x1_ x2_ v1.2).bind fun v2 =>
    nm (sI v1.2 0 14 v2) fun h3 =>
    some ((1 : Int32), h3))
  else (
    some (v1.1, v1.2)))
set_option maxRecDepth 100000 in
set_option maxHeartbeats 4000000 in
theorem S_X7_at (x1_ : Int32) (x2_ : Int32) (h : Hp) (r : (Int32 × Hp)) (hf : f_X7_at x1_ x2_ h = some r) : MetP Y_X7_at 4 [.ref 0, .int x1_, .int x2_] h (some (.int r.1), r.2) := by
  unfold f_X7_at at hf
  refine met_of yo_X7_at (Nat.le_of_ble_eq_true rfl) ?_
  show Run Y_X7_at _ 0 [some (.ref 0), some (.int x1_), some (.int x2_), none] [] h
  refine r_aload_n dX7_at_0 rfl ?_
  refine r_aload_n dX7_at_1 rfl ?_
  refine r_getS (b := 1) dX7_at_2 sh_0 ft_X7_14 rfl rfl ?_
  refine r_iload_n dX7_at_5 rfl ?_
  refine r_iload_n dX7_at_6 rfl ?_
  obtain ⟨v1, hv, hf⟩ := bnd hf
  refine r_callV (lv := 3) dX7_at_7 yo_X7_refusedPlace yi_X7_refusedPlace ml_X7_91 ya_X7_refusedPlace sh_0 ⟨_, rfl, rfl⟩ (Fits.vm (by decide)) rfl rfl (Nat.le_of_ble_eq_true rfl) (S_X7_refusedPlace 1 x1_ x2_ sh_1 h  _ hv) ?_
  refine r_istore_nA dX7_at_10 (by decide) ?_
  refine r_iload_n dX7_at_11 rfl ?_
  refine r_if_eq 17 dX7_at_12 (by decide) hf (fun c4 hf => ?_) (fun c4 hf => ?_)
  · refine r_aload_n dX7_at_17 rfl ?_
    refine r_aload_n dX7_at_18 rfl ?_
    refine r_getS (b := 1) dX7_at_19 sh_0 ft_X7_14 rfl rfl ?_
    refine r_iload_n dX7_at_22 rfl ?_
    refine r_iload_n dX7_at_23 rfl ?_
    obtain ⟨v2, hv, hf⟩ := bnd hf
    refine r_callV (lv := 3) dX7_at_24 yo_X4_get yi_X4_get ml_X7_95 ya_X4_get sh_1 ⟨_, rfl, rfl⟩ (Fits.vm (by decide)) rfl rfl (Nat.le_of_ble_eq_true rfl) (S_X4_get 1 x1_ x2_ sh_1 v1.2  _ hv) ?_
    refine r_putI dX7_at_27 sh_0 ft_X7_99 rfl hf fun h3 hf => ?_
    refine r_iconst (v := 1) dX7_at_30 (by decide) ?_
    exact e_iH dX7_at_31 rfl hf
  · refine r_iload_n dX7_at_15 rfl ?_
    exact e_iH dX7_at_16 rfl hf
def f_X7_tear (x1_ : Int32) (h : Hp) : Option (Int32 × Hp) :=
  (f_X7_refusedMissing 1 x1_ h).bind fun v1 =>
  (if v1.1 = 0 then (
    (f_X4_drop 1 x1_ v1.2).bind fun h2 =>
    some ((1 : Int32), h2))
  else (
    some (v1.1, v1.2)))
set_option maxRecDepth 100000 in
set_option maxHeartbeats 4000000 in
theorem S_X7_tear (x1_ : Int32) (h : Hp) (r : (Int32 × Hp)) (hf : f_X7_tear x1_ h = some r) : MetP Y_X7_tear 3 [.ref 0, .int x1_] h (some (.int r.1), r.2) := by
  unfold f_X7_tear at hf
  refine met_of yo_X7_tear (Nat.le_of_ble_eq_true rfl) ?_
  show Run Y_X7_tear _ 0 [some (.ref 0), some (.int x1_), none] [] h
  refine r_aload_n dX7_tear_0 rfl ?_
  refine r_aload_n dX7_tear_1 rfl ?_
  refine r_getS (b := 1) dX7_tear_2 sh_0 ft_X7_14 rfl rfl ?_
  refine r_iload_n dX7_tear_5 rfl ?_
  obtain ⟨v1, hv, hf⟩ := bnd hf
  refine r_callV (lv := 2) dX7_tear_6 yo_X7_refusedMissing yi_X7_refusedMissing ml_X7_107 ya_X7_refusedMissing sh_0 ⟨_, rfl, rfl⟩ (Fits.vm (by decide)) rfl rfl (Nat.le_of_ble_eq_true rfl) (S_X7_refusedMissing 1 x1_ sh_1 h  _ hv) ?_
  refine r_istore_nA dX7_tear_9 (by decide) ?_
  refine r_iload_n dX7_tear_10 rfl ?_
  refine r_if_eq 16 dX7_tear_11 (by decide) hf (fun c3 hf => ?_) (fun c3 hf => ?_)
  · refine r_aload_n dX7_tear_16 rfl ?_
    refine r_getS (b := 1) dX7_tear_17 sh_0 ft_X7_14 rfl rfl ?_
    refine r_iload_n dX7_tear_20 rfl ?_
    obtain ⟨h2, hv, hf⟩ := bnd hf
    refine r_callV (lv := 2) dX7_tear_21 yo_X4_drop yi_X4_drop ml_X7_111 ya_X4_drop sh_1 ⟨_, rfl, rfl⟩ (Fits.vm (by decide)) rfl rfl (Nat.le_of_ble_eq_true rfl) (S_X4_drop 1 x1_ sh_1 v1.2  _ hv) ?_
    refine r_iconst (v := 1) dX7_tear_24 (by decide) ?_
    exact e_iH dX7_tear_25 rfl hf
  · refine r_iload_n dX7_tear_14 rfl ?_
    exact e_iH dX7_tear_15 rfl hf
def f_X7_copy (x1_ : Int32) (x2_ : Int32) (x3_ : Int32) (x4_ : Int32) (x5_ : Int32) (h : Hp) : Option (Int32 × Hp) :=
  (f_X4_knows 1 x1_ h).bind fun v1 =>
  (if v1 = 0 then (
    some ((-1 : Int32), h))
  else (
    (f_X4_knows 1 x3_ h).bind fun v2 =>
    (if v2 = 0 then (
      some ((-1 : Int32), h))
    else (
      (if 0 ≤ x5_ then (
        (f_X4_holds 1 x1_ h).bind fun v3 =>
        jn (α := (Unit) → Option (Int32 × Hp)) (fun t4 =>
          (f_X7_found (1 : Int32) h).bind fun v7 =>
          some (v7.1, v7.2)) fun j5 =>
        (if v3 = 0 then (
          j5 ())
        else (
          (f_X4_holds 1 x3_ h).bind fun v8 =>
          (if v8 = 0 then (
            j5 ())
          else (
            (f_X4_has 1 x1_ x2_ x5_ h).bind fun v9 =>
            jn (α := (Unit) → Option (Int32 × Hp)) (fun t10 =>
              (f_X7_found (2 : Int32) h).bind fun v13 =>
              some (v13.1, v13.2)) fun j11 =>
            (if v9 = 0 then (
              j11 ())
            else (
              (f_X4_has 1 x3_ x4_ x5_ h).bind fun v14 =>
              (if v14 = 0 then (
                j11 ())
              else (
                (f_X4_move 1 x1_ x2_ x3_ x4_ x5_ h).bind fun h15 =>
                some ((1 : Int32), h15))))))))))
      else (
        (f_X7_found (5 : Int32) h).bind fun v20 =>
        some (v20.1, v20.2)))))))
set_option maxRecDepth 100000 in
set_option maxHeartbeats 4000000 in
theorem S_X7_copy (x1_ : Int32) (x2_ : Int32) (x3_ : Int32) (x4_ : Int32) (x5_ : Int32) (h : Hp) (r : (Int32 × Hp)) (hf : f_X7_copy x1_ x2_ x3_ x4_ x5_ h = some r) : MetP Y_X7_copy 4 [.ref 0, .int x1_, .int x2_, .int x3_, .int x4_, .int x5_] h (some (.int r.1), r.2) := by
  unfold f_X7_copy at hf
  refine met_of yo_X7_copy (Nat.le_of_ble_eq_true rfl) ?_
  show Run Y_X7_copy _ 0 [some (.ref 0), some (.int x1_), some (.int x2_), some (.int x3_), some (.int x4_), some (.int x5_)] [] h
  refine r_aload_n dX7_copy_0 rfl ?_
  refine r_getS (b := 1) dX7_copy_1 sh_0 ft_X7_14 rfl rfl ?_
  refine r_iload_n dX7_copy_4 rfl ?_
  obtain ⟨v1, hv, hf⟩ := bnd hf
  refine r_callV (lv := 1) dX7_copy_5 yo_X4_knows yi_X4_knows ml_X7_114 ya_X4_knows sh_1 ⟨_, rfl, rfl⟩ (Fits.vm (by decide)) rfl rfl (Nat.le_of_ble_eq_true rfl) (S_X4_knows 1 x1_ sh_1 h  _ hv) ?_
  refine r_if_eq 22 dX7_copy_8 (by decide) hf (fun c23 hf => ?_) (fun c23 hf => ?_)
  · refine r_iconst (v := -1) dX7_copy_22 (by decide) ?_
    exact e_iH dX7_copy_23 rfl hf
  · refine r_aload_n dX7_copy_11 rfl ?_
    refine r_getS (b := 1) dX7_copy_12 sh_0 ft_X7_14 rfl rfl ?_
    refine r_iload_n dX7_copy_15 rfl ?_
    obtain ⟨v2, hv, hf⟩ := bnd hf
    refine r_callV (lv := 1) dX7_copy_16 yo_X4_knows yi_X4_knows ml_X7_114 ya_X4_knows sh_1 ⟨_, rfl, rfl⟩ (Fits.vm (by decide)) rfl rfl (Nat.le_of_ble_eq_true rfl) (S_X4_knows 1 x3_ sh_1 h  _ hv) ?_
    refine r_if_ne 24 dX7_copy_19 (by decide) hf (fun c22 hf => ?_) (fun c22 hf => ?_)
    · refine r_iload dX7_copy_24 rfl ?_
      refine r_if_ge 35 dX7_copy_26 (by decide) hf (fun c21 hf => ?_) (fun c21 hf => ?_)
      · refine r_aload_n dX7_copy_35 rfl ?_
        refine r_getS (b := 1) dX7_copy_36 sh_0 ft_X7_14 rfl rfl ?_
        refine r_iload_n dX7_copy_39 rfl ?_
        obtain ⟨v3, hv, hf⟩ := bnd hf
        refine r_callV (lv := 1) dX7_copy_40 yo_X4_holds yi_X4_holds ml_X7_122 ya_X4_holds sh_1 ⟨_, rfl, rfl⟩ (Fits.vm (by decide)) rfl rfl (Nat.le_of_ble_eq_true rfl) (S_X4_holds 1 x1_ sh_1 h  _ hv) ?_
        refine r_jn (P := fun t4 => Run Y_X7_copy (VM 4 (some (.int r.1), r.2)) 57 [some (.ref 0), some (.int x1_), some (.int x2_), some (.int x3_), some (.int x4_), some (.int x5_)] [] h) hf (fun t4 hf => ?_) (fun j5 ih6 hf => ?_)
        · refine r_aload_n dX7_copy_57 rfl ?_
          refine r_iconst (v := 1) dX7_copy_58 (by decide) ?_
          obtain ⟨v7, hv, hf⟩ := bnd hf
          refine r_callV (lv := 1) dX7_copy_59 yo_X7_found yi_X7_found ml_X7_118 ya_X7_found sh_0 ⟨_, rfl, rfl⟩ (Fits.vm (by decide)) rfl rfl (Nat.le_of_ble_eq_true rfl) (S_X7_found (1 : Int32) h  _ hv) ?_
          exact e_iH dX7_copy_62 rfl hf
        refine r_if_eq 57 dX7_copy_43 (by decide) hf (fun c19 hf => ?_) (fun c19 hf => ?_)
        · exact ih6 _ hf
        · refine r_aload_n dX7_copy_46 rfl ?_
          refine r_getS (b := 1) dX7_copy_47 sh_0 ft_X7_14 rfl rfl ?_
          refine r_iload_n dX7_copy_50 rfl ?_
          obtain ⟨v8, hv, hf⟩ := bnd hf
          refine r_callV (lv := 1) dX7_copy_51 yo_X4_holds yi_X4_holds ml_X7_122 ya_X4_holds sh_1 ⟨_, rfl, rfl⟩ (Fits.vm (by decide)) rfl rfl (Nat.le_of_ble_eq_true rfl) (S_X4_holds 1 x3_ sh_1 h  _ hv) ?_
          refine r_if_ne 63 dX7_copy_54 (by decide) hf (fun c18 hf => ?_) (fun c18 hf => ?_)
          · refine r_aload_n dX7_copy_63 rfl ?_
            refine r_getS (b := 1) dX7_copy_64 sh_0 ft_X7_14 rfl rfl ?_
            refine r_iload_n dX7_copy_67 rfl ?_
            refine r_iload_n dX7_copy_68 rfl ?_
            refine r_iload dX7_copy_69 rfl ?_
            obtain ⟨v9, hv, hf⟩ := bnd hf
            refine r_callV (lv := 2) dX7_copy_71 yo_X4_has yi_X4_has ml_X7_125 ya_X4_has sh_1 ⟨_, rfl, rfl⟩ (Fits.vm (by decide)) rfl rfl (Nat.le_of_ble_eq_true rfl) (S_X4_has 1 x1_ x2_ x5_ sh_1 h  _ hv) ?_
            refine r_jn (P := fun t10 => Run Y_X7_copy (VM 4 (some (.int r.1), r.2)) 92 [some (.ref 0), some (.int x1_), some (.int x2_), some (.int x3_), some (.int x4_), some (.int x5_)] [] h) hf (fun t10 hf => ?_) (fun j11 ih12 hf => ?_)
            · refine r_aload_n dX7_copy_92 rfl ?_
              refine r_iconst (v := 2) dX7_copy_93 (by decide) ?_
              obtain ⟨v13, hv, hf⟩ := bnd hf
              refine r_callV (lv := 1) dX7_copy_94 yo_X7_found yi_X7_found ml_X7_118 ya_X7_found sh_0 ⟨_, rfl, rfl⟩ (Fits.vm (by decide)) rfl rfl (Nat.le_of_ble_eq_true rfl) (S_X7_found (2 : Int32) h  _ hv) ?_
              exact e_iH dX7_copy_97 rfl hf
            refine r_if_eq 92 dX7_copy_74 (by decide) hf (fun c17 hf => ?_) (fun c17 hf => ?_)
            · exact ih12 _ hf
            · refine r_aload_n dX7_copy_77 rfl ?_
              refine r_getS (b := 1) dX7_copy_78 sh_0 ft_X7_14 rfl rfl ?_
              refine r_iload_n dX7_copy_81 rfl ?_
              refine r_iload dX7_copy_82 rfl ?_
              refine r_iload dX7_copy_84 rfl ?_
              obtain ⟨v14, hv, hf⟩ := bnd hf
              refine r_callV (lv := 2) dX7_copy_86 yo_X4_has yi_X4_has ml_X7_125 ya_X4_has sh_1 ⟨_, rfl, rfl⟩ (Fits.vm (by decide)) rfl rfl (Nat.le_of_ble_eq_true rfl) (S_X4_has 1 x3_ x4_ x5_ sh_1 h  _ hv) ?_
              refine r_if_ne 98 dX7_copy_89 (by decide) hf (fun c16 hf => ?_) (fun c16 hf => ?_)
              · refine r_aload_n dX7_copy_98 rfl ?_
                refine r_getS (b := 1) dX7_copy_99 sh_0 ft_X7_14 rfl rfl ?_
                refine r_iload_n dX7_copy_102 rfl ?_
                refine r_iload_n dX7_copy_103 rfl ?_
                refine r_iload_n dX7_copy_104 rfl ?_
                refine r_iload dX7_copy_105 rfl ?_
                refine r_iload dX7_copy_107 rfl ?_
                obtain ⟨h15, hv, hf⟩ := bnd hf
                refine r_callV (lv := 3) dX7_copy_109 yo_X4_move yi_X4_move ml_X7_129 ya_X4_move sh_1 ⟨_, rfl, rfl⟩ (Fits.vm (by decide)) rfl rfl (Nat.le_of_ble_eq_true rfl) (S_X4_move 1 x1_ x2_ x3_ x4_ x5_ sh_1 h  _ hv) ?_
                refine r_iconst (v := 1) dX7_copy_112 (by decide) ?_
                exact e_iH dX7_copy_113 rfl hf
              · exact ih12 _ hf
          · exact ih6 _ hf
      · refine r_aload_n dX7_copy_29 rfl ?_
        refine r_iconst (v := 5) dX7_copy_30 (by decide) ?_
        obtain ⟨v20, hv, hf⟩ := bnd hf
        refine r_callV (lv := 1) dX7_copy_31 yo_X7_found yi_X7_found ml_X7_118 ya_X7_found sh_0 ⟨_, rfl, rfl⟩ (Fits.vm (by decide)) rfl rfl (Nat.le_of_ble_eq_true rfl) (S_X7_found (5 : Int32) h  _ hv) ?_
        exact e_iH dX7_copy_34 rfl hf
    · refine r_iconst (v := -1) dX7_copy_22 (by decide) ?_
      exact e_iH dX7_copy_23 rfl hf
def f_X7_mean (F : Nat) (x1_ : Int32) (h : Hp) : Option (Int32 × Hp) :=
  (f_X7_refusedMissing 1 x1_ h).bind fun v1 =>
  (if v1.1 = 0 then (
    (f_X4_size 1 x1_ v1.2).bind fun v2 =>
    (if 0 < v2 then (
      fix (σ := Int64 × Int32) (ρ := (Int32 × Hp)) (fun self4 s3 =>
        (if v2 ≤ s3.2 then (
          (dvL s3.1 (v2).toInt64).bind fun v6 =>
          nm (sI v1.2 0 14 (v6).toInt32) fun h7 =>
          some ((1 : Int32), h7))
        else (
          (f_X4_get 1 x1_ s3.2 v1.2).bind fun v8 =>
          self4 ((s3.1 + (v8).toInt64), (s3.2 + 1))))) F ((0 : Int64), (0 : Int32)))
    else (
      (f_X7_found (4 : Int32) v1.2).bind fun v10 =>
      some (v10.1, v10.2))))
  else (
    some (v1.1, v1.2)))
set_option maxRecDepth 100000 in
set_option maxHeartbeats 4000000 in
theorem S_X7_mean (F : Nat) (x1_ : Int32) (h : Hp) (r : (Int32 × Hp)) (hf : f_X7_mean F x1_ h = some r) : MetP Y_X7_mean 4 [.ref 0, .int x1_] h (some (.int r.1), r.2) := by
  unfold f_X7_mean at hf
  refine met_of yo_X7_mean (Nat.le_of_ble_eq_true rfl) ?_
  show Run Y_X7_mean _ 0 [some (.ref 0), some (.int x1_), none, none, none, none, none] [] h
  refine r_aload_n dX7_mean_0 rfl ?_
  refine r_aload_n dX7_mean_1 rfl ?_
  refine r_getS (b := 1) dX7_mean_2 sh_0 ft_X7_14 rfl rfl ?_
  refine r_iload_n dX7_mean_5 rfl ?_
  obtain ⟨v1, hv, hf⟩ := bnd hf
  refine r_callV (lv := 2) dX7_mean_6 yo_X7_refusedMissing yi_X7_refusedMissing ml_X7_107 ya_X7_refusedMissing sh_0 ⟨_, rfl, rfl⟩ (Fits.vm (by decide)) rfl rfl (Nat.le_of_ble_eq_true rfl) (S_X7_refusedMissing 1 x1_ sh_1 h  _ hv) ?_
  refine r_istore_nA dX7_mean_9 (by decide) ?_
  refine r_iload_n dX7_mean_10 rfl ?_
  refine r_if_eq 16 dX7_mean_11 (by decide) hf (fun c12 hf => ?_) (fun c12 hf => ?_)
  · refine r_aload_n dX7_mean_16 rfl ?_
    refine r_getS (b := 1) dX7_mean_17 sh_0 ft_X7_14 rfl rfl ?_
    refine r_iload_n dX7_mean_20 rfl ?_
    obtain ⟨v2, hv, hf⟩ := bnd hf
    refine r_callV (lv := 2) dX7_mean_21 yo_X4_size yi_X4_size ml_X7_133 ya_X4_size sh_1 ⟨_, rfl, rfl⟩ (Fits.vm (by decide)) rfl rfl (Nat.le_of_ble_eq_true rfl) (S_X4_size 1 x1_ sh_1 v1.2  _ hv) ?_
    refine r_istore_nA dX7_mean_24 (by decide) ?_
    refine r_iload_n dX7_mean_25 rfl ?_
    refine r_if_gt 35 dX7_mean_26 (by decide) hf (fun c11 hf => ?_) (fun c11 hf => ?_)
    · refine r_lconst (v := 0) dX7_mean_35 (by decide) ?_
      refine r_lstoreA dX7_mean_36 (by decide) ?_
      refine r_iconst (v := 0) dX7_mean_38 (by decide) ?_
      refine r_istoreA dX7_mean_39 (by decide) ?_
      refine r_fix (σ := Int64 × Int32) (fun s3 => [some (.ref 0), some (.int x1_), some (.int v1.1), some (.int v2), some (.long s3.1), none, some (.int s3.2)]) (fun s3 => v1.2) (fun self4 ih5 s3 hf => ?_) F ((0 : Int64), (0 : Int32)) hf
      refine r_iload dX7_mean_41 rfl ?_
      refine r_iload_n dX7_mean_43 rfl ?_
      refine r_icmp_ge 69 dX7_mean_44 (by decide) hf (fun c9 hf => ?_) (fun c9 hf => ?_)
      · refine r_aload_n dX7_mean_69 rfl ?_
        refine r_lload dX7_mean_70 rfl ?_
        refine r_iload_n dX7_mean_72 rfl ?_
        refine r_i2l dX7_mean_73 ?_
        refine r_ldiv dX7_mean_74 hf fun v6 hf => ?_
        refine r_l2i dX7_mean_75 ?_
        refine r_putI dX7_mean_76 sh_0 ft_X7_99 rfl hf fun h7 hf => ?_
        refine r_iconst (v := 1) dX7_mean_79 (by decide) ?_
        exact e_iH dX7_mean_80 rfl hf
      · refine r_lload dX7_mean_47 rfl ?_
        refine r_aload_n dX7_mean_49 rfl ?_
        refine r_getS (b := 1) dX7_mean_50 sh_0 ft_X7_14 rfl rfl ?_
        refine r_iload_n dX7_mean_53 rfl ?_
        refine r_iload dX7_mean_54 rfl ?_
        obtain ⟨v8, hv, hf⟩ := bnd hf
        refine r_callV (lv := 3) dX7_mean_56 yo_X4_get yi_X4_get ml_X7_95 ya_X4_get sh_1 ⟨_, rfl, rfl⟩ (Fits.vm (by decide)) rfl rfl (Nat.le_of_ble_eq_true rfl) (S_X4_get 1 x1_ s3.2 sh_1 v1.2  _ hv) ?_
        refine r_i2l dX7_mean_59 ?_
        refine r_ladd dX7_mean_60 ?_
        refine r_lstoreA dX7_mean_61 (by decide) ?_
        refine r_iincA (v := 1) dX7_mean_63 rfl (by decide) (by decide) ?_
        refine r_goto 41 dX7_mean_66 (by decide) ?_
        exact ih5 _ hf
    · refine r_aload_n dX7_mean_29 rfl ?_
      refine r_iconst (v := 4) dX7_mean_30 (by decide) ?_
      obtain ⟨v10, hv, hf⟩ := bnd hf
      refine r_callV (lv := 1) dX7_mean_31 yo_X7_found yi_X7_found ml_X7_118 ya_X7_found sh_0 ⟨_, rfl, rfl⟩ (Fits.vm (by decide)) rfl rfl (Nat.le_of_ble_eq_true rfl) (S_X7_found (4 : Int32) v1.2  _ hv) ?_
      exact e_iH dX7_mean_34 rfl hf
  · refine r_iload_n dX7_mean_14 rfl ?_
    exact e_iH dX7_mean_15 rfl hf
def f_X7_text (F : Nat) (x1_ : Int32) (x2_ : Int32) (h : Hp) : Option (Int32 × Hp) :=
  (f_X7_made F 10 x1_ x2_ (32 : Int32) h).bind fun v1 =>
  some (v1.1, v1.2)
set_option maxRecDepth 100000 in
set_option maxHeartbeats 4000000 in
theorem S_X7_text (F : Nat) (x1_ : Int32) (x2_ : Int32) (h : Hp) (r : (Int32 × Hp)) (hf : f_X7_text F x1_ x2_ h = some r) : MetP Y_X7_text 4 [.ref 0, .int x1_, .int x2_] h (some (.int r.1), r.2) := by
  unfold f_X7_text at hf
  refine met_of yo_X7_text (Nat.le_of_ble_eq_true rfl) ?_
  show Run Y_X7_text _ 0 [some (.ref 0), some (.int x1_), some (.int x2_)] [] h
  refine r_aload_n dX7_text_0 rfl ?_
  refine r_aload_n dX7_text_1 rfl ?_
  refine r_getS (b := 10) dX7_text_2 sh_0 ft_X7_18 rfl rfl ?_
  refine r_iload_n dX7_text_5 rfl ?_
  refine r_iload_n dX7_text_6 rfl ?_
  refine r_bipush (v := 32) dX7_text_7 (by decide) ?_
  obtain ⟨v1, hv, hf⟩ := bnd hf
  refine r_callV (lv := 3) dX7_text_9 yo_X7_made yi_X7_made ml_X7_87 ya_X7_made sh_0 ⟨_, rfl, rfl⟩ (Fits.vm (by decide)) rfl rfl (Nat.le_of_ble_eq_true rfl) (S_X7_made F 10 x1_ x2_ (32 : Int32) sh_10 h  _ hv) ?_
  exact e_iH dX7_text_12 rfl hf
def f_X7_put (x1_ : Int32) (x2_ : Int32) (x3_ : Int32) (h : Hp) : Option (Int32 × Hp) :=
  (f_X7_refusedPlace 10 x1_ x2_ h).bind fun v1 =>
  (if v1.1 = 0 then (
    (f_X4_get 10 x1_ x2_ v1.2).bind fun v2 =>
    (f_X4_set 10 x1_ x2_ (x3_).toInt8.toInt32 v1.2).bind fun h3 =>
    some ((v2 + (1000 : Int32)), h3))
  else (
    some (v1.1, v1.2)))
set_option maxRecDepth 100000 in
set_option maxHeartbeats 4000000 in
theorem S_X7_put (x1_ : Int32) (x2_ : Int32) (x3_ : Int32) (h : Hp) (r : (Int32 × Hp)) (hf : f_X7_put x1_ x2_ x3_ h = some r) : MetP Y_X7_put 4 [.ref 0, .int x1_, .int x2_, .int x3_] h (some (.int r.1), r.2) := by
  unfold f_X7_put at hf
  refine met_of yo_X7_put (Nat.le_of_ble_eq_true rfl) ?_
  show Run Y_X7_put _ 0 [some (.ref 0), some (.int x1_), some (.int x2_), some (.int x3_), none, none] [] h
  refine r_aload_n dX7_put_0 rfl ?_
  refine r_aload_n dX7_put_1 rfl ?_
  refine r_getS (b := 10) dX7_put_2 sh_0 ft_X7_18 rfl rfl ?_
  refine r_iload_n dX7_put_5 rfl ?_
  refine r_iload_n dX7_put_6 rfl ?_
  obtain ⟨v1, hv, hf⟩ := bnd hf
  refine r_callV (lv := 3) dX7_put_7 yo_X7_refusedPlace yi_X7_refusedPlace ml_X7_91 ya_X7_refusedPlace sh_0 ⟨_, rfl, rfl⟩ (Fits.vm (by decide)) rfl rfl (Nat.le_of_ble_eq_true rfl) (S_X7_refusedPlace 10 x1_ x2_ sh_10 h  _ hv) ?_
  refine r_istoreA dX7_put_10 (by decide) ?_
  refine r_iload dX7_put_12 rfl ?_
  refine r_if_eq 20 dX7_put_14 (by decide) hf (fun c4 hf => ?_) (fun c4 hf => ?_)
  · refine r_aload_n dX7_put_20 rfl ?_
    refine r_getS (b := 10) dX7_put_21 sh_0 ft_X7_18 rfl rfl ?_
    refine r_iload_n dX7_put_24 rfl ?_
    refine r_iload_n dX7_put_25 rfl ?_
    obtain ⟨v2, hv, hf⟩ := bnd hf
    refine r_callV (lv := 3) dX7_put_26 yo_X4_get yi_X4_get ml_X7_95 ya_X4_get sh_10 ⟨_, rfl, rfl⟩ (Fits.vm (by decide)) rfl rfl (Nat.le_of_ble_eq_true rfl) (S_X4_get 10 x1_ x2_ sh_10 v1.2  _ hv) ?_
    refine r_istoreA dX7_put_29 (by decide) ?_
    refine r_aload_n dX7_put_31 rfl ?_
    refine r_getS (b := 10) dX7_put_32 sh_0 ft_X7_18 rfl rfl ?_
    refine r_iload_n dX7_put_35 rfl ?_
    refine r_iload_n dX7_put_36 rfl ?_
    refine r_iload_n dX7_put_37 rfl ?_
    refine r_i2b dX7_put_38 ?_
    obtain ⟨h3, hv, hf⟩ := bnd hf
    refine r_callV (lv := 3) dX7_put_39 yo_X4_set yi_X4_set ml_X7_103 ya_X4_set sh_10 ⟨_, rfl, rfl⟩ (Fits.vm (by decide)) rfl rfl (Nat.le_of_ble_eq_true rfl) (S_X4_set 10 x1_ x2_ (x3_).toInt8.toInt32 sh_10 v1.2  _ hv) ?_
    refine r_iload dX7_put_42 rfl ?_
    refine r_sipush (v := 1000) dX7_put_44 (by decide) ?_
    refine r_iadd dX7_put_47 ?_
    exact e_iH dX7_put_48 rfl hf
  · refine r_iload dX7_put_17 rfl ?_
    exact e_iH dX7_put_19 rfl hf
def f_X7_fault (F : Nat) (x1_ : Int32) (h : Hp) : Option (Int32 × Hp) :=
  (f_X7_refusedMissing 10 x1_ h).bind fun v1 =>
  (Option.bind (α := Int32 × Hp) (
    (if v1.1 = 0 then (
      (gO v1.2 0 12 (0, 6, 14)).bind fun y4 =>
      (f_X1_read F 10 x1_ y4 v1.2).bind fun v5 =>
      some (v5.1, v5.2))
    else (
      some (v1.1, v1.2)))) fun t2 =>
  some (t2.1, t2.2))
set_option maxRecDepth 100000 in
set_option maxHeartbeats 4000000 in
theorem S_X7_fault (F : Nat) (x1_ : Int32) (h : Hp) (r : (Int32 × Hp)) (hf : f_X7_fault F x1_ h = some r) : MetP Y_X7_fault 7 [.ref 0, .int x1_] h (some (.int r.1), r.2) := by
  unfold f_X7_fault at hf
  refine met_of yo_X7_fault (Nat.le_of_ble_eq_true rfl) ?_
  show Run Y_X7_fault _ 0 [some (.ref 0), some (.int x1_), none] [] h
  refine r_aload_n dX7_fault_0 rfl ?_
  refine r_aload_n dX7_fault_1 rfl ?_
  refine r_getS (b := 10) dX7_fault_2 sh_0 ft_X7_18 rfl rfl ?_
  refine r_iload_n dX7_fault_5 rfl ?_
  obtain ⟨v1, hv, hf⟩ := bnd hf
  refine r_callV (lv := 2) dX7_fault_6 yo_X7_refusedMissing yi_X7_refusedMissing ml_X7_107 ya_X7_refusedMissing sh_0 ⟨_, rfl, rfl⟩ (Fits.vm (by decide)) rfl rfl (Nat.le_of_ble_eq_true rfl) (S_X7_refusedMissing 10 x1_ sh_10 h  _ hv) ?_
  refine r_istore_nA dX7_fault_9 (by decide) ?_
  refine r_iload_n dX7_fault_10 rfl ?_
  refine r_reg (P := fun t2 => Run Y_X7_fault (VM 7 (some (.int r.1), r.2)) 34 [some (.ref 0), some (.int x1_), some (.int v1.1)] [.int t2.1] t2.2) hf (fun t2 hf => ?_) (fun t2 key3 hf => ?_)
  · exact e_iH dX7_fault_34 rfl hf
  · refine r_if_eq 18 dX7_fault_11 (by decide) hf (fun c6 hf => ?_) (fun c6 hf => ?_)
    · refine r_aload_n dX7_fault_18 rfl ?_
      refine r_getS (b := 17) dX7_fault_19 sh_0 ft_X7_24 rfl rfl ?_
      refine r_aload_n dX7_fault_22 rfl ?_
      refine r_getS (b := 10) dX7_fault_23 sh_0 ft_X7_18 rfl rfl ?_
      refine r_iload_n dX7_fault_26 rfl ?_
      refine r_aload_n dX7_fault_27 rfl ?_
      refine r_getR (E := (0, 6, 14)) dX7_fault_28 sh_0 ft_X7_81 rfl hf fun y4 hy4 hf => ?_
      obtain ⟨v5, hv, hf⟩ := bnd hf
      refine r_callV (lv := 6) dX7_fault_31 yo_X1_read yi_X1_read ml_X7_136 ya_X1_read sh_17 ⟨_, rfl, rfl⟩ (Fits.vm (by decide)) rfl rfl (Nat.le_of_ble_eq_true rfl) (S_X1_read F 10 x1_ y4 sh_10 hy4 v1.2  _ hv) ?_
      cases hf; exact key3
    · refine r_iload_n dX7_fault_14 rfl ?_
      refine r_goto 34 dX7_fault_15 (by decide) ?_
      cases hf; exact key3
def f_X7_changeRules (F : Nat)  (h : Hp) : Option Hp :=
  (gO h 0 11 (0, 6, 14)).bind fun y1 =>
  (f_X2_follow F y1 (gI h 18 2) (gI h 18 3) h).bind fun h2 =>
  (f_X3_forget h2).bind fun h3 =>
  some h3
set_option maxRecDepth 100000 in
set_option maxHeartbeats 4000000 in
theorem S_X7_changeRules (F : Nat)  (h : Hp) (r : Hp) (hf : f_X7_changeRules F h = some r) : MetP Y_X7_changeRules 3 [.ref 0] h (none, r) := by
  unfold f_X7_changeRules at hf
  refine met_of yo_X7_changeRules (Nat.le_of_ble_eq_true rfl) ?_
  show Run Y_X7_changeRules _ 0 [some (.ref 0)] [] h
  refine r_aload_n dX7_changeRules_0 rfl ?_
  refine r_getS (b := 22) dX7_changeRules_1 sh_0 ft_X7_42 rfl rfl ?_
  refine r_aload_n dX7_changeRules_4 rfl ?_
  refine r_getR (E := (0, 6, 14)) dX7_changeRules_5 sh_0 ft_X7_77 rfl hf fun y1 hy1 hf => ?_
  refine r_aload_n dX7_changeRules_8 rfl ?_
  refine r_getS (b := 18) dX7_changeRules_9 sh_0 ft_X7_31 rfl rfl ?_
  refine r_getI dX7_changeRules_12 sh_18 ft_X7_193 rfl ?_
  refine r_aload_n dX7_changeRules_15 rfl ?_
  refine r_getS (b := 18) dX7_changeRules_16 sh_0 ft_X7_31 rfl rfl ?_
  refine r_getI dX7_changeRules_19 sh_18 ft_X7_196 rfl ?_
  obtain ⟨h2, hv, hf⟩ := bnd hf
  refine r_callV (lv := 2) dX7_changeRules_22 yo_X2_follow yi_X2_follow ml_X7_383 ya_X2_follow sh_22 ⟨_, rfl, rfl⟩ (Fits.vm (by decide)) rfl rfl (Nat.le_of_ble_eq_true rfl) (S_X2_follow F y1 (gI h 18 2) (gI h 18 3) hy1 h  _ hv) ?_
  refine r_aload_n dX7_changeRules_25 rfl ?_
  refine r_getS (b := 23) dX7_changeRules_26 sh_0 ft_X7_51 rfl rfl ?_
  obtain ⟨h3, hv, hf⟩ := bnd hf
  refine r_callV (lv := 1) dX7_changeRules_29 yo_X3_forget yi_X3_forget ml_X7_387 ya_X3_forget sh_23 ⟨_, rfl, rfl⟩ (Fits.vm (by decide)) rfl rfl (Nat.le_of_ble_eq_true rfl) (S_X3_forget  h2  _ hv) ?_
  exact e_vH dX7_changeRules_32 rfl hf
def f_X7_yard (F : Nat) (x1_ : Int32) (h : Hp) : Option (Int32 × Hp) :=
  (f_X7_refusedMissing 10 x1_ h).bind fun v1 =>
  (if v1.1 = 0 then (
    (gO v1.2 0 12 (0, 6, 14)).bind fun y2 =>
    (f_X1_read F 10 x1_ y2 v1.2).bind fun v3 =>
    (if v3.1 = (-9 : Int32) then (
      (gO v3.2 0 11 (0, 6, 14)).bind fun y4 =>
      (gO v3.2 0 12 (0, 6, 14)).bind fun y5 =>
      nm (sR v3.2 0 11 (some y5)) fun h6 =>
      nm (sR h6 0 12 (some y4)) fun h7 =>
      (gO h7 0 11 (0, 6, 14)).bind fun y8 =>
      (f_X6_firstStand F y8 h7).bind fun v9 =>
      (f_X0_restart 18 v9 h7).bind fun h10 =>
      fix (σ := Int32 × Hp) (ρ := (Int32 × Hp)) (fun self12 s11 =>
        (if (3 : Int32) ≤ s11.1 then (
          nm (sI s11.2 0 13 (0 : Int32)) fun h14 =>
          (f_X7_changeRules F h14).bind fun h15 =>
          (gO h15 0 11 (0, 6, 14)).bind fun y16 =>
          some ((gI h15 y16 4), h15))
        else (
          (ldR 21 s11.1).bind fun b17 =>
          (ckZ (0 : Int32)).bind fun z19 => nm (sI s11.2 b17 0 z19) fun h18 =>
          self12 ((s11.1 + 1), h18)))) F ((0 : Int32), h10))
    else (
      some ((-4 : Int32), v3.2))))
  else (
    some (v1.1, v1.2)))
set_option maxRecDepth 100000 in
set_option maxHeartbeats 4000000 in
theorem S_X7_yard (F : Nat) (x1_ : Int32) (h : Hp) (r : (Int32 × Hp)) (hf : f_X7_yard F x1_ h = some r) : MetP Y_X7_yard 7 [.ref 0, .int x1_] h (some (.int r.1), r.2) := by
  unfold f_X7_yard at hf
  refine met_of yo_X7_yard (Nat.le_of_ble_eq_true rfl) ?_
  show Run Y_X7_yard _ 0 [some (.ref 0), some (.int x1_), none, none, none] [] h
  refine r_aload_n dX7_yard_0 rfl ?_
  refine r_aload_n dX7_yard_1 rfl ?_
  refine r_getS (b := 10) dX7_yard_2 sh_0 ft_X7_18 rfl rfl ?_
  refine r_iload_n dX7_yard_5 rfl ?_
  obtain ⟨v1, hv, hf⟩ := bnd hf
  refine r_callV (lv := 2) dX7_yard_6 yo_X7_refusedMissing yi_X7_refusedMissing ml_X7_107 ya_X7_refusedMissing sh_0 ⟨_, rfl, rfl⟩ (Fits.vm (by decide)) rfl rfl (Nat.le_of_ble_eq_true rfl) (S_X7_refusedMissing 10 x1_ sh_10 h  _ hv) ?_
  refine r_istore_nA dX7_yard_9 (by decide) ?_
  refine r_iload_n dX7_yard_10 rfl ?_
  refine r_if_eq 16 dX7_yard_11 (by decide) hf (fun c22 hf => ?_) (fun c22 hf => ?_)
  · refine r_aload_n dX7_yard_16 rfl ?_
    refine r_getS (b := 17) dX7_yard_17 sh_0 ft_X7_24 rfl rfl ?_
    refine r_aload_n dX7_yard_20 rfl ?_
    refine r_getS (b := 10) dX7_yard_21 sh_0 ft_X7_18 rfl rfl ?_
    refine r_iload_n dX7_yard_24 rfl ?_
    refine r_aload_n dX7_yard_25 rfl ?_
    refine r_getR (E := (0, 6, 14)) dX7_yard_26 sh_0 ft_X7_81 rfl hf fun y2 hy2 hf => ?_
    obtain ⟨v3, hv, hf⟩ := bnd hf
    refine r_callV (lv := 6) dX7_yard_29 yo_X1_read yi_X1_read ml_X7_136 ya_X1_read sh_17 ⟨_, rfl, rfl⟩ (Fits.vm (by decide)) rfl rfl (Nat.le_of_ble_eq_true rfl) (S_X1_read F 10 x1_ y2 sh_10 hy2 v1.2  _ hv) ?_
    refine r_bipush (v := -9) dX7_yard_32 (by decide) ?_
    refine r_icmp_eq 40 dX7_yard_34 (by decide) hf (fun c21 hf => ?_) (fun c21 hf => ?_)
    · refine r_aload_n dX7_yard_40 rfl ?_
      refine r_getR (E := (0, 6, 14)) dX7_yard_41 sh_0 ft_X7_77 rfl hf fun y4 hy4 hf => ?_
      refine r_astore_n dX7_yard_44 (by decide) ?_
      refine r_aload_n dX7_yard_45 rfl ?_
      refine r_aload_n dX7_yard_46 rfl ?_
      refine r_getR (E := (0, 6, 14)) dX7_yard_47 sh_0 ft_X7_81 rfl hf fun y5 hy5 hf => ?_
      refine r_putR dX7_yard_50 sh_0 ft_X7_77 rfl hf fun h6 hf => ?_
      refine r_aload_n dX7_yard_53 rfl ?_
      refine r_aload_n dX7_yard_54 rfl ?_
      refine r_putR dX7_yard_55 sh_0 ft_X7_81 rfl hf fun h7 hf => ?_
      refine r_aload_n dX7_yard_58 rfl ?_
      refine r_getS (b := 18) dX7_yard_59 sh_0 ft_X7_31 rfl rfl ?_
      refine r_aload_n dX7_yard_62 rfl ?_
      refine r_getR (E := (0, 6, 14)) dX7_yard_63 sh_0 ft_X7_77 rfl hf fun y8 hy8 hf => ?_
      obtain ⟨v9, hv, hf⟩ := bnd hf
      refine r_callV (lv := 1) dX7_yard_66 yo_X6_firstStand yi_X6_firstStand ml_X7_140 ya_X6_firstStand hy8 ⟨_, rfl, rfl⟩ (Fits.vm (by decide)) rfl rfl (Nat.le_of_ble_eq_true rfl) (S_X6_firstStand F y8 hy8 h7  _ hv) ?_
      obtain ⟨h10, hv, hf⟩ := bnd hf
      refine r_callV (lv := 1) dX7_yard_69 yo_X0_restart yi_X0_restart ml_X7_144 ya_X0_restart sh_18 ⟨_, rfl, rfl⟩ (Fits.vm (by decide)) rfl rfl (Nat.le_of_ble_eq_true rfl) (S_X0_restart 18 v9 sh_18 h7  _ hv) ?_
      refine r_iconst (v := 0) dX7_yard_72 (by decide) ?_
      refine r_istoreA dX7_yard_73 (by decide) ?_
      refine r_fix (σ := Int32 × Hp) (fun s11 => [some (.ref 0), some (.int x1_), some (.int v1.1), some (.ref y4), some (.int s11.1)]) (fun s11 => s11.2) (fun self12 ih13 s11 hf => ?_) F ((0 : Int32), h10) hf
      refine r_iload dX7_yard_75 rfl ?_
      refine r_iconst (v := 3) dX7_yard_77 (by decide) ?_
      refine r_icmp_ge 98 dX7_yard_78 (by decide) hf (fun c20 hf => ?_) (fun c20 hf => ?_)
      · refine r_aload_n dX7_yard_98 rfl ?_
        refine r_iconst (v := 0) dX7_yard_99 (by decide) ?_
        refine r_putI dX7_yard_100 sh_0 ft_X7_151 rfl hf fun h14 hf => ?_
        refine r_aload_n dX7_yard_103 rfl ?_
        obtain ⟨h15, hv, hf⟩ := bnd hf
        refine r_callV (lv := 3) dX7_yard_104 yo_X7_changeRules yi_X7_changeRules ml_X7_84 ya_X7_changeRules sh_0 ⟨_, rfl, rfl⟩ (Fits.vm (by decide)) rfl rfl (Nat.le_of_ble_eq_true rfl) (S_X7_changeRules F h14  _ hv) ?_
        refine r_aload_n dX7_yard_107 rfl ?_
        refine r_getR (E := (0, 6, 14)) dX7_yard_108 sh_0 ft_X7_77 rfl hf fun y16 hy16 hf => ?_
        refine r_getI dX7_yard_111 hy16 ft_X7_154 rfl ?_
        exact e_iH dX7_yard_114 rfl hf
      · refine r_aload_n dX7_yard_81 rfl ?_
        refine r_getS (b := 21) dX7_yard_82 sh_0 ft_X7_35 rfl rfl ?_
        refine r_iload dX7_yard_85 rfl ?_
        refine r_aald (E := (0, 0, 7)) dX7_yard_87 sh_21 (Or.inr rfl) se_kept hf fun b17 hb17 hf => ?_
        refine r_iconst (v := 0) dX7_yard_88 (by decide) ?_
        refine r_putZ dX7_yard_89 hb17 ft_X7_147 rfl hf fun h18 hf => ?_
        refine r_iincA (v := 1) dX7_yard_92 rfl (by decide) (by decide) ?_
        refine r_goto 75 dX7_yard_95 (by decide) ?_
        exact ih13 _ hf
    · refine r_bipush (v := -4) dX7_yard_37 (by decide) ?_
      exact e_iH dX7_yard_39 rfl hf
  · refine r_iload_n dX7_yard_14 rfl ?_
    exact e_iH dX7_yard_15 rfl hf
def f_X7_isMan (x1_ : Int32) (h : Hp) : Option Int32 :=
  (Option.bind (α := Int32) (
    (if x1_ < 0 then (
      some (0 : Int32))
    else (
      (gO h 0 11 (0, 6, 14)).bind fun y3 =>
      (if (gI h y3 4) ≤ x1_ then (
        some (0 : Int32))
      else (
        some (1 : Int32)))))) fun t1 =>
  ckZ t1)
set_option maxRecDepth 100000 in
set_option maxHeartbeats 4000000 in
theorem S_X7_isMan (x1_ : Int32) (h : Hp) (r : Int32) (hf : f_X7_isMan x1_ h = some r) : MetP Y_X7_isMan 1 [.ref 0, .int x1_] h (some (.int r), h) := by
  unfold f_X7_isMan at hf
  refine met_of yo_X7_isMan (Nat.le_of_ble_eq_true rfl) ?_
  show Run Y_X7_isMan _ 0 [some (.ref 0), some (.int x1_)] [] h
  refine r_iload_n dX7_isMan_0 rfl ?_
  refine r_reg (P := fun t1 => Run Y_X7_isMan (VM 1 (some (.int r), h)) 20 [some (.ref 0), some (.int x1_)] [.int t1] h) hf (fun t1 hf => ?_) (fun t1 key2 hf => ?_)
  · exact e_zP dX7_isMan_20 rfl hf
  · refine r_if_lt 19 dX7_isMan_1 (by decide) hf (fun c5 hf => ?_) (fun c5 hf => ?_)
    · refine r_iconst (v := 0) dX7_isMan_19 (by decide) ?_
      cases hf; exact key2
    · refine r_iload_n dX7_isMan_4 rfl ?_
      refine r_aload_n dX7_isMan_5 rfl ?_
      refine r_getR (E := (0, 6, 14)) dX7_isMan_6 sh_0 ft_X7_77 rfl hf fun y3 hy3 hf => ?_
      refine r_getI dX7_isMan_9 hy3 ft_X7_154 rfl ?_
      refine r_icmp_ge 19 dX7_isMan_12 (by decide) hf (fun c4 hf => ?_) (fun c4 hf => ?_)
      · refine r_iconst (v := 0) dX7_isMan_19 (by decide) ?_
        cases hf; exact key2
      · refine r_iconst (v := 1) dX7_isMan_15 (by decide) ?_
        refine r_goto 20 dX7_isMan_16 (by decide) ?_
        cases hf; exact key2
def f_X7_closedChains  (h : Hp) : Option Int32 :=
  (gO h 0 11 (0, 6, 14)).bind fun y1 =>
  some ((((1 : Int32) <<< ((gI h y1 5) &&& 31)) - (1 : Int32)) &&& ((gI h 18 3) ^^^ (-1 : Int32)))
set_option maxRecDepth 100000 in
set_option maxHeartbeats 4000000 in
theorem S_X7_closedChains  (h : Hp) (r : Int32) (hf : f_X7_closedChains h = some r) : MetP Y_X7_closedChains 1 [.ref 0] h (some (.int r), h) := by
  unfold f_X7_closedChains at hf
  refine met_of yo_X7_closedChains (Nat.le_of_ble_eq_true rfl) ?_
  show Run Y_X7_closedChains _ 0 [some (.ref 0)] [] h
  refine r_iconst (v := 1) dX7_closedChains_0 (by decide) ?_
  refine r_aload_n dX7_closedChains_1 rfl ?_
  refine r_getR (E := (0, 6, 14)) dX7_closedChains_2 sh_0 ft_X7_77 rfl hf fun y1 hy1 hf => ?_
  refine r_getI dX7_closedChains_5 hy1 ft_X7_348 rfl ?_
  refine r_ishl dX7_closedChains_8 ?_
  refine r_iconst (v := 1) dX7_closedChains_9 (by decide) ?_
  refine r_isub dX7_closedChains_10 ?_
  refine r_aload_n dX7_closedChains_11 rfl ?_
  refine r_getS (b := 18) dX7_closedChains_12 sh_0 ft_X7_31 rfl rfl ?_
  refine r_getI dX7_closedChains_15 sh_18 ft_X7_196 rfl ?_
  refine r_iconst (v := -1) dX7_closedChains_18 (by decide) ?_
  refine r_ixor dX7_closedChains_19 ?_
  refine r_iand dX7_closedChains_20 ?_
  exact e_iP dX7_closedChains_21 rfl hf
