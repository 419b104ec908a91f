def f_X8_tide (x1_ : Int32) (h : Hp) : Option (Int32 × Hp) :=
  (f_X8_in x1_ (0 : Int32) (3 : Int32) h).bind fun v1 =>
  (if v1 = 0 then (
    some ((-1 : Int32), h))
  else (
    (f_X8_cellMany h).bind fun v2 =>
    (if v2 = 0 then (
      some ((-4 : Int32), h))
    else (
      nm (sI h 66 13 x1_) fun h3 =>
      some ((gI h 66 13), h3)))))
set_option maxRecDepth 100000 in
set_option maxHeartbeats 4000000 in
theorem S_X8_tide (x1_ : Int32) (h : Hp) (r : (Int32 × Hp)) (hf : f_X8_tide x1_ h = some r) : MetP Y_X8_tide 2 [.ref 66, .int x1_] h (some (.int r.1), r.2) := by
  unfold f_X8_tide at hf
  refine met_of yo_X8_tide (Nat.le_of_ble_eq_true rfl) ?_
  show Run Y_X8_tide _ 0 [some (.ref 66), some (.int x1_), none] [] h
  refine r_iload_n dX8_tide_0 rfl ?_
  refine r_iconst (v := 0) dX8_tide_1 (by decide) ?_
  refine r_iconst (v := 3) dX8_tide_2 (by decide) ?_
  obtain ⟨v1, hv, hf⟩ := bnd hf
  refine r_callS (lv := 1) dX8_tide_3 yo_X8_in ys_X8_in ml_X8_133 ya_X8_in (Fits.vm (by decide)) rfl rfl (Nat.le_of_ble_eq_true rfl) (S_X8_in x1_ (0 : Int32) (3 : Int32) h  _ hv) ?_
  refine r_if_ne 11 dX8_tide_6 (by decide) hf (fun c5 hf => ?_) (fun c5 hf => ?_)
  · refine r_aload_n dX8_tide_11 rfl ?_
    obtain ⟨v2, hv, hf⟩ := bnd hf
    refine r_callV (lv := 1) dX8_tide_12 yo_X8_cellMany yi_X8_cellMany ml_X8_239 ya_X8_cellMany sh_66 ⟨_, rfl, rfl⟩ (Fits.vm (by decide)) rfl rfl (Nat.le_of_ble_eq_true rfl) (S_X8_cellMany  h  _ hv) ?_
    refine r_if_ne 21 dX8_tide_15 (by decide) hf (fun c4 hf => ?_) (fun c4 hf => ?_)
    · refine r_aload_n dX8_tide_21 rfl ?_
      refine r_getI dX8_tide_22 sh_66 ft_X8_230 rfl ?_
      refine r_istore_nA dX8_tide_25 (by decide) ?_
      refine r_aload_n dX8_tide_26 rfl ?_
      refine r_iload_n dX8_tide_27 rfl ?_
      refine r_putI dX8_tide_28 sh_66 ft_X8_230 rfl hf fun h3 hf => ?_
      refine r_iload_n dX8_tide_31 rfl ?_
      exact e_iH dX8_tide_32 rfl hf
    · refine r_bipush (v := -4) dX8_tide_18 (by decide) ?_
      exact e_iH dX8_tide_20 rfl hf
  · refine r_iconst (v := -1) dX8_tide_9 (by decide) ?_
    exact e_iH dX8_tide_10 rfl hf
def f_X8_open (F : Nat) (x1_ : Int32) (x2_ : Int32) (h : Hp) : Option (Int32 × Hp) :=
  (f_X8_isChain x1_ h).bind fun v1 =>
  (if v1 = 0 then (
    some ((-1 : Int32), h))
  else (
    (f_X8_in x2_ (0 : Int32) (1 : Int32) h).bind fun v2 =>
    (if v2 = 0 then (
      some ((-1 : Int32), h))
    else (
      (f_X8_lookAtNow F h).bind fun h3 =>
      jn (α := (Unit) → Option (Int32 × Hp)) (fun t4 =>
        (ldI h3 77 x1_).bind fun v7 =>
        (stI h3 77 x1_ x2_).bind fun h8 =>
        some (v7, h8)) fun j5 =>
      (if x2_ = 0 then (
        (f_X8_farOf x1_ h3).bind fun v9 =>
        (f_X8_reachOf x1_ h3).bind fun v10 =>
        (if v9 ≤ v10 then (
          j5 ())
        else (
          some ((-4 : Int32), h3))))
      else (
        j5 ()))))))
set_option maxRecDepth 100000 in
set_option maxHeartbeats 4000000 in
theorem S_X8_open (F : Nat) (x1_ : Int32) (x2_ : Int32) (h : Hp) (r : (Int32 × Hp)) (hf : f_X8_open F x1_ x2_ h = some r) : MetP Y_X8_open 4 [.ref 66, .int x1_, .int x2_] h (some (.int r.1), r.2) := by
  unfold f_X8_open at hf
  refine met_of yo_X8_open (Nat.le_of_ble_eq_true rfl) ?_
  show Run Y_X8_open _ 0 [some (.ref 66), some (.int x1_), some (.int x2_), none] [] h
  refine r_aload_n dX8_open_0 rfl ?_
  refine r_iload_n dX8_open_1 rfl ?_
  obtain ⟨v1, hv, hf⟩ := bnd hf
  refine r_callV (lv := 2) dX8_open_2 yo_X8_isChain yi_X8_isChain ml_X8_296 ya_X8_isChain sh_66 ⟨_, rfl, rfl⟩ (Fits.vm (by decide)) rfl rfl (Nat.le_of_ble_eq_true rfl) (S_X8_isChain x1_ h  _ hv) ?_
  refine r_if_eq 17 dX8_open_5 (by decide) hf (fun c14 hf => ?_) (fun c14 hf => ?_)
  · refine r_iconst (v := -1) dX8_open_17 (by decide) ?_
    exact e_iH dX8_open_18 rfl hf
  · refine r_iload_n dX8_open_8 rfl ?_
    refine r_iconst (v := 0) dX8_open_9 (by decide) ?_
    refine r_iconst (v := 1) dX8_open_10 (by decide) ?_
    obtain ⟨v2, hv, hf⟩ := bnd hf
    refine r_callS (lv := 1) dX8_open_11 yo_X8_in ys_X8_in ml_X8_133 ya_X8_in (Fits.vm (by decide)) rfl rfl (Nat.le_of_ble_eq_true rfl) (S_X8_in x2_ (0 : Int32) (1 : Int32) h  _ hv) ?_
    refine r_if_ne 19 dX8_open_14 (by decide) hf (fun c13 hf => ?_) (fun c13 hf => ?_)
    · refine r_aload_n dX8_open_19 rfl ?_
      obtain ⟨h3, hv, hf⟩ := bnd hf
      refine r_callV (lv := 1) dX8_open_20 yo_X8_lookAtNow yi_X8_lookAtNow ml_X8_293 ya_X8_lookAtNow sh_66 ⟨_, rfl, rfl⟩ (Fits.vm (by decide)) rfl rfl (Nat.le_of_ble_eq_true rfl) (S_X8_lookAtNow F h  _ hv) ?_
      refine r_iload_n dX8_open_23 rfl ?_
      refine r_jn (P := fun t4 => Run Y_X8_open (VM 4 (some (.int r.1), r.2)) 43 [some (.ref 66), some (.int x1_), some (.int x2_), none] [] h3) hf (fun t4 hf => ?_) (fun j5 ih6 hf => ?_)
      · refine r_aload_n dX8_open_43 rfl ?_
        refine r_getS (b := 77) dX8_open_44 sh_66 ft_X8_41 rfl rfl ?_
        refine r_iload_n dX8_open_47 rfl ?_
        refine r_iald dX8_open_48 sh_77 hf fun v7 hf => ?_
        refine r_istore_nA dX8_open_49 (by decide) ?_
        refine r_aload_n dX8_open_50 rfl ?_
        refine r_getS (b := 77) dX8_open_51 sh_66 ft_X8_41 rfl rfl ?_
        refine r_iload_n dX8_open_54 rfl ?_
        refine r_iload_n dX8_open_55 rfl ?_
        refine r_iast dX8_open_56 sh_77 hf fun h8 hf => ?_
        refine r_iload_n dX8_open_57 rfl ?_
        exact e_iH dX8_open_58 rfl hf
      refine r_if_ne 43 dX8_open_24 (by decide) hf (fun c12 hf => ?_) (fun c12 hf => ?_)
      · exact ih6 _ hf
      · refine r_aload_n dX8_open_27 rfl ?_
        refine r_iload_n dX8_open_28 rfl ?_
        obtain ⟨v9, hv, hf⟩ := bnd hf
        refine r_callV (lv := 3) dX8_open_29 yo_X8_farOf yi_X8_farOf ml_X8_246 ya_X8_farOf sh_66 ⟨_, rfl, rfl⟩ (Fits.vm (by decide)) rfl rfl (Nat.le_of_ble_eq_true rfl) (S_X8_farOf x1_ h3  _ hv) ?_
        refine r_aload_n dX8_open_32 rfl ?_
        refine r_iload_n dX8_open_33 rfl ?_
        obtain ⟨v10, hv, hf⟩ := bnd hf
        refine r_callV (lv := 3) dX8_open_34 yo_X8_reachOf yi_X8_reachOf ml_X8_249 ya_X8_reachOf sh_66 ⟨_, rfl, rfl⟩ (Fits.vm (by decide)) rfl rfl (Nat.le_of_ble_eq_true rfl) (S_X8_reachOf x1_ h3  _ hv) ?_
        refine r_icmp_le 43 dX8_open_37 (by decide) hf (fun c11 hf => ?_) (fun c11 hf => ?_)
        · exact ih6 _ hf
        · refine r_bipush (v := -4) dX8_open_40 (by decide) ?_
          exact e_iH dX8_open_42 rfl hf
    · refine r_iconst (v := -1) dX8_open_17 (by decide) ?_
      exact e_iH dX8_open_18 rfl hf
def f_X8_takeLook (F : Nat) (x1_ : Int32) (h : Hp) : Option Hp :=
  fix (σ := Int32 × Hp) (ρ := Hp) (fun self2 s1 =>
    (if (4 : Int32) ≤ s1.1 then (
      (stI s1.2 83 (gI s1.2 66 32) x1_).bind fun h4 =>
      nm (sI h4 66 32 ((gI h4 66 32) + (1 : Int32))) fun h5 =>
      fix (σ := Int32 × Hp) (ρ := Hp) (fun self7 s6 =>
        (if (gI s6.2 66 10) ≤ s6.1 then (
          some s6.2)
        else (
          (ldI s6.2 82 s6.1).bind fun v9 =>
          (stI s6.2 75 s6.1 v9).bind fun h10 =>
          self7 ((s6.1 + 1), h10)))) F ((0 : Int32), h5))
    else (
      (ldI s1.2 75 s1.1).bind fun v12 =>
      (stI s1.2 84 (((4 : Int32) * (gI s1.2 66 32)) + s1.1) v12).bind fun h13 =>
      self2 ((s1.1 + 1), h13)))) F ((0 : Int32), h)
set_option maxRecDepth 100000 in
set_option maxHeartbeats 4000000 in
theorem S_X8_takeLook (F : Nat) (x1_ : Int32) (h : Hp) (r : Hp) (hf : f_X8_takeLook F x1_ h = some r) : MetP Y_X8_takeLook 1 [.ref 66, .int x1_] h (none, r) := by
  unfold f_X8_takeLook at hf
  refine met_of yo_X8_takeLook (Nat.le_of_ble_eq_true rfl) ?_
  show Run Y_X8_takeLook _ 0 [some (.ref 66), some (.int x1_), none] [] h
  refine r_iconst (v := 0) dX8_takeLook_0 (by decide) ?_
  refine r_istore_nA dX8_takeLook_1 (by decide) ?_
  refine r_fix (σ := Int32 × Hp) (fun s1 => [some (.ref 66), some (.int x1_), some (.int s1.1)]) (fun s1 => s1.2) (fun self2 ih3 s1 hf => ?_) F ((0 : Int32), h) hf
  refine r_iload_n dX8_takeLook_2 rfl ?_
  refine r_iconst (v := 4) dX8_takeLook_3 (by decide) ?_
  refine r_icmp_ge 32 dX8_takeLook_4 (by decide) hf (fun c14 hf => ?_) (fun c14 hf => ?_)
  · refine r_aload_n dX8_takeLook_32 rfl ?_
    refine r_getS (b := 83) dX8_takeLook_33 sh_66 ft_X8_59 rfl rfl ?_
    refine r_aload_n dX8_takeLook_36 rfl ?_
    refine r_getI dX8_takeLook_37 sh_66 ft_X8_233 rfl ?_
    refine r_iload_n dX8_takeLook_40 rfl ?_
    refine r_iast dX8_takeLook_41 sh_83 hf fun h4 hf => ?_
    refine r_aload_n dX8_takeLook_42 rfl ?_
    refine r_dup dX8_takeLook_43 rfl ?_
    refine r_getI dX8_takeLook_44 sh_66 ft_X8_233 rfl ?_
    refine r_iconst (v := 1) dX8_takeLook_47 (by decide) ?_
    refine r_iadd dX8_takeLook_48 ?_
    refine r_putI dX8_takeLook_49 sh_66 ft_X8_233 rfl hf fun h5 hf => ?_
    refine r_iconst (v := 0) dX8_takeLook_52 (by decide) ?_
    refine r_istore_nA dX8_takeLook_53 (by decide) ?_
    refine r_fix (σ := Int32 × Hp) (fun s6 => [some (.ref 66), some (.int x1_), some (.int s6.1)]) (fun s6 => s6.2) (fun self7 ih8 s6 hf => ?_) F ((0 : Int32), h5) hf
    refine r_iload_n dX8_takeLook_54 rfl ?_
    refine r_aload_n dX8_takeLook_55 rfl ?_
    refine r_getI dX8_takeLook_56 sh_66 ft_X8_221 rfl ?_
    refine r_icmp_ge 80 dX8_takeLook_59 (by decide) hf (fun c11 hf => ?_) (fun c11 hf => ?_)
    · exact e_vH dX8_takeLook_80 rfl hf
    · refine r_aload_n dX8_takeLook_62 rfl ?_
      refine r_getS (b := 75) dX8_takeLook_63 sh_66 ft_X8_35 rfl rfl ?_
      refine r_iload_n dX8_takeLook_66 rfl ?_
      refine r_aload_n dX8_takeLook_67 rfl ?_
      refine r_getS (b := 82) dX8_takeLook_68 sh_66 ft_X8_56 rfl rfl ?_
      refine r_iload_n dX8_takeLook_71 rfl ?_
      refine r_iald dX8_takeLook_72 sh_82 hf fun v9 hf => ?_
      refine r_iast dX8_takeLook_73 sh_75 hf fun h10 hf => ?_
      refine r_iincA (v := 1) dX8_takeLook_74 rfl (by decide) (by decide) ?_
      refine r_goto 54 dX8_takeLook_77 (by decide) ?_
      exact ih8 _ hf
  · refine r_aload_n dX8_takeLook_7 rfl ?_
    refine r_getS (b := 84) dX8_takeLook_8 sh_66 ft_X8_62 rfl rfl ?_
    refine r_iconst (v := 4) dX8_takeLook_11 (by decide) ?_
    refine r_aload_n dX8_takeLook_12 rfl ?_
    refine r_getI dX8_takeLook_13 sh_66 ft_X8_233 rfl ?_
    refine r_imul dX8_takeLook_16 ?_
    refine r_iload_n dX8_takeLook_17 rfl ?_
    refine r_iadd dX8_takeLook_18 ?_
    refine r_aload_n dX8_takeLook_19 rfl ?_
    refine r_getS (b := 75) dX8_takeLook_20 sh_66 ft_X8_35 rfl rfl ?_
    refine r_iload_n dX8_takeLook_23 rfl ?_
    refine r_iald dX8_takeLook_24 sh_75 hf fun v12 hf => ?_
    refine r_iast dX8_takeLook_25 sh_84 hf fun h13 hf => ?_
    refine r_iincA (v := 1) dX8_takeLook_26 rfl (by decide) (by decide) ?_
    refine r_goto 2 dX8_takeLook_29 (by decide) ?_
    exact ih3 _ hf
def f_X8_step (F : Nat) (x1_ : Int32) (x2_ : Int32) (h : Hp) : Option (Int32 × Hp) :=
  (f_X8_isMan x1_ h).bind fun v1 =>
  (if v1 = 0 then (
    some ((-1 : Int32), h))
  else (
    (f_X8_in x2_ (0 : Int32) (3 : Int32) h).bind fun v2 =>
    (if v2 = 0 then (
      some ((-1 : Int32), h))
    else (
      (f_X8_lookAtNow F h).bind fun h3 =>
      (f_X8_steps F x1_ x2_ h3).bind fun v4 =>
      (if v4.1 = 0 then (
        some ((-4 : Int32), v4.2))
      else (
        (if (gI v4.2 66 32) = (60 : Int32) then (
          some ((-2 : Int32), v4.2))
        else (
          (f_X8_takeLook F (((10 : Int32) * x1_) + x2_) v4.2).bind fun h5 =>
          (ldI h5 75 x1_).bind fun v6 =>
          some (v6, h5)))))))))
set_option maxRecDepth 100000 in
set_option maxHeartbeats 4000000 in
theorem S_X8_step (F : Nat) (x1_ : Int32) (x2_ : Int32) (h : Hp) (r : (Int32 × Hp)) (hf : f_X8_step F x1_ x2_ h = some r) : MetP Y_X8_step 7 [.ref 66, .int x1_, .int x2_] h (some (.int r.1), r.2) := by
  unfold f_X8_step at hf
  refine met_of yo_X8_step (Nat.le_of_ble_eq_true rfl) ?_
  show Run Y_X8_step _ 0 [some (.ref 66), some (.int x1_), some (.int x2_)] [] h
  refine r_aload_n dX8_step_0 rfl ?_
  refine r_iload_n dX8_step_1 rfl ?_
  obtain ⟨v1, hv, hf⟩ := bnd hf
  refine r_callV (lv := 2) dX8_step_2 yo_X8_isMan yi_X8_isMan ml_X8_287 ya_X8_isMan sh_66 ⟨_, rfl, rfl⟩ (Fits.vm (by decide)) rfl rfl (Nat.le_of_ble_eq_true rfl) (S_X8_isMan x1_ h  _ hv) ?_
  refine r_if_eq 17 dX8_step_5 (by decide) hf (fun c10 hf => ?_) (fun c10 hf => ?_)
  · refine r_iconst (v := -1) dX8_step_17 (by decide) ?_
    exact e_iH dX8_step_18 rfl hf
  · refine r_iload_n dX8_step_8 rfl ?_
    refine r_iconst (v := 0) dX8_step_9 (by decide) ?_
    refine r_iconst (v := 3) dX8_step_10 (by decide) ?_
    obtain ⟨v2, hv, hf⟩ := bnd hf
    refine r_callS (lv := 1) dX8_step_11 yo_X8_in ys_X8_in ml_X8_133 ya_X8_in (Fits.vm (by decide)) rfl rfl (Nat.le_of_ble_eq_true rfl) (S_X8_in x2_ (0 : Int32) (3 : Int32) h  _ hv) ?_
    refine r_if_ne 19 dX8_step_14 (by decide) hf (fun c9 hf => ?_) (fun c9 hf => ?_)
    · refine r_aload_n dX8_step_19 rfl ?_
      obtain ⟨h3, hv, hf⟩ := bnd hf
      refine r_callV (lv := 1) dX8_step_20 yo_X8_lookAtNow yi_X8_lookAtNow ml_X8_293 ya_X8_lookAtNow sh_66 ⟨_, rfl, rfl⟩ (Fits.vm (by decide)) rfl rfl (Nat.le_of_ble_eq_true rfl) (S_X8_lookAtNow F h  _ hv) ?_
      refine r_aload_n dX8_step_23 rfl ?_
      refine r_iload_n dX8_step_24 rfl ?_
      refine r_iload_n dX8_step_25 rfl ?_
      obtain ⟨v4, hv, hf⟩ := bnd hf
      refine r_callV (lv := 6) dX8_step_26 yo_X8_steps yi_X8_steps ml_X8_317 ya_X8_steps sh_66 ⟨_, rfl, rfl⟩ (Fits.vm (by decide)) rfl rfl (Nat.le_of_ble_eq_true rfl) (S_X8_steps F x1_ x2_ h3  _ hv) ?_
      refine r_if_ne 35 dX8_step_29 (by decide) hf (fun c8 hf => ?_) (fun c8 hf => ?_)
      · refine r_aload_n dX8_step_35 rfl ?_
        refine r_getI dX8_step_36 sh_66 ft_X8_233 rfl ?_
        refine r_bipush (v := 60) dX8_step_39 (by decide) ?_
        refine r_icmp_ne 47 dX8_step_41 (by decide) hf (fun c7 hf => ?_) (fun c7 hf => ?_)
        · refine r_aload_n dX8_step_47 rfl ?_
          refine r_bipush (v := 10) dX8_step_48 (by decide) ?_
          refine r_iload_n dX8_step_50 rfl ?_
          refine r_imul dX8_step_51 ?_
          refine r_iload_n dX8_step_52 rfl ?_
          refine r_iadd dX8_step_53 ?_
          obtain ⟨h5, hv, hf⟩ := bnd hf
          refine r_callV (lv := 1) dX8_step_54 yo_X8_takeLook yi_X8_takeLook ml_X8_320 ya_X8_takeLook sh_66 ⟨_, rfl, rfl⟩ (Fits.vm (by decide)) rfl rfl (Nat.le_of_ble_eq_true rfl) (S_X8_takeLook F (((10 : Int32) * x1_) + x2_) v4.2  _ hv) ?_
          refine r_aload_n dX8_step_57 rfl ?_
          refine r_getS (b := 75) dX8_step_58 sh_66 ft_X8_35 rfl rfl ?_
          refine r_iload_n dX8_step_61 rfl ?_
          refine r_iald dX8_step_62 sh_75 hf fun v6 hf => ?_
          exact e_iH dX8_step_63 rfl hf
        · refine r_bipush (v := -2) dX8_step_44 (by decide) ?_
          exact e_iH dX8_step_46 rfl hf
      · refine r_bipush (v := -4) dX8_step_32 (by decide) ?_
        exact e_iH dX8_step_34 rfl hf
    · refine r_iconst (v := -1) dX8_step_17 (by decide) ?_
      exact e_iH dX8_step_18 rfl hf
def f_X8_can (F : Nat) (x1_ : Int32) (h : Hp) : Option (Int32 × Hp) :=
  (f_X8_isMan x1_ h).bind fun v1 =>
  (Option.bind (α := Int32 × Hp) (
    (if v1 = 0 then (
      some ((-1 : Int32), h))
    else (
      (f_X8_waysOf F x1_ h).bind fun v4 =>
      some (v4.1, v4.2)))) fun t2 =>
  some (t2.1, t2.2))
set_option maxRecDepth 100000 in
set_option maxHeartbeats 4000000 in
theorem S_X8_can (F : Nat) (x1_ : Int32) (h : Hp) (r : (Int32 × Hp)) (hf : f_X8_can F x1_ h = some r) : MetP Y_X8_can 8 [.ref 66, .int x1_] h (some (.int r.1), r.2) := by
  unfold f_X8_can at hf
  refine met_of yo_X8_can (Nat.le_of_ble_eq_true rfl) ?_
  show Run Y_X8_can _ 0 [some (.ref 66), some (.int x1_)] [] h
  refine r_aload_n dX8_can_0 rfl ?_
  refine r_iload_n dX8_can_1 rfl ?_
  obtain ⟨v1, hv, hf⟩ := bnd hf
  refine r_callV (lv := 2) dX8_can_2 yo_X8_isMan yi_X8_isMan ml_X8_287 ya_X8_isMan sh_66 ⟨_, rfl, rfl⟩ (Fits.vm (by decide)) rfl rfl (Nat.le_of_ble_eq_true rfl) (S_X8_isMan x1_ h  _ hv) ?_
  refine r_reg (P := fun t2 => Run Y_X8_can (VM 8 (some (.int r.1), r.2)) 17 [some (.ref 66), some (.int x1_)] [.int t2.1] t2.2) hf (fun t2 hf => ?_) (fun t2 key3 hf => ?_)
  · exact e_iH dX8_can_17 rfl hf
  · refine r_if_eq 16 dX8_can_5 (by decide) hf (fun c5 hf => ?_) (fun c5 hf => ?_)
    · refine r_iconst (v := -1) dX8_can_16 (by decide) ?_
      cases hf; exact key3
    · refine r_aload_n dX8_can_8 rfl ?_
      refine r_iload_n dX8_can_9 rfl ?_
      obtain ⟨v4, hv, hf⟩ := bnd hf
      refine r_callV (lv := 7) dX8_can_10 yo_X8_waysOf yi_X8_waysOf ml_X8_305 ya_X8_waysOf sh_66 ⟨_, rfl, rfl⟩ (Fits.vm (by decide)) rfl rfl (Nat.le_of_ble_eq_true rfl) (S_X8_waysOf F x1_ h  _ hv) ?_
      refine r_goto 17 dX8_can_13 (by decide) ?_
      cases hf; exact key3
def f_X8_undo (F : Nat) (x1_ : Int32) (h : Hp) : Option (Int32 × Hp) :=
  (f_X8_in x1_ (0 : Int32) (gI h 66 32) h).bind fun v1 =>
  (if v1 = 0 then (
    some ((-1 : Int32), h))
  else (
    fix (σ := Int32 × Hp) (ρ := (Int32 × Hp)) (fun self3 s2 =>
      (if (4 : Int32) ≤ s2.1 then (
        nm (sI s2.2 66 32 x1_) fun h5 =>
        some (((gI h 66 32) - x1_), h5))
      else (
        (if ((gI h 66 32) - x1_) ≤ 0 then (
          nm (sI s2.2 66 32 x1_) fun h6 =>
          some (((gI h 66 32) - x1_), h6))
        else (
          (ldI s2.2 84 (((4 : Int32) * x1_) + s2.1)).bind fun v7 =>
          (stI s2.2 75 s2.1 v7).bind fun h8 =>
          self3 ((s2.1 + 1), h8)))))) F ((0 : Int32), h)))
set_option maxRecDepth 100000 in
set_option maxHeartbeats 4000000 in
theorem S_X8_undo (F : Nat) (x1_ : Int32) (h : Hp) (r : (Int32 × Hp)) (hf : f_X8_undo F x1_ h = some r) : MetP Y_X8_undo 2 [.ref 66, .int x1_] h (some (.int r.1), r.2) := by
  unfold f_X8_undo at hf
  refine met_of yo_X8_undo (Nat.le_of_ble_eq_true rfl) ?_
  show Run Y_X8_undo _ 0 [some (.ref 66), some (.int x1_), none, none] [] h
  refine r_iload_n dX8_undo_0 rfl ?_
  refine r_iconst (v := 0) dX8_undo_1 (by decide) ?_
  refine r_aload_n dX8_undo_2 rfl ?_
  refine r_getI dX8_undo_3 sh_66 ft_X8_233 rfl ?_
  obtain ⟨v1, hv, hf⟩ := bnd hf
  refine r_callS (lv := 1) dX8_undo_6 yo_X8_in ys_X8_in ml_X8_133 ya_X8_in (Fits.vm (by decide)) rfl rfl (Nat.le_of_ble_eq_true rfl) (S_X8_in x1_ (0 : Int32) (gI h 66 32) h  _ hv) ?_
  refine r_if_ne 14 dX8_undo_9 (by decide) hf (fun c11 hf => ?_) (fun c11 hf => ?_)
  · refine r_aload_n dX8_undo_14 rfl ?_
    refine r_getI dX8_undo_15 sh_66 ft_X8_233 rfl ?_
    refine r_iload_n dX8_undo_18 rfl ?_
    refine r_isub dX8_undo_19 ?_
    refine r_istore_nA dX8_undo_20 (by decide) ?_
    refine r_iconst (v := 0) dX8_undo_21 (by decide) ?_
    refine r_istore_nA dX8_undo_22 (by decide) ?_
    refine r_fix (σ := Int32 × Hp) (fun s2 => [some (.ref 66), some (.int x1_), some (.int ((gI h 66 32) - x1_)), some (.int s2.1)]) (fun s2 => s2.2) (fun self3 ih4 s2 hf => ?_) F ((0 : Int32), h) hf
    refine r_iload_n dX8_undo_23 rfl ?_
    refine r_iconst (v := 4) dX8_undo_24 (by decide) ?_
    refine r_icmp_ge 54 dX8_undo_25 (by decide) hf (fun c10 hf => ?_) (fun c10 hf => ?_)
    · refine r_aload_n dX8_undo_54 rfl ?_
      refine r_iload_n dX8_undo_55 rfl ?_
      refine r_putI dX8_undo_56 sh_66 ft_X8_233 rfl hf fun h5 hf => ?_
      refine r_iload_n dX8_undo_59 rfl ?_
      exact e_iH dX8_undo_60 rfl hf
    · refine r_iload_n dX8_undo_28 rfl ?_
      refine r_if_le 54 dX8_undo_29 (by decide) hf (fun c9 hf => ?_) (fun c9 hf => ?_)
      · refine r_aload_n dX8_undo_54 rfl ?_
        refine r_iload_n dX8_undo_55 rfl ?_
        refine r_putI dX8_undo_56 sh_66 ft_X8_233 rfl hf fun h6 hf => ?_
        refine r_iload_n dX8_undo_59 rfl ?_
        exact e_iH dX8_undo_60 rfl hf
      · refine r_aload_n dX8_undo_32 rfl ?_
        refine r_getS (b := 75) dX8_undo_33 sh_66 ft_X8_35 rfl rfl ?_
        refine r_iload_n dX8_undo_36 rfl ?_
        refine r_aload_n dX8_undo_37 rfl ?_
        refine r_getS (b := 84) dX8_undo_38 sh_66 ft_X8_62 rfl rfl ?_
        refine r_iconst (v := 4) dX8_undo_41 (by decide) ?_
        refine r_iload_n dX8_undo_42 rfl ?_
        refine r_imul dX8_undo_43 ?_
        refine r_iload_n dX8_undo_44 rfl ?_
        refine r_iadd dX8_undo_45 ?_
        refine r_iald dX8_undo_46 sh_84 hf fun v7 hf => ?_
        refine r_iast dX8_undo_47 sh_75 hf fun h8 hf => ?_
        refine r_iincA (v := 1) dX8_undo_48 rfl (by decide) (by decide) ?_
        refine r_goto 23 dX8_undo_51 (by decide) ?_
        exact ih4 _ hf
  · refine r_iconst (v := -1) dX8_undo_12 (by decide) ?_
    exact e_iH dX8_undo_13 rfl hf
def f_X8_who (F : Nat) (x1_ : Int32) (h : Hp) : Option (Int32 × Hp) :=
  (f_X8_isCell x1_ h).bind fun v1 =>
  (if v1 = 0 then (
    some ((-1 : Int32), h))
  else (
    (f_X8_lookAtNow F h).bind fun h2 =>
    (f_X8_whoOn F x1_ h2).bind fun v3 =>
    some (v3, h2)))
set_option maxRecDepth 100000 in
set_option maxHeartbeats 4000000 in
theorem S_X8_who (F : Nat) (x1_ : Int32) (h : Hp) (r : (Int32 × Hp)) (hf : f_X8_who F x1_ h = some r) : MetP Y_X8_who 3 [.ref 66, .int x1_] h (some (.int r.1), r.2) := by
  unfold f_X8_who at hf
  refine met_of yo_X8_who (Nat.le_of_ble_eq_true rfl) ?_
  show Run Y_X8_who _ 0 [some (.ref 66), some (.int x1_)] [] h
  refine r_aload_n dX8_who_0 rfl ?_
  refine r_iload_n dX8_who_1 rfl ?_
  obtain ⟨v1, hv, hf⟩ := bnd hf
  refine r_callV (lv := 2) dX8_who_2 yo_X8_isCell yi_X8_isCell ml_X8_323 ya_X8_isCell sh_66 ⟨_, rfl, rfl⟩ (Fits.vm (by decide)) rfl rfl (Nat.le_of_ble_eq_true rfl) (S_X8_isCell x1_ h  _ hv) ?_
  refine r_if_ne 10 dX8_who_5 (by decide) hf (fun c4 hf => ?_) (fun c4 hf => ?_)
  · refine r_aload_n dX8_who_10 rfl ?_
    obtain ⟨h2, hv, hf⟩ := bnd hf
    refine r_callV (lv := 1) dX8_who_11 yo_X8_lookAtNow yi_X8_lookAtNow ml_X8_293 ya_X8_lookAtNow sh_66 ⟨_, rfl, rfl⟩ (Fits.vm (by decide)) rfl rfl (Nat.le_of_ble_eq_true rfl) (S_X8_lookAtNow F h  _ hv) ?_
    refine r_aload_n dX8_who_14 rfl ?_
    refine r_iload_n dX8_who_15 rfl ?_
    obtain ⟨v3, hv, hf⟩ := bnd hf
    refine r_callV (lv := 1) dX8_who_16 yo_X8_whoOn yi_X8_whoOn ml_X8_268 ya_X8_whoOn sh_66 ⟨_, rfl, rfl⟩ (Fits.vm (by decide)) rfl rfl (Nat.le_of_ble_eq_true rfl) (S_X8_whoOn F x1_ h2  _ hv) ?_
    exact e_iH dX8_who_19 rfl hf
  · refine r_iconst (v := -1) dX8_who_8 (by decide) ?_
    exact e_iH dX8_who_9 rfl hf
def f_X8_keep (F : Nat) (x1_ : Int32) (h : Hp) : Option (Int32 × Hp) :=
  (f_X8_in x1_ (0 : Int32) (2 : Int32) h).bind fun v1 =>
  (if v1 = 0 then (
    some ((-1 : Int32), h))
  else (
    (if (gI h 66 10) = 0 then (
      some ((-4 : Int32), h))
    else (
      (stI h 85 x1_ (vp_nar .boolean (1 : Int32))).bind fun h2 =>
      (stI h2 86 x1_ (gI h2 66 32)).bind fun h3 =>
      (stI h3 87 x1_ (gI h3 66 13)).bind fun h4 =>
      fix (σ := Int32 × Hp) (ρ := (Int32 × Hp)) (fun self6 s5 =>
        (if (4 : Int32) ≤ s5.1 then (
          fix (σ := Int32 × Hp) (ρ := (Int32 × Hp)) (fun self9 s8 =>
            (if (gI s8.2 66 32) ≤ s8.1 then (
              fix (σ := Int32 × Hp) (ρ := (Int32 × Hp)) (fun self12 s11 =>
                (if ((4 : Int32) * (gI s11.2 66 32)) ≤ s11.1 then (
                  some ((gI s11.2 66 32), s11.2))
                else (
                  (ldI s11.2 84 s11.1).bind fun v14 =>
                  (stI s11.2 91 (((240 : Int32) * x1_) + s11.1) v14).bind fun h15 =>
                  self12 ((s11.1 + 1), h15)))) F ((0 : Int32), s8.2))
            else (
              (ldI s8.2 83 s8.1).bind fun v17 =>
              (stI s8.2 90 (((60 : Int32) * x1_) + s8.1) v17).bind fun h18 =>
              self9 ((s8.1 + 1), h18)))) F ((0 : Int32), s5.2))
        else (
          (ldI s5.2 75 s5.1).bind fun v20 =>
          (stI s5.2 88 (((4 : Int32) * x1_) + s5.1) v20).bind fun h21 =>
          (ldI h21 77 s5.1).bind fun v22 =>
          (stI h21 89 (((4 : Int32) * x1_) + s5.1) v22).bind fun h23 =>
          self6 ((s5.1 + 1), h23)))) F ((0 : Int32), h4)))))
set_option maxRecDepth 100000 in
set_option maxHeartbeats 4000000 in
theorem S_X8_keep (F : Nat) (x1_ : Int32) (h : Hp) (r : (Int32 × Hp)) (hf : f_X8_keep F x1_ h = some r) : MetP Y_X8_keep 2 [.ref 66, .int x1_] h (some (.int r.1), r.2) := by
  unfold f_X8_keep at hf
  refine met_of yo_X8_keep (Nat.le_of_ble_eq_true rfl) ?_
  show Run Y_X8_keep _ 0 [some (.ref 66), some (.int x1_), none] [] h
  refine r_iload_n dX8_keep_0 rfl ?_
  refine r_iconst (v := 0) dX8_keep_1 (by decide) ?_
  refine r_iconst (v := 2) dX8_keep_2 (by decide) ?_
  obtain ⟨v1, hv, hf⟩ := bnd hf
  refine r_callS (lv := 1) dX8_keep_3 yo_X8_in ys_X8_in ml_X8_133 ya_X8_in (Fits.vm (by decide)) rfl rfl (Nat.le_of_ble_eq_true rfl) (S_X8_in x1_ (0 : Int32) (2 : Int32) h  _ hv) ?_
  refine r_if_ne 11 dX8_keep_6 (by decide) hf (fun c26 hf => ?_) (fun c26 hf => ?_)
  · refine r_aload_n dX8_keep_11 rfl ?_
    refine r_getI dX8_keep_12 sh_66 ft_X8_221 rfl ?_
    refine r_if_ne 21 dX8_keep_15 (by decide) hf (fun c25 hf => ?_) (fun c25 hf => ?_)
    · refine r_aload_n dX8_keep_21 rfl ?_
      refine r_getS (b := 85) dX8_keep_22 sh_66 ft_X8_65 rfl rfl ?_
      refine r_iload_n dX8_keep_25 rfl ?_
      refine r_iconst (v := 1) dX8_keep_26 (by decide) ?_
      refine r_zast dX8_keep_27 sh_85 hf fun h2 hf => ?_
      refine r_aload_n dX8_keep_28 rfl ?_
      refine r_getS (b := 86) dX8_keep_29 sh_66 ft_X8_69 rfl rfl ?_
      refine r_iload_n dX8_keep_32 rfl ?_
      refine r_aload_n dX8_keep_33 rfl ?_
      refine r_getI dX8_keep_34 sh_66 ft_X8_233 rfl ?_
      refine r_iast dX8_keep_37 sh_86 hf fun h3 hf => ?_
      refine r_aload_n dX8_keep_38 rfl ?_
      refine r_getS (b := 87) dX8_keep_39 sh_66 ft_X8_72 rfl rfl ?_
      refine r_iload_n dX8_keep_42 rfl ?_
      refine r_aload_n dX8_keep_43 rfl ?_
      refine r_getI dX8_keep_44 sh_66 ft_X8_230 rfl ?_
      refine r_iast dX8_keep_47 sh_87 hf fun h4 hf => ?_
      refine r_iconst (v := 0) dX8_keep_48 (by decide) ?_
      refine r_istore_nA dX8_keep_49 (by decide) ?_
      refine r_fix (σ := Int32 × Hp) (fun s5 => [some (.ref 66), some (.int x1_), some (.int s5.1)]) (fun s5 => s5.2) (fun self6 ih7 s5 hf => ?_) F ((0 : Int32), h4) hf
      refine r_iload_n dX8_keep_50 rfl ?_
      refine r_iconst (v := 4) dX8_keep_51 (by decide) ?_
      refine r_icmp_ge 93 dX8_keep_52 (by decide) hf (fun c24 hf => ?_) (fun c24 hf => ?_)
      · refine r_iconst (v := 0) dX8_keep_93 (by decide) ?_
        refine r_istore_nA dX8_keep_94 (by decide) ?_
        refine r_fix (σ := Int32 × Hp) (fun s8 => [some (.ref 66), some (.int x1_), some (.int s8.1)]) (fun s8 => s8.2) (fun self9 ih10 s8 hf => ?_) F ((0 : Int32), s5.2) hf
        refine r_iload_n dX8_keep_95 rfl ?_
        refine r_aload_n dX8_keep_96 rfl ?_
        refine r_getI dX8_keep_97 sh_66 ft_X8_233 rfl ?_
        refine r_icmp_ge 126 dX8_keep_100 (by decide) hf (fun c19 hf => ?_) (fun c19 hf => ?_)
        · refine r_iconst (v := 0) dX8_keep_126 (by decide) ?_
          refine r_istore_nA dX8_keep_127 (by decide) ?_
          refine r_fix (σ := Int32 × Hp) (fun s11 => [some (.ref 66), some (.int x1_), some (.int s11.1)]) (fun s11 => s11.2) (fun self12 ih13 s11 hf => ?_) F ((0 : Int32), s8.2) hf
          refine r_iload_n dX8_keep_128 rfl ?_
          refine r_iconst (v := 4) dX8_keep_129 (by decide) ?_
          refine r_aload_n dX8_keep_130 rfl ?_
          refine r_getI dX8_keep_131 sh_66 ft_X8_233 rfl ?_
          refine r_imul dX8_keep_134 ?_
          refine r_icmp_ge 162 dX8_keep_135 (by decide) hf (fun c16 hf => ?_) (fun c16 hf => ?_)
          · refine r_aload_n dX8_keep_162 rfl ?_
            refine r_getI dX8_keep_163 sh_66 ft_X8_233 rfl ?_
            exact e_iH dX8_keep_166 rfl hf
          · refine r_aload_n dX8_keep_138 rfl ?_
            refine r_getS (b := 91) dX8_keep_139 sh_66 ft_X8_84 rfl rfl ?_
            refine r_sipush (v := 240) dX8_keep_142 (by decide) ?_
            refine r_iload_n dX8_keep_145 rfl ?_
            refine r_imul dX8_keep_146 ?_
            refine r_iload_n dX8_keep_147 rfl ?_
            refine r_iadd dX8_keep_148 ?_
            refine r_aload_n dX8_keep_149 rfl ?_
            refine r_getS (b := 84) dX8_keep_150 sh_66 ft_X8_62 rfl rfl ?_
            refine r_iload_n dX8_keep_153 rfl ?_
            refine r_iald dX8_keep_154 sh_84 hf fun v14 hf => ?_
            refine r_iast dX8_keep_155 sh_91 hf fun h15 hf => ?_
            refine r_iincA (v := 1) dX8_keep_156 rfl (by decide) (by decide) ?_
            refine r_goto 128 dX8_keep_159 (by decide) ?_
            exact ih13 _ hf
        · refine r_aload_n dX8_keep_103 rfl ?_
          refine r_getS (b := 90) dX8_keep_104 sh_66 ft_X8_81 rfl rfl ?_
          refine r_bipush (v := 60) dX8_keep_107 (by decide) ?_
          refine r_iload_n dX8_keep_109 rfl ?_
          refine r_imul dX8_keep_110 ?_
          refine r_iload_n dX8_keep_111 rfl ?_
          refine r_iadd dX8_keep_112 ?_
          refine r_aload_n dX8_keep_113 rfl ?_
          refine r_getS (b := 83) dX8_keep_114 sh_66 ft_X8_59 rfl rfl ?_
          refine r_iload_n dX8_keep_117 rfl ?_
          refine r_iald dX8_keep_118 sh_83 hf fun v17 hf => ?_
          refine r_iast dX8_keep_119 sh_90 hf fun h18 hf => ?_
          refine r_iincA (v := 1) dX8_keep_120 rfl (by decide) (by decide) ?_
          refine r_goto 95 dX8_keep_123 (by decide) ?_
          exact ih10 _ hf
      · refine r_aload_n dX8_keep_55 rfl ?_
        refine r_getS (b := 88) dX8_keep_56 sh_66 ft_X8_75 rfl rfl ?_
        refine r_iconst (v := 4) dX8_keep_59 (by decide) ?_
        refine r_iload_n dX8_keep_60 rfl ?_
        refine r_imul dX8_keep_61 ?_
        refine r_iload_n dX8_keep_62 rfl ?_
        refine r_iadd dX8_keep_63 ?_
        refine r_aload_n dX8_keep_64 rfl ?_
        refine r_getS (b := 75) dX8_keep_65 sh_66 ft_X8_35 rfl rfl ?_
        refine r_iload_n dX8_keep_68 rfl ?_
        refine r_iald dX8_keep_69 sh_75 hf fun v20 hf => ?_
        refine r_iast dX8_keep_70 sh_88 hf fun h21 hf => ?_
        refine r_aload_n dX8_keep_71 rfl ?_
        refine r_getS (b := 89) dX8_keep_72 sh_66 ft_X8_78 rfl rfl ?_
        refine r_iconst (v := 4) dX8_keep_75 (by decide) ?_
        refine r_iload_n dX8_keep_76 rfl ?_
        refine r_imul dX8_keep_77 ?_
        refine r_iload_n dX8_keep_78 rfl ?_
        refine r_iadd dX8_keep_79 ?_
        refine r_aload_n dX8_keep_80 rfl ?_
        refine r_getS (b := 77) dX8_keep_81 sh_66 ft_X8_41 rfl rfl ?_
        refine r_iload_n dX8_keep_84 rfl ?_
        refine r_iald dX8_keep_85 sh_77 hf fun v22 hf => ?_
        refine r_iast dX8_keep_86 sh_89 hf fun h23 hf => ?_
        refine r_iincA (v := 1) dX8_keep_87 rfl (by decide) (by decide) ?_
        refine r_goto 50 dX8_keep_90 (by decide) ?_
        exact ih7 _ hf
    · refine r_bipush (v := -4) dX8_keep_18 (by decide) ?_
      exact e_iH dX8_keep_20 rfl hf
  · refine r_iconst (v := -1) dX8_keep_9 (by decide) ?_
    exact e_iH dX8_keep_10 rfl hf
def f_X8_on (F : Nat) (x1_ : Int32) (h : Hp) : Option (Int32 × Hp) :=
  (f_X8_in x1_ (0 : Int32) (2 : Int32) h).bind fun v1 =>
  (if v1 = 0 then (
    some ((-1 : Int32), h))
  else (
    (ldI h 85 x1_).bind fun v2 =>
    (if v2 = 0 then (
      (f_X8_meets (1 : Int32) h).bind fun v27 =>
      some (v27.1, v27.2))
    else (
      (ldI h 86 x1_).bind fun v3 =>
      nm (sI h 66 32 v3) fun h4 =>
      (ldI h4 87 x1_).bind fun v5 =>
      nm (sI h4 66 13 v5) fun h6 =>
      fix (σ := Int32 × Hp) (ρ := (Int32 × Hp)) (fun self8 s7 =>
        (if (4 : Int32) ≤ s7.1 then (
          fix (σ := Int32 × Hp) (ρ := (Int32 × Hp)) (fun self11 s10 =>
            (if (gI s10.2 66 32) ≤ s10.1 then (
              fix (σ := Int32 × Hp) (ρ := (Int32 × Hp)) (fun self14 s13 =>
                (if ((4 : Int32) * (gI s13.2 66 32)) ≤ s13.1 then (
                  some ((gI s13.2 66 32), s13.2))
                else (
                  (ldI s13.2 91 (((240 : Int32) * x1_) + s13.1)).bind fun v16 =>
                  (stI s13.2 84 s13.1 v16).bind fun h17 =>
                  self14 ((s13.1 + 1), h17)))) F ((0 : Int32), s10.2))
            else (
              (ldI s10.2 90 (((60 : Int32) * x1_) + s10.1)).bind fun v19 =>
              (stI s10.2 83 s10.1 v19).bind fun h20 =>
              self11 ((s10.1 + 1), h20)))) F ((0 : Int32), s7.2))
        else (
          (ldI s7.2 88 (((4 : Int32) * x1_) + s7.1)).bind fun v22 =>
          (stI s7.2 75 s7.1 v22).bind fun h23 =>
          (ldI h23 89 (((4 : Int32) * x1_) + s7.1)).bind fun v24 =>
          (stI h23 77 s7.1 v24).bind fun h25 =>
          self8 ((s7.1 + 1), h25)))) F ((0 : Int32), h6)))))
set_option maxRecDepth 100000 in
set_option maxHeartbeats 4000000 in
theorem S_X8_on (F : Nat) (x1_ : Int32) (h : Hp) (r : (Int32 × Hp)) (hf : f_X8_on F x1_ h = some r) : MetP Y_X8_on 2 [.ref 66, .int x1_] h (some (.int r.1), r.2) := by
  unfold f_X8_on at hf
  refine met_of yo_X8_on (Nat.le_of_ble_eq_true rfl) ?_
  show Run Y_X8_on _ 0 [some (.ref 66), some (.int x1_), none] [] h
  refine r_iload_n dX8_on_0 rfl ?_
  refine r_iconst (v := 0) dX8_on_1 (by decide) ?_
  refine r_iconst (v := 2) dX8_on_2 (by decide) ?_
  obtain ⟨v1, hv, hf⟩ := bnd hf
  refine r_callS (lv := 1) dX8_on_3 yo_X8_in ys_X8_in ml_X8_133 ya_X8_in (Fits.vm (by decide)) rfl rfl (Nat.le_of_ble_eq_true rfl) (S_X8_in x1_ (0 : Int32) (2 : Int32) h  _ hv) ?_
  refine r_if_ne 11 dX8_on_6 (by decide) hf (fun c29 hf => ?_) (fun c29 hf => ?_)
  · refine r_aload_n dX8_on_11 rfl ?_
    refine r_getS (b := 85) dX8_on_12 sh_66 ft_X8_65 rfl rfl ?_
    refine r_iload_n dX8_on_15 rfl ?_
    refine r_zald dX8_on_16 sh_85 hf fun v2 hf => ?_
    refine r_if_ne 26 dX8_on_17 (by decide) hf (fun c28 hf => ?_) (fun c28 hf => ?_)
    · refine r_aload_n dX8_on_26 rfl ?_
      refine r_aload_n dX8_on_27 rfl ?_
      refine r_getS (b := 86) dX8_on_28 sh_66 ft_X8_69 rfl rfl ?_
      refine r_iload_n dX8_on_31 rfl ?_
      refine r_iald dX8_on_32 sh_86 hf fun v3 hf => ?_
      refine r_putI dX8_on_33 sh_66 ft_X8_233 rfl hf fun h4 hf => ?_
      refine r_aload_n dX8_on_36 rfl ?_
      refine r_aload_n dX8_on_37 rfl ?_
      refine r_getS (b := 87) dX8_on_38 sh_66 ft_X8_72 rfl rfl ?_
      refine r_iload_n dX8_on_41 rfl ?_
      refine r_iald dX8_on_42 sh_87 hf fun v5 hf => ?_
      refine r_putI dX8_on_43 sh_66 ft_X8_230 rfl hf fun h6 hf => ?_
      refine r_iconst (v := 0) dX8_on_46 (by decide) ?_
      refine r_istore_nA dX8_on_47 (by decide) ?_
      refine r_fix (σ := Int32 × Hp) (fun s7 => [some (.ref 66), some (.int x1_), some (.int s7.1)]) (fun s7 => s7.2) (fun self8 ih9 s7 hf => ?_) F ((0 : Int32), h6) hf
      refine r_iload_n dX8_on_48 rfl ?_
      refine r_iconst (v := 4) dX8_on_49 (by decide) ?_
      refine r_icmp_ge 91 dX8_on_50 (by decide) hf (fun c26 hf => ?_) (fun c26 hf => ?_)
      · refine r_iconst (v := 0) dX8_on_91 (by decide) ?_
        refine r_istore_nA dX8_on_92 (by decide) ?_
        refine r_fix (σ := Int32 × Hp) (fun s10 => [some (.ref 66), some (.int x1_), some (.int s10.1)]) (fun s10 => s10.2) (fun self11 ih12 s10 hf => ?_) F ((0 : Int32), s7.2) hf
        refine r_iload_n dX8_on_93 rfl ?_
        refine r_aload_n dX8_on_94 rfl ?_
        refine r_getI dX8_on_95 sh_66 ft_X8_233 rfl ?_
        refine r_icmp_ge 124 dX8_on_98 (by decide) hf (fun c21 hf => ?_) (fun c21 hf => ?_)
        · refine r_iconst (v := 0) dX8_on_124 (by decide) ?_
          refine r_istore_nA dX8_on_125 (by decide) ?_
          refine r_fix (σ := Int32 × Hp) (fun s13 => [some (.ref 66), some (.int x1_), some (.int s13.1)]) (fun s13 => s13.2) (fun self14 ih15 s13 hf => ?_) F ((0 : Int32), s10.2) hf
          refine r_iload_n dX8_on_126 rfl ?_
          refine r_iconst (v := 4) dX8_on_127 (by decide) ?_
          refine r_aload_n dX8_on_128 rfl ?_
          refine r_getI dX8_on_129 sh_66 ft_X8_233 rfl ?_
          refine r_imul dX8_on_132 ?_
          refine r_icmp_ge 160 dX8_on_133 (by decide) hf (fun c18 hf => ?_) (fun c18 hf => ?_)
          · refine r_aload_n dX8_on_160 rfl ?_
            refine r_getI dX8_on_161 sh_66 ft_X8_233 rfl ?_
            exact e_iH dX8_on_164 rfl hf
          · refine r_aload_n dX8_on_136 rfl ?_
            refine r_getS (b := 84) dX8_on_137 sh_66 ft_X8_62 rfl rfl ?_
            refine r_iload_n dX8_on_140 rfl ?_
            refine r_aload_n dX8_on_141 rfl ?_
            refine r_getS (b := 91) dX8_on_142 sh_66 ft_X8_84 rfl rfl ?_
            refine r_sipush (v := 240) dX8_on_145 (by decide) ?_
            refine r_iload_n dX8_on_148 rfl ?_
            refine r_imul dX8_on_149 ?_
            refine r_iload_n dX8_on_150 rfl ?_
            refine r_iadd dX8_on_151 ?_
            refine r_iald dX8_on_152 sh_91 hf fun v16 hf => ?_
            refine r_iast dX8_on_153 sh_84 hf fun h17 hf => ?_
            refine r_iincA (v := 1) dX8_on_154 rfl (by decide) (by decide) ?_
            refine r_goto 126 dX8_on_157 (by decide) ?_
            exact ih15 _ hf
        · refine r_aload_n dX8_on_101 rfl ?_
          refine r_getS (b := 83) dX8_on_102 sh_66 ft_X8_59 rfl rfl ?_
          refine r_iload_n dX8_on_105 rfl ?_
          refine r_aload_n dX8_on_106 rfl ?_
          refine r_getS (b := 90) dX8_on_107 sh_66 ft_X8_81 rfl rfl ?_
          refine r_bipush (v := 60) dX8_on_110 (by decide) ?_
          refine r_iload_n dX8_on_112 rfl ?_
          refine r_imul dX8_on_113 ?_
          refine r_iload_n dX8_on_114 rfl ?_
          refine r_iadd dX8_on_115 ?_
          refine r_iald dX8_on_116 sh_90 hf fun v19 hf => ?_
          refine r_iast dX8_on_117 sh_83 hf fun h20 hf => ?_
          refine r_iincA (v := 1) dX8_on_118 rfl (by decide) (by decide) ?_
          refine r_goto 93 dX8_on_121 (by decide) ?_
          exact ih12 _ hf
      · refine r_aload_n dX8_on_53 rfl ?_
        refine r_getS (b := 75) dX8_on_54 sh_66 ft_X8_35 rfl rfl ?_
        refine r_iload_n dX8_on_57 rfl ?_
        refine r_aload_n dX8_on_58 rfl ?_
        refine r_getS (b := 88) dX8_on_59 sh_66 ft_X8_75 rfl rfl ?_
        refine r_iconst (v := 4) dX8_on_62 (by decide) ?_
        refine r_iload_n dX8_on_63 rfl ?_
        refine r_imul dX8_on_64 ?_
        refine r_iload_n dX8_on_65 rfl ?_
        refine r_iadd dX8_on_66 ?_
        refine r_iald dX8_on_67 sh_88 hf fun v22 hf => ?_
        refine r_iast dX8_on_68 sh_75 hf fun h23 hf => ?_
        refine r_aload_n dX8_on_69 rfl ?_
        refine r_getS (b := 77) dX8_on_70 sh_66 ft_X8_41 rfl rfl ?_
        refine r_iload_n dX8_on_73 rfl ?_
        refine r_aload_n dX8_on_74 rfl ?_
        refine r_getS (b := 89) dX8_on_75 sh_66 ft_X8_78 rfl rfl ?_
        refine r_iconst (v := 4) dX8_on_78 (by decide) ?_
        refine r_iload_n dX8_on_79 rfl ?_
        refine r_imul dX8_on_80 ?_
        refine r_iload_n dX8_on_81 rfl ?_
        refine r_iadd dX8_on_82 ?_
        refine r_iald dX8_on_83 sh_89 hf fun v24 hf => ?_
        refine r_iast dX8_on_84 sh_77 hf fun h25 hf => ?_
        refine r_iincA (v := 1) dX8_on_85 rfl (by decide) (by decide) ?_
        refine r_goto 48 dX8_on_88 (by decide) ?_
        exact ih9 _ hf
    · refine r_aload_n dX8_on_20 rfl ?_
      refine r_iconst (v := 1) dX8_on_21 (by decide) ?_
      obtain ⟨v27, hv, hf⟩ := bnd hf
      refine r_callV (lv := 1) dX8_on_22 yo_X8_meets yi_X8_meets ml_X8_144 ya_X8_meets sh_66 ⟨_, rfl, rfl⟩ (Fits.vm (by decide)) rfl rfl (Nat.le_of_ble_eq_true rfl) (S_X8_meets (1 : Int32) h  _ hv) ?_
      exact e_iH dX8_on_25 rfl hf
  · refine r_iconst (v := -1) dX8_on_9 (by decide) ?_
    exact e_iH dX8_on_10 rfl hf
def f_X8_codeOf (F : Nat)  (h : Hp) : Option Int32 :=
  fix (σ := Int32 × Int32) (ρ := Int32) (fun self2 s1 =>
    (if (gI h 66 10) ≤ s1.2 then (
      some s1.1)
    else (
      (ldI h 82 s1.2).bind fun v4 =>
      nm ((((12 : Int32) * s1.1) + v4)) fun x5 =>
      self2 (x5, (s1.2 + 1))))) F ((0 : Int32), (0 : Int32))
set_option maxRecDepth 100000 in
set_option maxHeartbeats 4000000 in
theorem S_X8_codeOf (F : Nat)  (h : Hp) (r : Int32) (hf : f_X8_codeOf F h = some r) : MetP Y_X8_codeOf 1 [.ref 66] h (some (.int r), h) := by
  unfold f_X8_codeOf at hf
  refine met_of yo_X8_codeOf (Nat.le_of_ble_eq_true rfl) ?_
  show Run Y_X8_codeOf _ 0 [some (.ref 66), none, none] [] h
  refine r_iconst (v := 0) dX8_codeOf_0 (by decide) ?_
  refine r_istore_nA dX8_codeOf_1 (by decide) ?_
  refine r_iconst (v := 0) dX8_codeOf_2 (by decide) ?_
  refine r_istore_nA dX8_codeOf_3 (by decide) ?_
  refine r_fix (σ := Int32 × Int32) (fun s1 => [some (.ref 66), some (.int s1.1), some (.int s1.2)]) (fun s1 => h) (fun self2 ih3 s1 hf => ?_) F ((0 : Int32), (0 : Int32)) hf
  refine r_iload_n dX8_codeOf_4 rfl ?_
  refine r_aload_n dX8_codeOf_5 rfl ?_
  refine r_getI dX8_codeOf_6 sh_66 ft_X8_221 rfl ?_
  refine r_icmp_ge 30 dX8_codeOf_9 (by decide) hf (fun c6 hf => ?_) (fun c6 hf => ?_)
  · refine r_iload_n dX8_codeOf_30 rfl ?_
    exact e_iP dX8_codeOf_31 rfl hf
  · refine r_bipush (v := 12) dX8_codeOf_12 (by decide) ?_
    refine r_iload_n dX8_codeOf_14 rfl ?_
    refine r_imul dX8_codeOf_15 ?_
    refine r_aload_n dX8_codeOf_16 rfl ?_
    refine r_getS (b := 82) dX8_codeOf_17 sh_66 ft_X8_56 rfl rfl ?_
    refine r_iload_n dX8_codeOf_20 rfl ?_
    refine r_iald dX8_codeOf_21 sh_82 hf fun v4 hf => ?_
    refine r_iadd dX8_codeOf_22 ?_
    refine r_istore_n dX8_codeOf_23 (by decide) hf fun x5 hf => ?_
    refine r_iincA (v := 1) dX8_codeOf_24 rfl (by decide) (by decide) ?_
    refine r_goto 4 dX8_codeOf_27 (by decide) ?_
    exact ih3 _ hf
def f_X8_lookAt (F : Nat) (x1_ : Int32) (h : Hp) : Option Hp :=
  nm (((gI h 66 10) - (1 : Int32))) fun x1 =>
  fix (σ := Int32 × Int32 × Hp) (ρ := Hp) (fun self3 s2 =>
    (if s2.2.1 < 0 then (
      some s2.2.2)
    else (
      (stI s2.2.2 82 s2.2.1 (rem32 s2.1 (12 : Int32))).bind fun h5 =>
      self3 ((s2.1 / (12 : Int32)), (s2.2.1 + (-1)), h5)))) F (x1_, x1, h)
set_option maxRecDepth 100000 in
set_option maxHeartbeats 4000000 in
theorem S_X8_lookAt (F : Nat) (x1_ : Int32) (h : Hp) (r : Hp) (hf : f_X8_lookAt F x1_ h = some r) : MetP Y_X8_lookAt 1 [.ref 66, .int x1_] h (none, r) := by
  unfold f_X8_lookAt at hf
  refine met_of yo_X8_lookAt (Nat.le_of_ble_eq_true rfl) ?_
  show Run Y_X8_lookAt _ 0 [some (.ref 66), some (.int x1_), none, none] [] h
  refine r_iload_n dX8_lookAt_0 rfl ?_
  refine r_istore_nA dX8_lookAt_1 (by decide) ?_
  refine r_aload_n dX8_lookAt_2 rfl ?_
  refine r_getI dX8_lookAt_3 sh_66 ft_X8_221 rfl ?_
  refine r_iconst (v := 1) dX8_lookAt_6 (by decide) ?_
  refine r_isub dX8_lookAt_7 ?_
  refine r_istore_n dX8_lookAt_8 (by decide) hf fun x1 hf => ?_
  refine r_fix (σ := Int32 × Int32 × Hp) (fun s2 => [some (.ref 66), some (.int x1_), some (.int s2.1), some (.int s2.2.1)]) (fun s2 => s2.2.2) (fun self3 ih4 s2 hf => ?_) F (x1_, x1, h) hf
  refine r_iload_n dX8_lookAt_9 rfl ?_
  refine r_if_lt 34 dX8_lookAt_10 (by decide) hf (fun c6 hf => ?_) (fun c6 hf => ?_)
  · exact e_vH dX8_lookAt_34 rfl hf
  · refine r_aload_n dX8_lookAt_13 rfl ?_
    refine r_getS (b := 82) dX8_lookAt_14 sh_66 ft_X8_56 rfl rfl ?_
    refine r_iload_n dX8_lookAt_17 rfl ?_
    refine r_iload_n dX8_lookAt_18 rfl ?_
    refine r_bipush (v := 12) dX8_lookAt_19 (by decide) ?_
    refine r_iremK dX8_lookAt_21 (by decide) ?_
    refine r_iast dX8_lookAt_22 sh_82 hf fun h5 hf => ?_
    refine r_iload_n dX8_lookAt_23 rfl ?_
    refine r_bipush (v := 12) dX8_lookAt_24 (by decide) ?_
    refine r_idivK dX8_lookAt_26 (by decide) ?_
    refine r_istore_nA dX8_lookAt_27 (by decide) ?_
    refine r_iincA (v := -1) dX8_lookAt_28 rfl (by decide) (by decide) ?_
    refine r_goto 9 dX8_lookAt_31 (by decide) ?_
    exact ih4 _ hf
def f_X8_meetsStand (F : Nat) (x1_ : Int32) (x2_ : Int32) (h : Hp) : Option Hp :=
  (f_X8_codeOf F h).bind fun v1 =>
  (ldI h 93 v1).bind fun v2 =>
  (Option.bind (α := Hp) (
    (if v2 = (-9 : Int32) then (
      (ldI h 93 x1_).bind fun v5 =>
      (stI h 93 v1 (v5 + (1 : Int32))).bind fun h6 =>
      (stI h6 94 v1 x1_).bind fun h7 =>
      (stI h7 95 v1 x2_).bind fun h8 =>
      (stI h8 92 (gI h8 66 42) v1).bind fun h9 =>
      nm (sI h9 66 42 ((gI h9 66 42) + (1 : Int32))) fun h10 =>
      some h10)
    else (
      some h))) fun t3 =>
  some t3)
set_option maxRecDepth 100000 in
set_option maxHeartbeats 4000000 in
theorem S_X8_meetsStand (F : Nat) (x1_ : Int32) (x2_ : Int32) (h : Hp) (r : Hp) (hf : f_X8_meetsStand F x1_ x2_ h = some r) : MetP Y_X8_meetsStand 2 [.ref 66, .int x1_, .int x2_] h (none, r) := by
  unfold f_X8_meetsStand at hf
  refine met_of yo_X8_meetsStand (Nat.le_of_ble_eq_true rfl) ?_
  show Run Y_X8_meetsStand _ 0 [some (.ref 66), some (.int x1_), some (.int x2_), none] [] h
  refine r_aload_n dX8_meetsStand_0 rfl ?_
  obtain ⟨v1, hv, hf⟩ := bnd hf
  refine r_callV (lv := 1) dX8_meetsStand_1 yo_X8_codeOf yi_X8_codeOf ml_X8_336 ya_X8_codeOf sh_66 ⟨_, rfl, rfl⟩ (Fits.vm (by decide)) rfl rfl (Nat.le_of_ble_eq_true rfl) (S_X8_codeOf F h  _ hv) ?_
  refine r_istore_nA dX8_meetsStand_4 (by decide) ?_
  refine r_aload_n dX8_meetsStand_5 rfl ?_
  refine r_getS (b := 93) dX8_meetsStand_6 sh_66 ft_X8_90 rfl rfl ?_
  refine r_iload_n dX8_meetsStand_9 rfl ?_
  refine r_iald dX8_meetsStand_10 sh_93 hf fun v2 hf => ?_
  refine r_bipush (v := -9) dX8_meetsStand_11 (by decide) ?_
  refine r_reg (P := fun t3 => Run Y_X8_meetsStand (VM 2 (none, r)) 64 [some (.ref 66), some (.int x1_), some (.int x2_), some (.int v1)] [] t3) hf (fun t3 hf => ?_) (fun t3 key4 hf => ?_)
  · exact e_vH dX8_meetsStand_64 rfl hf
  · refine r_icmp_ne 64 dX8_meetsStand_13 (by decide) hf (fun c11 hf => ?_) (fun c11 hf => ?_)
    · cases hf; exact key4
    · refine r_aload_n dX8_meetsStand_16 rfl ?_
      refine r_getS (b := 93) dX8_meetsStand_17 sh_66 ft_X8_90 rfl rfl ?_
      refine r_iload_n dX8_meetsStand_20 rfl ?_
      refine r_aload_n dX8_meetsStand_21 rfl ?_
      refine r_getS (b := 93) dX8_meetsStand_22 sh_66 ft_X8_90 rfl rfl ?_
      refine r_iload_n dX8_meetsStand_25 rfl ?_
      refine r_iald dX8_meetsStand_26 sh_93 hf fun v5 hf => ?_
      refine r_iconst (v := 1) dX8_meetsStand_27 (by decide) ?_
      refine r_iadd dX8_meetsStand_28 ?_
      refine r_iast dX8_meetsStand_29 sh_93 hf fun h6 hf => ?_
      refine r_aload_n dX8_meetsStand_30 rfl ?_
      refine r_getS (b := 94) dX8_meetsStand_31 sh_66 ft_X8_93 rfl rfl ?_
      refine r_iload_n dX8_meetsStand_34 rfl ?_
      refine r_iload_n dX8_meetsStand_35 rfl ?_
      refine r_iast dX8_meetsStand_36 sh_94 hf fun h7 hf => ?_
      refine r_aload_n dX8_meetsStand_37 rfl ?_
      refine r_getS (b := 95) dX8_meetsStand_38 sh_66 ft_X8_96 rfl rfl ?_
      refine r_iload_n dX8_meetsStand_41 rfl ?_
      refine r_iload_n dX8_meetsStand_42 rfl ?_
      refine r_iast dX8_meetsStand_43 sh_95 hf fun h8 hf => ?_
      refine r_aload_n dX8_meetsStand_44 rfl ?_
      refine r_getS (b := 92) dX8_meetsStand_45 sh_66 ft_X8_87 rfl rfl ?_
      refine r_aload_n dX8_meetsStand_48 rfl ?_
      refine r_getI dX8_meetsStand_49 sh_66 ft_X8_326 rfl ?_
      refine r_iload_n dX8_meetsStand_52 rfl ?_
      refine r_iast dX8_meetsStand_53 sh_92 hf fun h9 hf => ?_
      refine r_aload_n dX8_meetsStand_54 rfl ?_
      refine r_dup dX8_meetsStand_55 rfl ?_
      refine r_getI dX8_meetsStand_56 sh_66 ft_X8_326 rfl ?_
      refine r_iconst (v := 1) dX8_meetsStand_59 (by decide) ?_
      refine r_iadd dX8_meetsStand_60 ?_
      refine r_putI dX8_meetsStand_61 sh_66 ft_X8_326 rfl hf fun h10 hf => ?_
      cases hf; exact key4
def f_X8_layStands (F : Nat) (x1_ : Int32) (h : Hp) : Option Hp :=
  fix (σ := Int32 × Hp) (ρ := Hp) (fun self2 s1 =>
    (if (20736 : Int32) ≤ s1.1 then (
      (stI s1.2 92 (0 : Int32) x1_).bind fun h4 =>
      (stI h4 93 x1_ (0 : Int32)).bind fun h5 =>
      nm (sI h5 66 42 (1 : Int32)) fun h6 =>
      fix (σ := Int32 × Hp) (ρ := Hp) (fun self8 s7 =>
        (if (gI s7.2 66 42) ≤ s7.1 then (
          some s7.2)
        else (
          fix (σ := Int32 × Hp) (ρ := Hp) (fun self11 s10 =>
            (if (gI s10.2 66 10) ≤ s10.1 then (
              self8 ((s7.1 + 1), s10.2))
            else (
              fix (σ := Int32 × Hp) (ρ := Hp) (fun self14 s13 =>
                (if (4 : Int32) ≤ s13.1 then (
                  self11 ((s10.1 + 1), s13.2))
                else (
                  (ldI s13.2 92 s7.1).bind fun v16 =>
                  (f_X8_lookAt F v16 s13.2).bind fun h17 =>
                  (f_X8_steps F s10.1 s13.1 h17).bind fun v18 =>
                  (Option.bind (α := Hp) (
                    (if v18.1 = 0 then (
                      some v18.2)
                    else (
                      (ldI v18.2 92 s7.1).bind fun v21 =>
                      (f_X8_meetsStand F v21 (((10 : Int32) * s10.1) + s13.1) v18.2).bind fun h22 =>
                      some h22))) fun t19 =>
                  self14 ((s13.1 + 1), t19))))) F ((0 : Int32), s10.2)))) F ((0 : Int32), s7.2)))) F ((0 : Int32), h6))
    else (
      (stI s1.2 93 s1.1 (-9 : Int32)).bind fun h27 =>
      self2 ((s1.1 + 1), h27)))) F ((0 : Int32), h)
set_option maxRecDepth 100000 in
set_option maxHeartbeats 4000000 in
theorem S_X8_layStands (F : Nat) (x1_ : Int32) (h : Hp) (r : Hp) (hf : f_X8_layStands F x1_ h = some r) : MetP Y_X8_layStands 7 [.ref 66, .int x1_] h (none, r) := by
  unfold f_X8_layStands at hf
  refine met_of yo_X8_layStands (Nat.le_of_ble_eq_true rfl) ?_
  show Run Y_X8_layStands _ 0 [some (.ref 66), some (.int x1_), none, none, none] [] h
  refine r_iconst (v := 0) dX8_layStands_0 (by decide) ?_
  refine r_istore_nA dX8_layStands_1 (by decide) ?_
  refine r_fix (σ := Int32 × Hp) (fun s1 => [some (.ref 66), some (.int x1_), some (.int s1.1), none, none]) (fun s1 => s1.2) (fun self2 ih3 s1 hf => ?_) F ((0 : Int32), h) hf
  refine r_iload_n dX8_layStands_2 rfl ?_
  refine r_sipush (v := 20736) dX8_layStands_3 (by decide) ?_
  refine r_icmp_ge 23 dX8_layStands_6 (by decide) hf (fun c28 hf => ?_) (fun c28 hf => ?_)
  · refine r_aload_n dX8_layStands_23 rfl ?_
    refine r_getS (b := 92) dX8_layStands_24 sh_66 ft_X8_87 rfl rfl ?_
    refine r_iconst (v := 0) dX8_layStands_27 (by decide) ?_
    refine r_iload_n dX8_layStands_28 rfl ?_
    refine r_iast dX8_layStands_29 sh_92 hf fun h4 hf => ?_
    refine r_aload_n dX8_layStands_30 rfl ?_
    refine r_getS (b := 93) dX8_layStands_31 sh_66 ft_X8_90 rfl rfl ?_
    refine r_iload_n dX8_layStands_34 rfl ?_
    refine r_iconst (v := 0) dX8_layStands_35 (by decide) ?_
    refine r_iast dX8_layStands_36 sh_93 hf fun h5 hf => ?_
    refine r_aload_n dX8_layStands_37 rfl ?_
    refine r_iconst (v := 1) dX8_layStands_38 (by decide) ?_
    refine r_putI dX8_layStands_39 sh_66 ft_X8_326 rfl hf fun h6 hf => ?_
    refine r_iconst (v := 0) dX8_layStands_42 (by decide) ?_
    refine r_istore_nA dX8_layStands_43 (by decide) ?_
    refine r_fix (σ := Int32 × Hp) (fun s7 => [some (.ref 66), some (.int x1_), some (.int s7.1), none, none]) (fun s7 => s7.2) (fun self8 ih9 s7 hf => ?_) F ((0 : Int32), h6) hf
    refine r_iload_n dX8_layStands_44 rfl ?_
    refine r_aload_n dX8_layStands_45 rfl ?_
    refine r_getI dX8_layStands_46 sh_66 ft_X8_326 rfl ?_
    refine r_icmp_ge 126 dX8_layStands_49 (by decide) hf (fun c26 hf => ?_) (fun c26 hf => ?_)
    · exact e_vH dX8_layStands_126 rfl hf
    · refine r_iconst (v := 0) dX8_layStands_52 (by decide) ?_
      refine r_istore_nA dX8_layStands_53 (by decide) ?_
      refine r_fix (σ := Int32 × Hp) (fun s10 => [some (.ref 66), some (.int x1_), some (.int s7.1), some (.int s10.1), none]) (fun s10 => s10.2) (fun self11 ih12 s10 hf => ?_) F ((0 : Int32), s7.2) hf
      refine r_iload_n dX8_layStands_54 rfl ?_
      refine r_aload_n dX8_layStands_55 rfl ?_
      refine r_getI dX8_layStands_56 sh_66 ft_X8_221 rfl ?_
      refine r_icmp_ge 120 dX8_layStands_59 (by decide) hf (fun c25 hf => ?_) (fun c25 hf => ?_)
      · refine r_iincA (v := 1) dX8_layStands_120 rfl (by decide) (by decide) ?_
        refine r_goto 44 dX8_layStands_123 (by decide) ?_
        refine r_lt (ll_s (ll_s (ll_s (ll_n (ll_n ll_0))))) ?_
        exact ih9 _ hf
      · refine r_iconst (v := 0) dX8_layStands_62 (by decide) ?_
        refine r_istoreA dX8_layStands_63 (by decide) ?_
        refine r_fix (σ := Int32 × Hp) (fun s13 => [some (.ref 66), some (.int x1_), some (.int s7.1), some (.int s10.1), some (.int s13.1)]) (fun s13 => s13.2) (fun self14 ih15 s13 hf => ?_) F ((0 : Int32), s10.2) hf
        refine r_iload dX8_layStands_65 rfl ?_
        refine r_iconst (v := 4) dX8_layStands_67 (by decide) ?_
        refine r_icmp_ge 114 dX8_layStands_68 (by decide) hf (fun c24 hf => ?_) (fun c24 hf => ?_)
        · refine r_iincA (v := 1) dX8_layStands_114 rfl (by decide) (by decide) ?_
          refine r_goto 54 dX8_layStands_117 (by decide) ?_
          refine r_lt (ll_s (ll_s (ll_s (ll_s (ll_n ll_0))))) ?_
          exact ih12 _ hf
        · refine r_aload_n dX8_layStands_71 rfl ?_
          refine r_aload_n dX8_layStands_72 rfl ?_
          refine r_getS (b := 92) dX8_layStands_73 sh_66 ft_X8_87 rfl rfl ?_
          refine r_iload_n dX8_layStands_76 rfl ?_
          refine r_iald dX8_layStands_77 sh_92 hf fun v16 hf => ?_
          obtain ⟨h17, hv, hf⟩ := bnd hf
          refine r_callV (lv := 1) dX8_layStands_78 yo_X8_lookAt yi_X8_lookAt ml_X8_329 ya_X8_lookAt sh_66 ⟨_, rfl, rfl⟩ (Fits.vm (by decide)) rfl rfl (Nat.le_of_ble_eq_true rfl) (S_X8_lookAt F v16 s13.2  _ hv) ?_
          refine r_aload_n dX8_layStands_81 rfl ?_
          refine r_iload_n dX8_layStands_82 rfl ?_
          refine r_iload dX8_layStands_83 rfl ?_
          obtain ⟨v18, hv, hf⟩ := bnd hf
          refine r_callV (lv := 6) dX8_layStands_85 yo_X8_steps yi_X8_steps ml_X8_317 ya_X8_steps sh_66 ⟨_, rfl, rfl⟩ (Fits.vm (by decide)) rfl rfl (Nat.le_of_ble_eq_true rfl) (S_X8_steps F s10.1 s13.1 h17  _ hv) ?_
          refine r_reg (P := fun t19 => Run Y_X8_layStands (VM 7 (none, r)) 108 [some (.ref 66), some (.int x1_), some (.int s7.1), some (.int s10.1), some (.int s13.1)] [] t19) hf (fun t19 hf => ?_) (fun t19 key20 hf => ?_)
          · refine r_iincA (v := 1) dX8_layStands_108 rfl (by decide) (by decide) ?_
            refine r_goto 65 dX8_layStands_111 (by decide) ?_
            exact ih15 _ hf
          · refine r_if_eq 108 dX8_layStands_88 (by decide) hf (fun c23 hf => ?_) (fun c23 hf => ?_)
            · cases hf; exact key20
            · refine r_aload_n dX8_layStands_91 rfl ?_
              refine r_aload_n dX8_layStands_92 rfl ?_
              refine r_getS (b := 92) dX8_layStands_93 sh_66 ft_X8_87 rfl rfl ?_
              refine r_iload_n dX8_layStands_96 rfl ?_
              refine r_iald dX8_layStands_97 sh_92 hf fun v21 hf => ?_
              refine r_bipush (v := 10) dX8_layStands_98 (by decide) ?_
              refine r_iload_n dX8_layStands_100 rfl ?_
              refine r_imul dX8_layStands_101 ?_
              refine r_iload dX8_layStands_102 rfl ?_
              refine r_iadd dX8_layStands_104 ?_
              obtain ⟨h22, hv, hf⟩ := bnd hf
              refine r_callV (lv := 2) dX8_layStands_105 yo_X8_meetsStand yi_X8_meetsStand ml_X8_332 ya_X8_meetsStand sh_66 ⟨_, rfl, rfl⟩ (Fits.vm (by decide)) rfl rfl (Nat.le_of_ble_eq_true rfl) (S_X8_meetsStand F v21 (((10 : Int32) * s10.1) + s13.1) v18.2  _ hv) ?_
              cases hf; exact key20
  · refine r_aload_n dX8_layStands_9 rfl ?_
    refine r_getS (b := 93) dX8_layStands_10 sh_66 ft_X8_90 rfl rfl ?_
    refine r_iload_n dX8_layStands_13 rfl ?_
    refine r_bipush (v := -9) dX8_layStands_14 (by decide) ?_
    refine r_iast dX8_layStands_16 sh_93 hf fun h27 hf => ?_
    refine r_iincA (v := 1) dX8_layStands_17 rfl (by decide) (by decide) ?_
    refine r_goto 2 dX8_layStands_20 (by decide) ?_
    exact ih3 _ hf
