def f_X7_allInColumn (F : Nat) (x1_ : Int32) (x2_ : Int32) (h : Hp) : Option Int32 :=
  fix (σ := Int32) (ρ := Int32) (fun self2 s1 =>
    (gO h 0 11 (0, 6, 14)).bind fun y4 =>
    (if (gI h y4 4) ≤ s1 then (
      ckZ (1 : Int32))
    else (
      (gO h 0 11 (0, 6, 14)).bind fun y5 =>
      (f_X7_cellOf x1_ s1 h).bind fun v6 =>
      (f_X6_columnOf y5 v6 h).bind fun v7 =>
      (if v7 = x2_ then (
        self2 (s1 + 1))
      else (
        ckZ (0 : Int32)))))) F (0 : Int32)
set_option maxRecDepth 100000 in
set_option maxHeartbeats 4000000 in
theorem S_X7_allInColumn (F : Nat) (x1_ : Int32) (x2_ : Int32) (h : Hp) (r : Int32) (hf : f_X7_allInColumn F x1_ x2_ h = some r) : MetP Y_X7_allInColumn 2 [.ref 0, .int x1_, .int x2_] h (some (.int r), h) := by
  unfold f_X7_allInColumn at hf
  refine met_of yo_X7_allInColumn (Nat.le_of_ble_eq_true rfl) ?_
  show Run Y_X7_allInColumn _ 0 [some (.ref 0), some (.int x1_), some (.int x2_), none] [] h
  refine r_iconst (v := 0) dX7_allInColumn_0 (by decide) ?_
  refine r_istore_nA dX7_allInColumn_1 (by decide) ?_
  refine r_fix (σ := Int32) (fun s1 => [some (.ref 0), some (.int x1_), some (.int x2_), some (.int s1)]) (fun s1 => h) (fun self2 ih3 s1 hf => ?_) F (0 : Int32) hf
  refine r_iload_n dX7_allInColumn_2 rfl ?_
  refine r_aload_n dX7_allInColumn_3 rfl ?_
  refine r_getR (E := (0, 6, 14)) dX7_allInColumn_4 sh_0 ft_X7_77 rfl hf fun y4 hy4 hf => ?_
  refine r_getI dX7_allInColumn_7 hy4 ft_X7_154 rfl ?_
  refine r_icmp_ge 37 dX7_allInColumn_10 (by decide) hf (fun c9 hf => ?_) (fun c9 hf => ?_)
  · refine r_iconst (v := 1) dX7_allInColumn_37 (by decide) ?_
    exact e_zP dX7_allInColumn_38 rfl hf
  · refine r_aload_n dX7_allInColumn_13 rfl ?_
    refine r_getR (E := (0, 6, 14)) dX7_allInColumn_14 sh_0 ft_X7_77 rfl hf fun y5 hy5 hf => ?_
    refine r_iload_n dX7_allInColumn_17 rfl ?_
    refine r_iload_n dX7_allInColumn_18 rfl ?_
    obtain ⟨v6, hv, hf⟩ := bnd hf
    refine r_callS (lv := 1) dX7_allInColumn_19 yo_X7_cellOf ys_X7_cellOf ml_X7_216 ya_X7_cellOf (Fits.vm (by decide)) rfl rfl (Nat.le_of_ble_eq_true rfl) (S_X7_cellOf x1_ s1 h  _ hv) ?_
    obtain ⟨v7, hv, hf⟩ := bnd hf
    refine r_callV (lv := 1) dX7_allInColumn_22 yo_X6_columnOf yi_X6_columnOf ml_X7_414 ya_X6_columnOf hy5 ⟨_, rfl, rfl⟩ (Fits.vm (by decide)) rfl rfl (Nat.le_of_ble_eq_true rfl) (S_X6_columnOf y5 v6 hy5 h  _ hv) ?_
    refine r_iload_n dX7_allInColumn_25 rfl ?_
    refine r_icmp_eq 31 dX7_allInColumn_26 (by decide) hf (fun c8 hf => ?_) (fun c8 hf => ?_)
    · refine r_iincA (v := 1) dX7_allInColumn_31 rfl (by decide) (by decide) ?_
      refine r_goto 2 dX7_allInColumn_34 (by decide) ?_
      exact ih3 _ hf
    · refine r_iconst (v := 0) dX7_allInColumn_29 (by decide) ?_
      exact e_zP dX7_allInColumn_30 rfl hf
def f_X7_window (F : Nat) (x1_ : Int32) (h : Hp) : Option (Int32 × Hp) :=
  (if x1_ < 0 then (
    some ((-1 : Int32), h))
  else (
    (gO h 0 11 (0, 6, 14)).bind fun y1 =>
    (if x1_ < (gI h y1 0) then (
      (gO h 0 11 (0, 6, 14)).bind fun y2 =>
      (if (gI h y2 4) = 0 then (
        some ((-4 : Int32), h))
      else (
        (f_X3_begin F (gI h 18 1) h).bind fun h3 =>
        fix (σ := Int32 × Hp) (ρ := (Int32 × Hp)) (fun self5 s4 =>
          (if (11880 : Int32) ≤ s4.1 then (
            some ((-9 : Int32), s4.2))
          else (
            (f_X3_finds F s4.1 s4.2).bind fun v7 =>
            (if v7.1 = 0 then (
              some ((-9 : Int32), v7.2))
            else (
              (f_X3_stand s4.1 v7.2).bind fun v8 =>
              (f_X7_allInColumn F v8 x1_ v7.2).bind fun v9 =>
              (if v9 = 0 then (
                self5 ((s4.1 + 1), v7.2))
              else (
                (f_X3_depth s4.1 v7.2).bind fun v10 =>
                some (v10, v7.2)))))))) F ((0 : Int32), h3))))
    else (
      some ((-1 : Int32), h)))))
set_option maxRecDepth 100000 in
set_option maxHeartbeats 4000000 in
theorem S_X7_window (F : Nat) (x1_ : Int32) (h : Hp) (r : (Int32 × Hp)) (hf : f_X7_window F x1_ h = some r) : MetP Y_X7_window 6 [.ref 0, .int x1_] h (some (.int r.1), r.2) := by
  unfold f_X7_window at hf
  refine met_of yo_X7_window (Nat.le_of_ble_eq_true rfl) ?_
  show Run Y_X7_window _ 0 [some (.ref 0), some (.int x1_), none] [] h
  refine r_iload_n dX7_window_0 rfl ?_
  refine r_if_lt 15 dX7_window_1 (by decide) hf (fun c16 hf => ?_) (fun c16 hf => ?_)
  · refine r_iconst (v := -1) dX7_window_15 (by decide) ?_
    exact e_iH dX7_window_16 rfl hf
  · refine r_iload_n dX7_window_4 rfl ?_
    refine r_aload_n dX7_window_5 rfl ?_
    refine r_getR (E := (0, 6, 14)) dX7_window_6 sh_0 ft_X7_77 rfl hf fun y1 hy1 hf => ?_
    refine r_getI dX7_window_9 hy1 ft_X7_256 rfl ?_
    refine r_icmp_lt 17 dX7_window_12 (by decide) hf (fun c15 hf => ?_) (fun c15 hf => ?_)
    · refine r_aload_n dX7_window_17 rfl ?_
      refine r_getR (E := (0, 6, 14)) dX7_window_18 sh_0 ft_X7_77 rfl hf fun y2 hy2 hf => ?_
      refine r_getI dX7_window_21 hy2 ft_X7_154 rfl ?_
      refine r_if_ne 30 dX7_window_24 (by decide) hf (fun c14 hf => ?_) (fun c14 hf => ?_)
      · refine r_aload_n dX7_window_30 rfl ?_
        refine r_getS (b := 23) dX7_window_31 sh_0 ft_X7_51 rfl rfl ?_
        refine r_aload_n dX7_window_34 rfl ?_
        refine r_getS (b := 18) dX7_window_35 sh_0 ft_X7_31 rfl rfl ?_
        refine r_getI dX7_window_38 sh_18 ft_X7_199 rfl ?_
        obtain ⟨h3, hv, hf⟩ := bnd hf
        refine r_callV (lv := 2) dX7_window_41 yo_X3_begin yi_X3_begin ml_X7_245 ya_X3_begin sh_23 ⟨_, rfl, rfl⟩ (Fits.vm (by decide)) rfl rfl (Nat.le_of_ble_eq_true rfl) (S_X3_begin F (gI h 18 1) h  _ hv) ?_
        refine r_iconst (v := 0) dX7_window_44 (by decide) ?_
        refine r_istore_nA dX7_window_45 (by decide) ?_
        refine r_fix (σ := Int32 × Hp) (fun s4 => [some (.ref 0), some (.int x1_), some (.int s4.1)]) (fun s4 => s4.2) (fun self5 ih6 s4 hf => ?_) F ((0 : Int32), h3) hf
        refine r_iload_n dX7_window_46 rfl ?_
        refine r_sipush (v := 11880) dX7_window_47 (by decide) ?_
        refine r_icmp_ge 95 dX7_window_50 (by decide) hf (fun c13 hf => ?_) (fun c13 hf => ?_)
        · refine r_bipush (v := -9) dX7_window_95 (by decide) ?_
          exact e_iH dX7_window_97 rfl hf
        · refine r_aload_n dX7_window_53 rfl ?_
          refine r_getS (b := 23) dX7_window_54 sh_0 ft_X7_51 rfl rfl ?_
          refine r_iload_n dX7_window_57 rfl ?_
          obtain ⟨v7, hv, hf⟩ := bnd hf
          refine r_callV (lv := 5) dX7_window_58 yo_X3_finds yi_X3_finds ml_X7_248 ya_X3_finds sh_23 ⟨_, rfl, rfl⟩ (Fits.vm (by decide)) rfl rfl (Nat.le_of_ble_eq_true rfl) (S_X3_finds F s4.1 s4.2  _ hv) ?_
          refine r_if_eq 95 dX7_window_61 (by decide) hf (fun c12 hf => ?_) (fun c12 hf => ?_)
          · refine r_bipush (v := -9) dX7_window_95 (by decide) ?_
            exact e_iH dX7_window_97 rfl hf
          · refine r_aload_n dX7_window_64 rfl ?_
            refine r_aload_n dX7_window_65 rfl ?_
            refine r_getS (b := 23) dX7_window_66 sh_0 ft_X7_51 rfl rfl ?_
            refine r_iload_n dX7_window_69 rfl ?_
            obtain ⟨v8, hv, hf⟩ := bnd hf
            refine r_callV (lv := 1) dX7_window_70 yo_X3_stand yi_X3_stand ml_X7_251 ya_X3_stand sh_23 ⟨_, rfl, rfl⟩ (Fits.vm (by decide)) rfl rfl (Nat.le_of_ble_eq_true rfl) (S_X3_stand s4.1 v7.2  _ hv) ?_
            refine r_iload_n dX7_window_73 rfl ?_
            obtain ⟨v9, hv, hf⟩ := bnd hf
            refine r_callV (lv := 2) dX7_window_74 yo_X7_allInColumn yi_X7_allInColumn ml_X7_259 ya_X7_allInColumn sh_0 ⟨_, rfl, rfl⟩ (Fits.vm (by decide)) rfl rfl (Nat.le_of_ble_eq_true rfl) (S_X7_allInColumn F v8 x1_ v7.2  _ hv) ?_
            refine r_if_eq 89 dX7_window_77 (by decide) hf (fun c11 hf => ?_) (fun c11 hf => ?_)
            · refine r_iincA (v := 1) dX7_window_89 rfl (by decide) (by decide) ?_
              refine r_goto 46 dX7_window_92 (by decide) ?_
              exact ih6 _ hf
            · refine r_aload_n dX7_window_80 rfl ?_
              refine r_getS (b := 23) dX7_window_81 sh_0 ft_X7_51 rfl rfl ?_
              refine r_iload_n dX7_window_84 rfl ?_
              obtain ⟨v10, hv, hf⟩ := bnd hf
              refine r_callV (lv := 1) dX7_window_85 yo_X3_depth yi_X3_depth ml_X7_239 ya_X3_depth sh_23 ⟨_, rfl, rfl⟩ (Fits.vm (by decide)) rfl rfl (Nat.le_of_ble_eq_true rfl) (S_X3_depth s4.1 v7.2  _ hv) ?_
              exact e_iH dX7_window_88 rfl hf
      · refine r_bipush (v := -4) dX7_window_27 (by decide) ?_
        exact e_iH dX7_window_29 rfl hf
    · refine r_iconst (v := -1) dX7_window_15 (by decide) ?_
      exact e_iH dX7_window_16 rfl hf
def f_X7_standFrom (F : Nat) (x1_ : Int32) (x2_ : Int32) (h : Hp) : Option Int32 :=
  fix (σ := Int32 × Int32) (ρ := Int32) (fun self2 s1 =>
    (gO h 0 11 (0, 6, 14)).bind fun y4 =>
    (if (gI h y4 4) ≤ s1.2 then (
      some s1.1)
    else (
      (f_X4_get 1 x1_ (x2_ + s1.2) h).bind fun v5 =>
      (ldT 0 s1.2).bind fun v6 =>
      self2 ((s1.1 + (v5 * v6)), (s1.2 + 1))))) F ((0 : Int32), (0 : Int32))
set_option maxRecDepth 100000 in
set_option maxHeartbeats 4000000 in
theorem S_X7_standFrom (F : Nat) (x1_ : Int32) (x2_ : Int32) (h : Hp) (r : Int32) (hf : f_X7_standFrom F x1_ x2_ h = some r) : MetP Y_X7_standFrom 4 [.ref 0, .int x1_, .int x2_] h (some (.int r), h) := by
  unfold f_X7_standFrom at hf
  refine met_of yo_X7_standFrom (Nat.le_of_ble_eq_true rfl) ?_
  show Run Y_X7_standFrom _ 0 [some (.ref 0), some (.int x1_), some (.int x2_), none, none] [] h
  refine r_iconst (v := 0) dX7_standFrom_0 (by decide) ?_
  refine r_istore_nA dX7_standFrom_1 (by decide) ?_
  refine r_iconst (v := 0) dX7_standFrom_2 (by decide) ?_
  refine r_istoreA dX7_standFrom_3 (by decide) ?_
  refine r_fix (σ := Int32 × Int32) (fun s1 => [some (.ref 0), some (.int x1_), some (.int x2_), some (.int s1.1), some (.int s1.2)]) (fun s1 => h) (fun self2 ih3 s1 hf => ?_) F ((0 : Int32), (0 : Int32)) hf
  refine r_iload dX7_standFrom_5 rfl ?_
  refine r_aload_n dX7_standFrom_7 rfl ?_
  refine r_getR (E := (0, 6, 14)) dX7_standFrom_8 sh_0 ft_X7_77 rfl hf fun y4 hy4 hf => ?_
  refine r_getI dX7_standFrom_11 hy4 ft_X7_154 rfl ?_
  refine r_icmp_ge 45 dX7_standFrom_14 (by decide) hf (fun c7 hf => ?_) (fun c7 hf => ?_)
  · refine r_iload_n dX7_standFrom_45 rfl ?_
    exact e_iP dX7_standFrom_46 rfl hf
  · refine r_iload_n dX7_standFrom_17 rfl ?_
    refine r_aload_n dX7_standFrom_18 rfl ?_
    refine r_getS (b := 1) dX7_standFrom_19 sh_0 ft_X7_14 rfl rfl ?_
    refine r_iload_n dX7_standFrom_22 rfl ?_
    refine r_iload_n dX7_standFrom_23 rfl ?_
    refine r_iload dX7_standFrom_24 rfl ?_
    refine r_iadd dX7_standFrom_26 ?_
    obtain ⟨v5, hv, hf⟩ := bnd hf
    refine r_callV (lv := 3) dX7_standFrom_27 yo_X4_get yi_X4_get ml_X7_95 ya_X4_get sh_1 ⟨_, rfl, rfl⟩ (Fits.vm (by decide)) rfl rfl (Nat.le_of_ble_eq_true rfl) (S_X4_get 1 x1_ (x2_ + s1.2) sh_1 h  _ hv) ?_
    refine r_gets 0 (by decide) dX7_standFrom_30 fs_X7_380 ?_
    refine r_iload dX7_standFrom_33 rfl ?_
    refine r_tald (by decide) dX7_standFrom_35 hf fun v6 hf => ?_
    refine r_imul dX7_standFrom_36 ?_
    refine r_iadd dX7_standFrom_37 ?_
    refine r_istore_nA dX7_standFrom_38 (by decide) ?_
    refine r_iincA (v := 1) dX7_standFrom_39 rfl (by decide) (by decide) ?_
    refine r_goto 5 dX7_standFrom_42 (by decide) ?_
    exact ih3 _ hf
def f_X7_soundStand (F : Nat) (x1_ : Int32) (h : Hp) : Option Int32 :=
  fix (σ := Int32 × Int32) (ρ := Int32) (fun self2 s1 =>
    (gO h 0 11 (0, 6, 14)).bind fun y4 =>
    (if (gI h y4 4) ≤ s1.2 then (
      (f_X7_standFrom F x1_ (0 : Int32) h).bind fun v5 =>
      (gO h 0 11 (0, 6, 14)).bind fun y6 =>
      (f_X6_tooFar F y6 v5 (gI h 18 3) h).bind fun v7 =>
      (Option.bind (α := Int32) (
        (if v7 = 0 then (
          some v5)
        else (
          some (-9 : Int32)))) fun t8 =>
      some t8))
    else (
      (f_X4_get 1 x1_ s1.2 h).bind fun v11 =>
      (f_X7_isCell v11 h).bind fun v12 =>
      (if v12 = 0 then (
        some (-9 : Int32))
      else (
        (gO h 0 11 (0, 6, 14)).bind fun y13 =>
        (f_X6_isWall y13 v11 h).bind fun v14 =>
        (if v14 = 0 then (
          (if ((s1.1 >>> (v11 &&& 31)) &&& (1 : Int32)) = (1 : Int32) then (
            some (-9 : Int32))
          else (
            nm ((s1.1 ||| ((1 : Int32) <<< (v11 &&& 31)))) fun x15 =>
            self2 (x15, (s1.2 + 1)))))
        else (
          some (-9 : Int32)))))))) F ((0 : Int32), (0 : Int32))
set_option maxRecDepth 100000 in
set_option maxHeartbeats 4000000 in
theorem S_X7_soundStand (F : Nat) (x1_ : Int32) (h : Hp) (r : Int32) (hf : f_X7_soundStand F x1_ h = some r) : MetP Y_X7_soundStand 5 [.ref 0, .int x1_] h (some (.int r), h) := by
  unfold f_X7_soundStand at hf
  refine met_of yo_X7_soundStand (Nat.le_of_ble_eq_true rfl) ?_
  show Run Y_X7_soundStand _ 0 [some (.ref 0), some (.int x1_), none, none, none] [] h
  refine r_iconst (v := 0) dX7_soundStand_0 (by decide) ?_
  refine r_istore_nA dX7_soundStand_1 (by decide) ?_
  refine r_iconst (v := 0) dX7_soundStand_2 (by decide) ?_
  refine r_istore_nA dX7_soundStand_3 (by decide) ?_
  refine r_fix (σ := Int32 × Int32) (fun s1 => [some (.ref 0), some (.int x1_), some (.int s1.1), some (.int s1.2), none]) (fun s1 => h) (fun self2 ih3 s1 hf => ?_) F ((0 : Int32), (0 : Int32)) hf
  refine r_iload_n dX7_soundStand_4 rfl ?_
  refine r_aload_n dX7_soundStand_5 rfl ?_
  refine r_getR (E := (0, 6, 14)) dX7_soundStand_6 sh_0 ft_X7_77 rfl hf fun y4 hy4 hf => ?_
  refine r_getI dX7_soundStand_9 hy4 ft_X7_154 rfl ?_
  refine r_icmp_ge 73 dX7_soundStand_12 (by decide) hf (fun c19 hf => ?_) (fun c19 hf => ?_)
  · refine r_aload_n dX7_soundStand_73 rfl ?_
    refine r_iload_n dX7_soundStand_74 rfl ?_
    refine r_iconst (v := 0) dX7_soundStand_75 (by decide) ?_
    obtain ⟨v5, hv, hf⟩ := bnd hf
    refine r_callV (lv := 4) dX7_soundStand_76 yo_X7_standFrom yi_X7_standFrom ml_X7_309 ya_X7_standFrom sh_0 ⟨_, rfl, rfl⟩ (Fits.vm (by decide)) rfl rfl (Nat.le_of_ble_eq_true rfl) (S_X7_standFrom F x1_ (0 : Int32) h  _ hv) ?_
    refine r_istore_nA dX7_soundStand_79 (by decide) ?_
    refine r_aload_n dX7_soundStand_80 rfl ?_
    refine r_getR (E := (0, 6, 14)) dX7_soundStand_81 sh_0 ft_X7_77 rfl hf fun y6 hy6 hf => ?_
    refine r_iload_n dX7_soundStand_84 rfl ?_
    refine r_aload_n dX7_soundStand_85 rfl ?_
    refine r_getS (b := 18) dX7_soundStand_86 sh_0 ft_X7_31 rfl rfl ?_
    refine r_getI dX7_soundStand_89 sh_18 ft_X7_196 rfl ?_
    obtain ⟨v7, hv, hf⟩ := bnd hf
    refine r_callV (lv := 1) dX7_soundStand_92 yo_X6_tooFar yi_X6_tooFar ml_X7_312 ya_X6_tooFar hy6 ⟨_, rfl, rfl⟩ (Fits.vm (by decide)) rfl rfl (Nat.le_of_ble_eq_true rfl) (S_X6_tooFar F y6 v5 (gI h 18 3) hy6 h  _ hv) ?_
    refine r_reg (P := fun t8 => Run Y_X7_soundStand (VM 5 (some (.int r), h)) 104 [some (.ref 0), some (.int x1_), some (.int s1.1), some (.int v5), none] [.int t8] h) hf (fun t8 hf => ?_) (fun t8 key9 hf => ?_)
    · exact e_iP dX7_soundStand_104 rfl hf
    · refine r_if_ne 102 dX7_soundStand_95 (by decide) hf (fun c10 hf => ?_) (fun c10 hf => ?_)
      · refine r_bipush (v := -9) dX7_soundStand_102 (by decide) ?_
        cases hf; exact key9
      · refine r_iload_n dX7_soundStand_98 rfl ?_
        refine r_goto 104 dX7_soundStand_99 (by decide) ?_
        cases hf; exact key9
  · refine r_aload_n dX7_soundStand_15 rfl ?_
    refine r_getS (b := 1) dX7_soundStand_16 sh_0 ft_X7_14 rfl rfl ?_
    refine r_iload_n dX7_soundStand_19 rfl ?_
    refine r_iload_n dX7_soundStand_20 rfl ?_
    obtain ⟨v11, hv, hf⟩ := bnd hf
    refine r_callV (lv := 3) dX7_soundStand_21 yo_X4_get yi_X4_get ml_X7_95 ya_X4_get sh_1 ⟨_, rfl, rfl⟩ (Fits.vm (by decide)) rfl rfl (Nat.le_of_ble_eq_true rfl) (S_X4_get 1 x1_ s1.2 sh_1 h  _ hv) ?_
    refine r_istoreA dX7_soundStand_24 (by decide) ?_
    refine r_aload_n dX7_soundStand_26 rfl ?_
    refine r_iload dX7_soundStand_27 rfl ?_
    obtain ⟨v12, hv, hf⟩ := bnd hf
    refine r_callV (lv := 1) dX7_soundStand_29 yo_X7_isCell yi_X7_isCell ml_X7_222 ya_X7_isCell sh_0 ⟨_, rfl, rfl⟩ (Fits.vm (by decide)) rfl rfl (Nat.le_of_ble_eq_true rfl) (S_X7_isCell v11 h  _ hv) ?_
    refine r_if_eq 57 dX7_soundStand_32 (by decide) hf (fun c18 hf => ?_) (fun c18 hf => ?_)
    · refine r_bipush (v := -9) dX7_soundStand_57 (by decide) ?_
      exact e_iP dX7_soundStand_59 rfl hf
    · refine r_aload_n dX7_soundStand_35 rfl ?_
      refine r_getR (E := (0, 6, 14)) dX7_soundStand_36 sh_0 ft_X7_77 rfl hf fun y13 hy13 hf => ?_
      refine r_iload dX7_soundStand_39 rfl ?_
      obtain ⟨v14, hv, hf⟩ := bnd hf
      refine r_callV (lv := 1) dX7_soundStand_41 yo_X6_isWall yi_X6_isWall ml_X7_370 ya_X6_isWall hy13 ⟨_, rfl, rfl⟩ (Fits.vm (by decide)) rfl rfl (Nat.le_of_ble_eq_true rfl) (S_X6_isWall y13 v11 hy13 h  _ hv) ?_
      refine r_if_ne 57 dX7_soundStand_44 (by decide) hf (fun c17 hf => ?_) (fun c17 hf => ?_)
      · refine r_bipush (v := -9) dX7_soundStand_57 (by decide) ?_
        exact e_iP dX7_soundStand_59 rfl hf
      · refine r_iload_n dX7_soundStand_47 rfl ?_
        refine r_iload dX7_soundStand_48 rfl ?_
        refine r_ishr dX7_soundStand_50 ?_
        refine r_iconst (v := 1) dX7_soundStand_51 (by decide) ?_
        refine r_iand dX7_soundStand_52 ?_
        refine r_iconst (v := 1) dX7_soundStand_53 (by decide) ?_
        refine r_icmp_ne 60 dX7_soundStand_54 (by decide) hf (fun c16 hf => ?_) (fun c16 hf => ?_)
        · refine r_iload_n dX7_soundStand_60 rfl ?_
          refine r_iconst (v := 1) dX7_soundStand_61 (by decide) ?_
          refine r_iload dX7_soundStand_62 rfl ?_
          refine r_ishl dX7_soundStand_64 ?_
          refine r_ior dX7_soundStand_65 ?_
          refine r_istore_n dX7_soundStand_66 (by decide) hf fun x15 hf => ?_
          refine r_iincA (v := 1) dX7_soundStand_67 rfl (by decide) (by decide) ?_
          refine r_goto 4 dX7_soundStand_70 (by decide) ?_
          refine r_lt (ll_s (ll_s (ll_s (ll_s (ll_n ll_0))))) ?_
          exact ih3 _ hf
        · refine r_bipush (v := -9) dX7_soundStand_57 (by decide) ?_
          exact e_iP dX7_soundStand_59 rfl hf
def f_X7_comes (F : Nat) (x1_ : Int32) (x2_ : Int32) (h : Hp) : Option (Int32 × Hp) :=
  (f_X4_knows 1 x1_ h).bind fun v1 =>
  (if v1 = 0 then (
    some ((-1 : Int32), h))
  else (
    (f_X4_knows 1 x2_ h).bind fun v2 =>
    (if v2 = 0 then (
      some ((-1 : Int32), h))
    else (
      (gO h 0 11 (0, 6, 14)).bind fun y3 =>
      (if (gI h y3 4) = 0 then (
        some ((-4 : Int32), h))
      else (
        (f_X4_holds 1 x1_ h).bind fun v4 =>
        jn (α := (Unit) → Option (Int32 × Hp)) (fun t5 =>
          (f_X7_found (1 : Int32) h).bind fun v8 =>
          some (v8.1, v8.2)) fun j6 =>
        (if v4 = 0 then (
          j6 ())
        else (
          (f_X4_holds 1 x2_ h).bind fun v9 =>
          (if v9 = 0 then (
            j6 ())
          else (
            (f_X4_size 1 x1_ h).bind fun v10 =>
            (gO h 0 11 (0, 6, 14)).bind fun y11 =>
            jn (α := (Unit) → Option (Int32 × Hp)) (fun t12 =>
              (f_X7_found (5 : Int32) h).bind fun v15 =>
              some (v15.1, v15.2)) fun j13 =>
            (if v10 = (gI h y11 4) then (
              (f_X4_size 1 x2_ h).bind fun v16 =>
              (gO h 0 11 (0, 6, 14)).bind fun y17 =>
              (if v16 = (gI h y17 4) then (
                (f_X7_soundStand F x1_ h).bind fun v18 =>
                (f_X7_soundStand F x2_ h).bind fun v19 =>
                jn (α := (Unit) → Option (Int32 × Hp)) (fun t20 =>
                  (f_X7_found (3 : Int32) h).bind fun v23 =>
                  some (v23.1, v23.2)) fun j21 =>
                (if v18 = (-9 : Int32) then (
                  j21 ())
                else (
                  (if v19 = (-9 : Int32) then (
                    j21 ())
                  else (
                    (f_X3_begin F v18 h).bind fun h24 =>
                    fix (σ := Int32 × Hp) (ρ := (Int32 × Hp)) (fun self26 s25 =>
                      (if (11880 : Int32) ≤ s25.1 then (
                        some ((0 : Int32), s25.2))
                      else (
                        (f_X3_finds F s25.1 s25.2).bind fun v28 =>
                        (if v28.1 = 0 then (
                          some ((0 : Int32), v28.2))
                        else (
                          (f_X3_stand s25.1 v28.2).bind fun v29 =>
                          (if v29 = v19 then (
                            some ((1 : Int32), v28.2))
                          else (
                            self26 ((s25.1 + 1), v28.2)))))))) F ((0 : Int32), h24))))))
              else (
                j13 ())))
            else (
              j13 ()))))))))))))
set_option maxRecDepth 100000 in
set_option maxHeartbeats 4000000 in
theorem S_X7_comes (F : Nat) (x1_ : Int32) (x2_ : Int32) (h : Hp) (r : (Int32 × Hp)) (hf : f_X7_comes F x1_ x2_ h = some r) : MetP Y_X7_comes 6 [.ref 0, .int x1_, .int x2_] h (some (.int r.1), r.2) := by
  unfold f_X7_comes at hf
  refine met_of yo_X7_comes (Nat.le_of_ble_eq_true rfl) ?_
  show Run Y_X7_comes _ 0 [some (.ref 0), some (.int x1_), some (.int x2_), none, none, none] [] h
  refine r_aload_n dX7_comes_0 rfl ?_
  refine r_getS (b := 1) dX7_comes_1 sh_0 ft_X7_14 rfl rfl ?_
  refine r_iload_n dX7_comes_4 rfl ?_
  obtain ⟨v1, hv, hf⟩ := bnd hf
  refine r_callV (lv := 1) dX7_comes_5 yo_X4_knows yi_X4_knows ml_X7_114 ya_X4_knows sh_1 ⟨_, rfl, rfl⟩ (Fits.vm (by decide)) rfl rfl (Nat.le_of_ble_eq_true rfl) (S_X4_knows 1 x1_ sh_1 h  _ hv) ?_
  refine r_if_eq 22 dX7_comes_8 (by decide) hf (fun c41 hf => ?_) (fun c41 hf => ?_)
  · refine r_iconst (v := -1) dX7_comes_22 (by decide) ?_
    exact e_iH dX7_comes_23 rfl hf
  · refine r_aload_n dX7_comes_11 rfl ?_
    refine r_getS (b := 1) dX7_comes_12 sh_0 ft_X7_14 rfl rfl ?_
    refine r_iload_n dX7_comes_15 rfl ?_
    obtain ⟨v2, hv, hf⟩ := bnd hf
    refine r_callV (lv := 1) dX7_comes_16 yo_X4_knows yi_X4_knows ml_X7_114 ya_X4_knows sh_1 ⟨_, rfl, rfl⟩ (Fits.vm (by decide)) rfl rfl (Nat.le_of_ble_eq_true rfl) (S_X4_knows 1 x2_ sh_1 h  _ hv) ?_
    refine r_if_ne 24 dX7_comes_19 (by decide) hf (fun c40 hf => ?_) (fun c40 hf => ?_)
    · refine r_aload_n dX7_comes_24 rfl ?_
      refine r_getR (E := (0, 6, 14)) dX7_comes_25 sh_0 ft_X7_77 rfl hf fun y3 hy3 hf => ?_
      refine r_getI dX7_comes_28 hy3 ft_X7_154 rfl ?_
      refine r_if_ne 37 dX7_comes_31 (by decide) hf (fun c39 hf => ?_) (fun c39 hf => ?_)
      · refine r_aload_n dX7_comes_37 rfl ?_
        refine r_getS (b := 1) dX7_comes_38 sh_0 ft_X7_14 rfl rfl ?_
        refine r_iload_n dX7_comes_41 rfl ?_
        obtain ⟨v4, hv, hf⟩ := bnd hf
        refine r_callV (lv := 1) dX7_comes_42 yo_X4_holds yi_X4_holds ml_X7_122 ya_X4_holds sh_1 ⟨_, rfl, rfl⟩ (Fits.vm (by decide)) rfl rfl (Nat.le_of_ble_eq_true rfl) (S_X4_holds 1 x1_ sh_1 h  _ hv) ?_
        refine r_jn (P := fun t5 => Run Y_X7_comes (VM 6 (some (.int r.1), r.2)) 59 [some (.ref 0), some (.int x1_), some (.int x2_), none, none, none] [] h) hf (fun t5 hf => ?_) (fun j6 ih7 hf => ?_)
        · refine r_aload_n dX7_comes_59 rfl ?_
          refine r_iconst (v := 1) dX7_comes_60 (by decide) ?_
          obtain ⟨v8, hv, hf⟩ := bnd hf
          refine r_callV (lv := 1) dX7_comes_61 yo_X7_found yi_X7_found ml_X7_118 ya_X7_found sh_0 ⟨_, rfl, rfl⟩ (Fits.vm (by decide)) rfl rfl (Nat.le_of_ble_eq_true rfl) (S_X7_found (1 : Int32) h  _ hv) ?_
          exact e_iH dX7_comes_64 rfl hf
        refine r_if_eq 59 dX7_comes_45 (by decide) hf (fun c38 hf => ?_) (fun c38 hf => ?_)
        · exact ih7 _ hf
        · refine r_aload_n dX7_comes_48 rfl ?_
          refine r_getS (b := 1) dX7_comes_49 sh_0 ft_X7_14 rfl rfl ?_
          refine r_iload_n dX7_comes_52 rfl ?_
          obtain ⟨v9, hv, hf⟩ := bnd hf
          refine r_callV (lv := 1) dX7_comes_53 yo_X4_holds yi_X4_holds ml_X7_122 ya_X4_holds sh_1 ⟨_, rfl, rfl⟩ (Fits.vm (by decide)) rfl rfl (Nat.le_of_ble_eq_true rfl) (S_X4_holds 1 x2_ sh_1 h  _ hv) ?_
          refine r_if_ne 65 dX7_comes_56 (by decide) hf (fun c37 hf => ?_) (fun c37 hf => ?_)
          · refine r_aload_n dX7_comes_65 rfl ?_
            refine r_getS (b := 1) dX7_comes_66 sh_0 ft_X7_14 rfl rfl ?_
            refine r_iload_n dX7_comes_69 rfl ?_
            obtain ⟨v10, hv, hf⟩ := bnd hf
            refine r_callV (lv := 2) dX7_comes_70 yo_X4_size yi_X4_size ml_X7_133 ya_X4_size sh_1 ⟨_, rfl, rfl⟩ (Fits.vm (by decide)) rfl rfl (Nat.le_of_ble_eq_true rfl) (S_X4_size 1 x1_ sh_1 h  _ hv) ?_
            refine r_aload_n dX7_comes_73 rfl ?_
            refine r_getR (E := (0, 6, 14)) dX7_comes_74 sh_0 ft_X7_77 rfl hf fun y11 hy11 hf => ?_
            refine r_getI dX7_comes_77 hy11 ft_X7_154 rfl ?_
            refine r_jn (P := fun t12 => Run Y_X7_comes (VM 6 (some (.int r.1), r.2)) 101 [some (.ref 0), some (.int x1_), some (.int x2_), none, none, none] [] h) hf (fun t12 hf => ?_) (fun j13 ih14 hf => ?_)
            · refine r_aload_n dX7_comes_101 rfl ?_
              refine r_iconst (v := 5) dX7_comes_102 (by decide) ?_
              obtain ⟨v15, hv, hf⟩ := bnd hf
              refine r_callV (lv := 1) dX7_comes_103 yo_X7_found yi_X7_found ml_X7_118 ya_X7_found sh_0 ⟨_, rfl, rfl⟩ (Fits.vm (by decide)) rfl rfl (Nat.le_of_ble_eq_true rfl) (S_X7_found (5 : Int32) h  _ hv) ?_
              exact e_iH dX7_comes_106 rfl hf
            refine r_icmp_ne 101 dX7_comes_80 (by decide) hf (fun c36 hf => ?_) (fun c36 hf => ?_)
            · exact ih14 _ hf
            · refine r_aload_n dX7_comes_83 rfl ?_
              refine r_getS (b := 1) dX7_comes_84 sh_0 ft_X7_14 rfl rfl ?_
              refine r_iload_n dX7_comes_87 rfl ?_
              obtain ⟨v16, hv, hf⟩ := bnd hf
              refine r_callV (lv := 2) dX7_comes_88 yo_X4_size yi_X4_size ml_X7_133 ya_X4_size sh_1 ⟨_, rfl, rfl⟩ (Fits.vm (by decide)) rfl rfl (Nat.le_of_ble_eq_true rfl) (S_X4_size 1 x2_ sh_1 h  _ hv) ?_
              refine r_aload_n dX7_comes_91 rfl ?_
              refine r_getR (E := (0, 6, 14)) dX7_comes_92 sh_0 ft_X7_77 rfl hf fun y17 hy17 hf => ?_
              refine r_getI dX7_comes_95 hy17 ft_X7_154 rfl ?_
              refine r_icmp_eq 107 dX7_comes_98 (by decide) hf (fun c35 hf => ?_) (fun c35 hf => ?_)
              · refine r_aload_n dX7_comes_107 rfl ?_
                refine r_iload_n dX7_comes_108 rfl ?_
                obtain ⟨v18, hv, hf⟩ := bnd hf
                refine r_callV (lv := 5) dX7_comes_109 yo_X7_soundStand yi_X7_soundStand ml_X7_262 ya_X7_soundStand sh_0 ⟨_, rfl, rfl⟩ (Fits.vm (by decide)) rfl rfl (Nat.le_of_ble_eq_true rfl) (S_X7_soundStand F x1_ h  _ hv) ?_
                refine r_istore_nA dX7_comes_112 (by decide) ?_
                refine r_aload_n dX7_comes_113 rfl ?_
                refine r_iload_n dX7_comes_114 rfl ?_
                obtain ⟨v19, hv, hf⟩ := bnd hf
                refine r_callV (lv := 5) dX7_comes_115 yo_X7_soundStand yi_X7_soundStand ml_X7_262 ya_X7_soundStand sh_0 ⟨_, rfl, rfl⟩ (Fits.vm (by decide)) rfl rfl (Nat.le_of_ble_eq_true rfl) (S_X7_soundStand F x2_ h  _ hv) ?_
                refine r_istoreA dX7_comes_118 (by decide) ?_
                refine r_iload_n dX7_comes_120 rfl ?_
                refine r_bipush (v := -9) dX7_comes_121 (by decide) ?_
                refine r_jn (P := fun t20 => Run Y_X7_comes (VM 6 (some (.int r.1), r.2)) 133 [some (.ref 0), some (.int x1_), some (.int x2_), some (.int v18), some (.int v19), none] [] h) hf (fun t20 hf => ?_) (fun j21 ih22 hf => ?_)
                · refine r_aload_n dX7_comes_133 rfl ?_
                  refine r_iconst (v := 3) dX7_comes_134 (by decide) ?_
                  obtain ⟨v23, hv, hf⟩ := bnd hf
                  refine r_callV (lv := 1) dX7_comes_135 yo_X7_found yi_X7_found ml_X7_118 ya_X7_found sh_0 ⟨_, rfl, rfl⟩ (Fits.vm (by decide)) rfl rfl (Nat.le_of_ble_eq_true rfl) (S_X7_found (3 : Int32) h  _ hv) ?_
                  exact e_iH dX7_comes_138 rfl hf
                refine r_icmp_eq 133 dX7_comes_123 (by decide) hf (fun c34 hf => ?_) (fun c34 hf => ?_)
                · exact ih22 _ hf
                · refine r_iload dX7_comes_126 rfl ?_
                  refine r_bipush (v := -9) dX7_comes_128 (by decide) ?_
                  refine r_icmp_ne 139 dX7_comes_130 (by decide) hf (fun c33 hf => ?_) (fun c33 hf => ?_)
                  · refine r_aload_n dX7_comes_139 rfl ?_
                    refine r_getS (b := 23) dX7_comes_140 sh_0 ft_X7_51 rfl rfl ?_
                    refine r_iload_n dX7_comes_143 rfl ?_
                    obtain ⟨h24, hv, hf⟩ := bnd hf
                    refine r_callV (lv := 2) dX7_comes_144 yo_X3_begin yi_X3_begin ml_X7_245 ya_X3_begin sh_23 ⟨_, rfl, rfl⟩ (Fits.vm (by decide)) rfl rfl (Nat.le_of_ble_eq_true rfl) (S_X3_begin F v18 h  _ hv) ?_
                    refine r_iconst (v := 0) dX7_comes_147 (by decide) ?_
                    refine r_istoreA dX7_comes_148 (by decide) ?_
                    refine r_fix (σ := Int32 × Hp) (fun s25 => [some (.ref 0), some (.int x1_), some (.int x2_), some (.int v18), some (.int v19), some (.int s25.1)]) (fun s25 => s25.2) (fun self26 ih27 s25 hf => ?_) F ((0 : Int32), h24) hf
                    refine r_iload dX7_comes_150 rfl ?_
                    refine r_sipush (v := 11880) dX7_comes_152 (by decide) ?_
                    refine r_icmp_ge 192 dX7_comes_155 (by decide) hf (fun c32 hf => ?_) (fun c32 hf => ?_)
                    · refine r_iconst (v := 0) dX7_comes_192 (by decide) ?_
                      exact e_iH dX7_comes_193 rfl hf
                    · refine r_aload_n dX7_comes_158 rfl ?_
                      refine r_getS (b := 23) dX7_comes_159 sh_0 ft_X7_51 rfl rfl ?_
                      refine r_iload dX7_comes_162 rfl ?_
                      obtain ⟨v28, hv, hf⟩ := bnd hf
                      refine r_callV (lv := 5) dX7_comes_164 yo_X3_finds yi_X3_finds ml_X7_248 ya_X3_finds sh_23 ⟨_, rfl, rfl⟩ (Fits.vm (by decide)) rfl rfl (Nat.le_of_ble_eq_true rfl) (S_X3_finds F s25.1 s25.2  _ hv) ?_
                      refine r_if_eq 192 dX7_comes_167 (by decide) hf (fun c31 hf => ?_) (fun c31 hf => ?_)
                      · refine r_iconst (v := 0) dX7_comes_192 (by decide) ?_
                        exact e_iH dX7_comes_193 rfl hf
                      · refine r_aload_n dX7_comes_170 rfl ?_
                        refine r_getS (b := 23) dX7_comes_171 sh_0 ft_X7_51 rfl rfl ?_
                        refine r_iload dX7_comes_174 rfl ?_
                        obtain ⟨v29, hv, hf⟩ := bnd hf
                        refine r_callV (lv := 1) dX7_comes_176 yo_X3_stand yi_X3_stand ml_X7_251 ya_X3_stand sh_23 ⟨_, rfl, rfl⟩ (Fits.vm (by decide)) rfl rfl (Nat.le_of_ble_eq_true rfl) (S_X3_stand s25.1 v28.2  _ hv) ?_
                        refine r_iload dX7_comes_179 rfl ?_
                        refine r_icmp_ne 186 dX7_comes_181 (by decide) hf (fun c30 hf => ?_) (fun c30 hf => ?_)
                        · refine r_iincA (v := 1) dX7_comes_186 rfl (by decide) (by decide) ?_
                          refine r_goto 150 dX7_comes_189 (by decide) ?_
                          exact ih27 _ hf
                        · refine r_iconst (v := 1) dX7_comes_184 (by decide) ?_
                          exact e_iH dX7_comes_185 rfl hf
                  · exact ih22 _ hf
              · exact ih14 _ hf
          · exact ih7 _ hf
      · refine r_bipush (v := -4) dX7_comes_34 (by decide) ?_
        exact e_iH dX7_comes_36 rfl hf
    · refine r_iconst (v := -1) dX7_comes_22 (by decide) ?_
      exact e_iH dX7_comes_23 rfl hf
def f_X7_refusedWants (F : Nat) (x1_ : Int32) (x2_ : Int32) (h : Hp) : Option (Int32 × Hp) :=
  (f_X7_refusedWithMen x1_ x2_ h).bind fun v1 =>
  (if v1.1 = 0 then (
    (f_X4_size 1 x1_ v1.2).bind fun v2 =>
    (if v2 ≤ (5 : Int32) then (
      fix (σ := Int32) (ρ := (Int32 × Hp)) (fun self4 s3 =>
        (f_X4_size 1 x1_ v1.2).bind fun v6 =>
        (if v6 ≤ s3 then (
          some ((0 : Int32), v1.2))
        else (
          (f_X4_get 1 x1_ s3 v1.2).bind fun v7 =>
          jn (α := (Unit) → Option (Int32 × Hp)) (fun t8 =>
            (f_X7_found (3 : Int32) v1.2).bind fun v11 =>
            some (v11.1, v11.2)) fun j9 =>
          (if v7 < 0 then (
            j9 ())
          else (
            (f_X7_isMan (v7 / (100 : Int32)) v1.2).bind fun v12 =>
            (if v12 = 0 then (
              j9 ())
            else (
              (f_X7_isCell (rem32 v7 (100 : Int32)) v1.2).bind fun v13 =>
              (if v13 = 0 then (
                j9 ())
              else (
                self4 (s3 + 1)))))))))) F (0 : Int32))
    else (
      (f_X7_found (5 : Int32) v1.2).bind fun v18 =>
      some (v18.1, v18.2))))
  else (
    some (v1.1, v1.2)))
set_option maxRecDepth 100000 in
set_option maxHeartbeats 4000000 in
theorem S_X7_refusedWants (F : Nat) (x1_ : Int32) (x2_ : Int32) (h : Hp) (r : (Int32 × Hp)) (hf : f_X7_refusedWants F x1_ x2_ h = some r) : MetP Y_X7_refusedWants 4 [.ref 0, .int x1_, .int x2_] h (some (.int r.1), r.2) := by
  unfold f_X7_refusedWants at hf
  refine met_of yo_X7_refusedWants (Nat.le_of_ble_eq_true rfl) ?_
  show Run Y_X7_refusedWants _ 0 [some (.ref 0), some (.int x1_), some (.int x2_), none, none, none] [] h
  refine r_aload_n dX7_refusedWants_0 rfl ?_
  refine r_iload_n dX7_refusedWants_1 rfl ?_
  refine r_iload_n dX7_refusedWants_2 rfl ?_
  obtain ⟨v1, hv, hf⟩ := bnd hf
  refine r_callV (lv := 2) dX7_refusedWants_3 yo_X7_refusedWithMen yi_X7_refusedWithMen ml_X7_306 ya_X7_refusedWithMen sh_0 ⟨_, rfl, rfl⟩ (Fits.vm (by decide)) rfl rfl (Nat.le_of_ble_eq_true rfl) (S_X7_refusedWithMen x1_ x2_ h  _ hv) ?_
  refine r_istore_nA dX7_refusedWants_6 (by decide) ?_
  refine r_iload_n dX7_refusedWants_7 rfl ?_
  refine r_if_eq 13 dX7_refusedWants_8 (by decide) hf (fun c20 hf => ?_) (fun c20 hf => ?_)
  · refine r_aload_n dX7_refusedWants_13 rfl ?_
    refine r_getS (b := 1) dX7_refusedWants_14 sh_0 ft_X7_14 rfl rfl ?_
    refine r_iload_n dX7_refusedWants_17 rfl ?_
    obtain ⟨v2, hv, hf⟩ := bnd hf
    refine r_callV (lv := 2) dX7_refusedWants_18 yo_X4_size yi_X4_size ml_X7_133 ya_X4_size sh_1 ⟨_, rfl, rfl⟩ (Fits.vm (by decide)) rfl rfl (Nat.le_of_ble_eq_true rfl) (S_X4_size 1 x1_ sh_1 v1.2  _ hv) ?_
    refine r_iconst (v := 5) dX7_refusedWants_21 (by decide) ?_
    refine r_icmp_le 31 dX7_refusedWants_22 (by decide) hf (fun c19 hf => ?_) (fun c19 hf => ?_)
    · refine r_iconst (v := 0) dX7_refusedWants_31 (by decide) ?_
      refine r_istoreA dX7_refusedWants_32 (by decide) ?_
      refine r_fix (σ := Int32) (fun s3 => [some (.ref 0), some (.int x1_), some (.int x2_), some (.int v1.1), some (.int s3), none]) (fun s3 => v1.2) (fun self4 ih5 s3 hf => ?_) F (0 : Int32) hf
      refine r_iload dX7_refusedWants_34 rfl ?_
      refine r_aload_n dX7_refusedWants_36 rfl ?_
      refine r_getS (b := 1) dX7_refusedWants_37 sh_0 ft_X7_14 rfl rfl ?_
      refine r_iload_n dX7_refusedWants_40 rfl ?_
      obtain ⟨v6, hv, hf⟩ := bnd hf
      refine r_callV (lv := 2) dX7_refusedWants_41 yo_X4_size yi_X4_size ml_X7_133 ya_X4_size sh_1 ⟨_, rfl, rfl⟩ (Fits.vm (by decide)) rfl rfl (Nat.le_of_ble_eq_true rfl) (S_X4_size 1 x1_ sh_1 v1.2  _ hv) ?_
      refine r_icmp_ge 100 dX7_refusedWants_44 (by decide) hf (fun c17 hf => ?_) (fun c17 hf => ?_)
      · refine r_iconst (v := 0) dX7_refusedWants_100 (by decide) ?_
        exact e_iH dX7_refusedWants_101 rfl hf
      · refine r_aload_n dX7_refusedWants_47 rfl ?_
        refine r_getS (b := 1) dX7_refusedWants_48 sh_0 ft_X7_14 rfl rfl ?_
        refine r_iload_n dX7_refusedWants_51 rfl ?_
        refine r_iload dX7_refusedWants_52 rfl ?_
        obtain ⟨v7, hv, hf⟩ := bnd hf
        refine r_callV (lv := 3) dX7_refusedWants_54 yo_X4_get yi_X4_get ml_X7_95 ya_X4_get sh_1 ⟨_, rfl, rfl⟩ (Fits.vm (by decide)) rfl rfl (Nat.le_of_ble_eq_true rfl) (S_X4_get 1 x1_ s3 sh_1 v1.2  _ hv) ?_
        refine r_istoreA dX7_refusedWants_57 (by decide) ?_
        refine r_iload dX7_refusedWants_59 rfl ?_
        refine r_jn (P := fun t8 => Run Y_X7_refusedWants (VM 4 (some (.int r.1), r.2)) 88 [some (.ref 0), some (.int x1_), some (.int x2_), some (.int v1.1), some (.int s3), some (.int v7)] [] v1.2) hf (fun t8 hf => ?_) (fun j9 ih10 hf => ?_)
        · refine r_aload_n dX7_refusedWants_88 rfl ?_
          refine r_iconst (v := 3) dX7_refusedWants_89 (by decide) ?_
          obtain ⟨v11, hv, hf⟩ := bnd hf
          refine r_callV (lv := 1) dX7_refusedWants_90 yo_X7_found yi_X7_found ml_X7_118 ya_X7_found sh_0 ⟨_, rfl, rfl⟩ (Fits.vm (by decide)) rfl rfl (Nat.le_of_ble_eq_true rfl) (S_X7_found (3 : Int32) v1.2  _ hv) ?_
          exact e_iH dX7_refusedWants_93 rfl hf
        refine r_if_lt 88 dX7_refusedWants_61 (by decide) hf (fun c16 hf => ?_) (fun c16 hf => ?_)
        · exact ih10 _ hf
        · refine r_aload_n dX7_refusedWants_64 rfl ?_
          refine r_iload dX7_refusedWants_65 rfl ?_
          refine r_bipush (v := 100) dX7_refusedWants_67 (by decide) ?_
          refine r_idivK dX7_refusedWants_69 (by decide) ?_
          obtain ⟨v12, hv, hf⟩ := bnd hf
          refine r_callV (lv := 1) dX7_refusedWants_70 yo_X7_isMan yi_X7_isMan ml_X7_157 ya_X7_isMan sh_0 ⟨_, rfl, rfl⟩ (Fits.vm (by decide)) rfl rfl (Nat.le_of_ble_eq_true rfl) (S_X7_isMan (v7 / (100 : Int32)) v1.2  _ hv) ?_
          refine r_if_eq 88 dX7_refusedWants_73 (by decide) hf (fun c15 hf => ?_) (fun c15 hf => ?_)
          · exact ih10 _ hf
          · refine r_aload_n dX7_refusedWants_76 rfl ?_
            refine r_iload dX7_refusedWants_77 rfl ?_
            refine r_bipush (v := 100) dX7_refusedWants_79 (by decide) ?_
            refine r_iremK dX7_refusedWants_81 (by decide) ?_
            obtain ⟨v13, hv, hf⟩ := bnd hf
            refine r_callV (lv := 1) dX7_refusedWants_82 yo_X7_isCell yi_X7_isCell ml_X7_222 ya_X7_isCell sh_0 ⟨_, rfl, rfl⟩ (Fits.vm (by decide)) rfl rfl (Nat.le_of_ble_eq_true rfl) (S_X7_isCell (rem32 v7 (100 : Int32)) v1.2  _ hv) ?_
            refine r_if_ne 94 dX7_refusedWants_85 (by decide) hf (fun c14 hf => ?_) (fun c14 hf => ?_)
            · refine r_iincA (v := 1) dX7_refusedWants_94 rfl (by decide) (by decide) ?_
              refine r_goto 34 dX7_refusedWants_97 (by decide) ?_
              refine r_lt (ll_s (ll_s (ll_s (ll_s (ll_s (ll_n ll_0)))))) ?_
              exact ih5 _ hf
            · exact ih10 _ hf
    · refine r_aload_n dX7_refusedWants_25 rfl ?_
      refine r_iconst (v := 5) dX7_refusedWants_26 (by decide) ?_
      obtain ⟨v18, hv, hf⟩ := bnd hf
      refine r_callV (lv := 1) dX7_refusedWants_27 yo_X7_found yi_X7_found ml_X7_118 ya_X7_found sh_0 ⟨_, rfl, rfl⟩ (Fits.vm (by decide)) rfl rfl (Nat.le_of_ble_eq_true rfl) (S_X7_found (5 : Int32) v1.2  _ hv) ?_
      exact e_iH dX7_refusedWants_30 rfl hf
  · refine r_iload_n dX7_refusedWants_11 rfl ?_
    exact e_iH dX7_refusedWants_12 rfl hf
def f_X7_fetch (F : Nat) (x1_ : Int32) (h : Hp) : Option (Int32 × Hp) :=
  (f_X7_refusedWants F x1_ x1_ h).bind fun v1 =>
  (if v1.1 = 0 then (
    (f_X5_take F 1 x1_ v1.2).bind fun h2 =>
    fix (σ := Int32 × Int32 × Int32 × Hp) (ρ := (Int32 × Hp)) (fun self4 s3 =>
      (if (gI s3.2.2.2 31 0) ≤ s3.2.2.1 then (
        nm (sI s3.2.2.2 0 14 s3.2.1) fun h6 =>
        some (s3.2.2.1, h6))
      else (
        (ldI s3.2.2.2 32 s3.2.2.1).bind fun v7 =>
        (ldI s3.2.2.2 33 s3.2.2.1).bind fun v8 =>
        (f_X3_nearest F s3.1 v7 v8 s3.2.2.2).bind fun v9 =>
        (if v9.1 = (-9 : Int32) then (
          nm (sI v9.2 0 14 s3.2.1) fun h12 =>
          some (s3.2.2.1, h12))
        else (
          (f_X3_depth v9.1 v9.2).bind fun v10 =>
          (f_X3_stand v9.1 v9.2).bind fun v11 =>
          self4 (v11, (s3.2.1 + v10), (s3.2.2.1 + 1), v9.2)))))) F ((gI h2 18 1), (0 : Int32), (0 : Int32), h2))
  else (
    some (v1.1, v1.2)))
set_option maxRecDepth 100000 in
set_option maxHeartbeats 4000000 in
theorem S_X7_fetch (F : Nat) (x1_ : Int32) (h : Hp) (r : (Int32 × Hp)) (hf : f_X7_fetch F x1_ h = some r) : MetP Y_X7_fetch 7 [.ref 0, .int x1_] h (some (.int r.1), r.2) := by
  unfold f_X7_fetch at hf
  refine met_of yo_X7_fetch (Nat.le_of_ble_eq_true rfl) ?_
  show Run Y_X7_fetch _ 0 [some (.ref 0), some (.int x1_), none, none, none, none, none] [] h
  refine r_aload_n dX7_fetch_0 rfl ?_
  refine r_iload_n dX7_fetch_1 rfl ?_
  refine r_iload_n dX7_fetch_2 rfl ?_
  obtain ⟨v1, hv, hf⟩ := bnd hf
  refine r_callV (lv := 4) dX7_fetch_3 yo_X7_refusedWants yi_X7_refusedWants ml_X7_265 ya_X7_refusedWants sh_0 ⟨_, rfl, rfl⟩ (Fits.vm (by decide)) rfl rfl (Nat.le_of_ble_eq_true rfl) (S_X7_refusedWants F x1_ x1_ h  _ hv) ?_
  refine r_istore_nA dX7_fetch_6 (by decide) ?_
  refine r_iload_n dX7_fetch_7 rfl ?_
  refine r_if_eq 13 dX7_fetch_8 (by decide) hf (fun c15 hf => ?_) (fun c15 hf => ?_)
  · refine r_aload_n dX7_fetch_13 rfl ?_
    refine r_getS (b := 31) dX7_fetch_14 sh_0 ft_X7_60 rfl rfl ?_
    refine r_aload_n dX7_fetch_17 rfl ?_
    refine r_getS (b := 1) dX7_fetch_18 sh_0 ft_X7_14 rfl rfl ?_
    refine r_iload_n dX7_fetch_21 rfl ?_
    obtain ⟨h2, hv, hf⟩ := bnd hf
    refine r_callV (lv := 4) dX7_fetch_22 yo_X5_take yi_X5_take ml_X7_268 ya_X5_take sh_31 ⟨_, rfl, rfl⟩ (Fits.vm (by decide)) rfl rfl (Nat.le_of_ble_eq_true rfl) (S_X5_take F 1 x1_ sh_1 v1.2  _ hv) ?_
    refine r_aload_n dX7_fetch_25 rfl ?_
    refine r_getS (b := 18) dX7_fetch_26 sh_0 ft_X7_31 rfl rfl ?_
    refine r_getI dX7_fetch_29 sh_18 ft_X7_199 rfl ?_
    refine r_istore_nA dX7_fetch_32 (by decide) ?_
    refine r_iconst (v := 0) dX7_fetch_33 (by decide) ?_
    refine r_istoreA dX7_fetch_34 (by decide) ?_
    refine r_iconst (v := 0) dX7_fetch_36 (by decide) ?_
    refine r_istoreA dX7_fetch_37 (by decide) ?_
    refine r_fix (σ := Int32 × Int32 × Int32 × Hp) (fun s3 => [some (.ref 0), some (.int x1_), some (.int v1.1), some (.int s3.1), some (.int s3.2.1), some (.int s3.2.2.1), none]) (fun s3 => s3.2.2.2) (fun self4 ih5 s3 hf => ?_) F ((gI h2 18 1), (0 : Int32), (0 : Int32), h2) hf
    refine r_iload dX7_fetch_39 rfl ?_
    refine r_aload_n dX7_fetch_41 rfl ?_
    refine r_getS (b := 31) dX7_fetch_42 sh_0 ft_X7_60 rfl rfl ?_
    refine r_getI dX7_fetch_45 sh_31 ft_X7_272 rfl ?_
    refine r_icmp_ge 121 dX7_fetch_48 (by decide) hf (fun c14 hf => ?_) (fun c14 hf => ?_)
    · refine r_aload_n dX7_fetch_121 rfl ?_
      refine r_iload dX7_fetch_122 rfl ?_
      refine r_putI dX7_fetch_124 sh_0 ft_X7_99 rfl hf fun h6 hf => ?_
      refine r_iload dX7_fetch_127 rfl ?_
      exact e_iH dX7_fetch_129 rfl hf
    · refine r_aload_n dX7_fetch_51 rfl ?_
      refine r_getS (b := 23) dX7_fetch_52 sh_0 ft_X7_51 rfl rfl ?_
      refine r_iload_n dX7_fetch_55 rfl ?_
      refine r_aload_n dX7_fetch_56 rfl ?_
      refine r_getS (b := 31) dX7_fetch_57 sh_0 ft_X7_60 rfl rfl ?_
      refine r_getS (b := 32) dX7_fetch_60 sh_31 ft_X7_275 rfl rfl ?_
      refine r_iload dX7_fetch_63 rfl ?_
      refine r_iald dX7_fetch_65 sh_32 hf fun v7 hf => ?_
      refine r_aload_n dX7_fetch_66 rfl ?_
      refine r_getS (b := 31) dX7_fetch_67 sh_0 ft_X7_60 rfl rfl ?_
      refine r_getS (b := 33) dX7_fetch_70 sh_31 ft_X7_277 rfl rfl ?_
      refine r_iload dX7_fetch_73 rfl ?_
      refine r_iald dX7_fetch_75 sh_33 hf fun v8 hf => ?_
      obtain ⟨v9, hv, hf⟩ := bnd hf
      refine r_callV (lv := 6) dX7_fetch_76 yo_X3_nearest yi_X3_nearest ml_X7_279 ya_X3_nearest sh_23 ⟨_, rfl, rfl⟩ (Fits.vm (by decide)) rfl rfl (Nat.le_of_ble_eq_true rfl) (S_X3_nearest F s3.1 v7 v8 s3.2.2.2  _ hv) ?_
      refine r_istoreA dX7_fetch_79 (by decide) ?_
      refine r_iload dX7_fetch_81 rfl ?_
      refine r_bipush (v := -9) dX7_fetch_83 (by decide) ?_
      refine r_icmp_ne 91 dX7_fetch_85 (by decide) hf (fun c13 hf => ?_) (fun c13 hf => ?_)
      · refine r_iload dX7_fetch_91 rfl ?_
        refine r_aload_n dX7_fetch_93 rfl ?_
        refine r_getS (b := 23) dX7_fetch_94 sh_0 ft_X7_51 rfl rfl ?_
        refine r_iload dX7_fetch_97 rfl ?_
        obtain ⟨v10, hv, hf⟩ := bnd hf
        refine r_callV (lv := 1) dX7_fetch_99 yo_X3_depth yi_X3_depth ml_X7_239 ya_X3_depth sh_23 ⟨_, rfl, rfl⟩ (Fits.vm (by decide)) rfl rfl (Nat.le_of_ble_eq_true rfl) (S_X3_depth v9.1 v9.2  _ hv) ?_
        refine r_iadd dX7_fetch_102 ?_
        refine r_istoreA dX7_fetch_103 (by decide) ?_
        refine r_aload_n dX7_fetch_105 rfl ?_
        refine r_getS (b := 23) dX7_fetch_106 sh_0 ft_X7_51 rfl rfl ?_
        refine r_iload dX7_fetch_109 rfl ?_
        obtain ⟨v11, hv, hf⟩ := bnd hf
        refine r_callV (lv := 1) dX7_fetch_111 yo_X3_stand yi_X3_stand ml_X7_251 ya_X3_stand sh_23 ⟨_, rfl, rfl⟩ (Fits.vm (by decide)) rfl rfl (Nat.le_of_ble_eq_true rfl) (S_X3_stand v9.1 v9.2  _ hv) ?_
        refine r_istore_nA dX7_fetch_114 (by decide) ?_
        refine r_iincA (v := 1) dX7_fetch_115 rfl (by decide) (by decide) ?_
        refine r_goto 39 dX7_fetch_118 (by decide) ?_
        refine r_lt (ll_s (ll_s (ll_s (ll_s (ll_s (ll_s (ll_n ll_0))))))) ?_
        exact ih5 _ hf
      · refine r_goto 121 dX7_fetch_88 (by decide) ?_
        refine r_aload_n dX7_fetch_121 rfl ?_
        refine r_iload dX7_fetch_122 rfl ?_
        refine r_putI dX7_fetch_124 sh_0 ft_X7_99 rfl hf fun h12 hf => ?_
        refine r_iload dX7_fetch_127 rfl ?_
        exact e_iH dX7_fetch_129 rfl hf
  · refine r_iload_n dX7_fetch_11 rfl ?_
    exact e_iH dX7_fetch_12 rfl hf
def f_X7_order (F : Nat) (x1_ : Int32) (x2_ : Int32) (h : Hp) : Option (Int32 × Hp) :=
  (f_X7_refusedWants F x1_ x2_ h).bind fun v1 =>
  (if v1.1 = 0 then (
    (f_X5_take F 1 x1_ v1.2).bind fun h2 =>
    (f_X5_all h2).bind fun v3 =>
    (f_X5_all h2).bind fun v4 =>
    (f_X5_arrange F 7 (0 : Int32) (gI h2 18 1) (0 : Int32) v3 v4 h2).bind fun h5 =>
    (f_X4_make F 1 x2_ (gI h5 31 0) (0 : Int32) h5).bind fun h6 =>
    fix (σ := Int32 × Hp) (ρ := (Int32 × Hp)) (fun self8 s7 =>
      (if (gI s7.2 31 0) ≤ s7.1 then (
        some ((gI s7.2 31 4), s7.2))
      else (
        (ldI s7.2 34 s7.1).bind fun v10 =>
        (f_X4_set 1 x2_ s7.1 v10 s7.2).bind fun h11 =>
        self8 ((s7.1 + 1), h11)))) F ((0 : Int32), h6))
  else (
    some (v1.1, v1.2)))
set_option maxRecDepth 100000 in
set_option maxHeartbeats 4000000 in
theorem S_X7_order (F : Nat) (x1_ : Int32) (x2_ : Int32) (h : Hp) (r : (Int32 × Hp)) (hf : f_X7_order F x1_ x2_ h = some r) : MetP Y_X7_order 15 [.ref 0, .int x1_, .int x2_] h (some (.int r.1), r.2) := by
  unfold f_X7_order at hf
  refine met_of yo_X7_order (Nat.le_of_ble_eq_true rfl) ?_
  show Run Y_X7_order _ 0 [some (.ref 0), some (.int x1_), some (.int x2_), none, none] [] h
  refine r_aload_n dX7_order_0 rfl ?_
  refine r_iload_n dX7_order_1 rfl ?_
  refine r_iload_n dX7_order_2 rfl ?_
  obtain ⟨v1, hv, hf⟩ := bnd hf
  refine r_callV (lv := 4) dX7_order_3 yo_X7_refusedWants yi_X7_refusedWants ml_X7_265 ya_X7_refusedWants sh_0 ⟨_, rfl, rfl⟩ (Fits.vm (by decide)) rfl rfl (Nat.le_of_ble_eq_true rfl) (S_X7_refusedWants F x1_ x2_ h  _ hv) ?_
  refine r_istore_nA dX7_order_6 (by decide) ?_
  refine r_iload_n dX7_order_7 rfl ?_
  refine r_if_eq 13 dX7_order_8 (by decide) hf (fun c13 hf => ?_) (fun c13 hf => ?_)
  · refine r_aload_n dX7_order_13 rfl ?_
    refine r_getS (b := 31) dX7_order_14 sh_0 ft_X7_60 rfl rfl ?_
    refine r_aload_n dX7_order_17 rfl ?_
    refine r_getS (b := 1) dX7_order_18 sh_0 ft_X7_14 rfl rfl ?_
    refine r_iload_n dX7_order_21 rfl ?_
    obtain ⟨h2, hv, hf⟩ := bnd hf
    refine r_callV (lv := 4) dX7_order_22 yo_X5_take yi_X5_take ml_X7_268 ya_X5_take sh_31 ⟨_, rfl, rfl⟩ (Fits.vm (by decide)) rfl rfl (Nat.le_of_ble_eq_true rfl) (S_X5_take F 1 x1_ sh_1 v1.2  _ hv) ?_
    refine r_aload_n dX7_order_25 rfl ?_
    refine r_getS (b := 31) dX7_order_26 sh_0 ft_X7_60 rfl rfl ?_
    refine r_iconst (v := 0) dX7_order_29 (by decide) ?_
    refine r_aload_n dX7_order_30 rfl ?_
    refine r_getS (b := 18) dX7_order_31 sh_0 ft_X7_31 rfl rfl ?_
    refine r_getI dX7_order_34 sh_18 ft_X7_199 rfl ?_
    refine r_iconst (v := 0) dX7_order_37 (by decide) ?_
    refine r_aload_n dX7_order_38 rfl ?_
    refine r_getS (b := 31) dX7_order_39 sh_0 ft_X7_60 rfl rfl ?_
    obtain ⟨v3, hv, hf⟩ := bnd hf
    refine r_callV (lv := 1) dX7_order_42 yo_X5_all yi_X5_all ml_X7_282 ya_X5_all sh_31 ⟨_, rfl, rfl⟩ (Fits.vm (by decide)) rfl rfl (Nat.le_of_ble_eq_true rfl) (S_X5_all  h2  _ hv) ?_
    refine r_aload_n dX7_order_45 rfl ?_
    refine r_getS (b := 31) dX7_order_46 sh_0 ft_X7_60 rfl rfl ?_
    obtain ⟨v4, hv, hf⟩ := bnd hf
    refine r_callV (lv := 1) dX7_order_49 yo_X5_all yi_X5_all ml_X7_282 ya_X5_all sh_31 ⟨_, rfl, rfl⟩ (Fits.vm (by decide)) rfl rfl (Nat.le_of_ble_eq_true rfl) (S_X5_all  h2  _ hv) ?_
    obtain ⟨h5, hv, hf⟩ := bnd hf
    refine r_callVN (lv := 14) dX7_order_52 yo_X5_arrange yi_X5_arrange ml_X7_285 ya_X5_arrange sh_31 ⟨_, rfl, rfl⟩ (Fits.vm (by decide)) rfl rfl (Nat.le_of_ble_eq_true rfl) (S_X5_arrange F 7 (0 : Int32) (gI h2 18 1) (0 : Int32) v3 v4 h2  _ hv) ?_
    refine r_aload_n dX7_order_55 rfl ?_
    refine r_getS (b := 1) dX7_order_56 sh_0 ft_X7_14 rfl rfl ?_
    refine r_iload_n dX7_order_59 rfl ?_
    refine r_aload_n dX7_order_60 rfl ?_
    refine r_getS (b := 31) dX7_order_61 sh_0 ft_X7_60 rfl rfl ?_
    refine r_getI dX7_order_64 sh_31 ft_X7_272 rfl ?_
    refine r_iconst (v := 0) dX7_order_67 (by decide) ?_
    obtain ⟨h6, hv, hf⟩ := bnd hf
    refine r_callV (lv := 2) dX7_order_68 yo_X4_make yi_X4_make ml_X7_242 ya_X4_make sh_1 ⟨_, rfl, rfl⟩ (Fits.vm (by decide)) rfl rfl (Nat.le_of_ble_eq_true rfl) (S_X4_make F 1 x2_ (gI h5 31 0) (0 : Int32) sh_1 h5  _ hv) ?_
    refine r_iconst (v := 0) dX7_order_71 (by decide) ?_
    refine r_istoreA dX7_order_72 (by decide) ?_
    refine r_fix (σ := Int32 × Hp) (fun s7 => [some (.ref 0), some (.int x1_), some (.int x2_), some (.int v1.1), some (.int s7.1)]) (fun s7 => s7.2) (fun self8 ih9 s7 hf => ?_) F ((0 : Int32), h6) hf
    refine r_iload dX7_order_74 rfl ?_
    refine r_aload_n dX7_order_76 rfl ?_
    refine r_getS (b := 31) dX7_order_77 sh_0 ft_X7_60 rfl rfl ?_
    refine r_getI dX7_order_80 sh_31 ft_X7_272 rfl ?_
    refine r_icmp_ge 112 dX7_order_83 (by decide) hf (fun c12 hf => ?_) (fun c12 hf => ?_)
    · refine r_aload_n dX7_order_112 rfl ?_
      refine r_getS (b := 31) dX7_order_113 sh_0 ft_X7_60 rfl rfl ?_
      refine r_getI dX7_order_116 sh_31 ft_X7_291 rfl ?_
      exact e_iH dX7_order_119 rfl hf
    · refine r_aload_n dX7_order_86 rfl ?_
      refine r_getS (b := 1) dX7_order_87 sh_0 ft_X7_14 rfl rfl ?_
      refine r_iload_n dX7_order_90 rfl ?_
      refine r_iload dX7_order_91 rfl ?_
      refine r_aload_n dX7_order_93 rfl ?_
      refine r_getS (b := 31) dX7_order_94 sh_0 ft_X7_60 rfl rfl ?_
      refine r_getS (b := 34) dX7_order_97 sh_31 ft_X7_288 rfl rfl ?_
      refine r_iload dX7_order_100 rfl ?_
      refine r_iald dX7_order_102 sh_34 hf fun v10 hf => ?_
      obtain ⟨h11, hv, hf⟩ := bnd hf
      refine r_callV (lv := 3) dX7_order_103 yo_X4_set yi_X4_set ml_X7_103 ya_X4_set sh_1 ⟨_, rfl, rfl⟩ (Fits.vm (by decide)) rfl rfl (Nat.le_of_ble_eq_true rfl) (S_X4_set 1 x2_ s7.1 v10 sh_1 s7.2  _ hv) ?_
      refine r_iincA (v := 1) dX7_order_106 rfl (by decide) (by decide) ?_
      refine r_goto 74 dX7_order_109 (by decide) ?_
      exact ih9 _ hf
  · refine r_iload_n dX7_order_11 rfl ?_
    exact e_iH dX7_order_12 rfl hf
def f_X7_refusedKeys (F : Nat) (x1_ : Int32) (h : Hp) : Option (Int32 × Hp) :=
  (f_X4_holds 1 x1_ h).bind fun v1 =>
  (if v1 = 0 then (
    (f_X7_found (1 : Int32) h).bind fun v18 =>
    some (v18.1, v18.2))
  else (
    (f_X4_size 1 x1_ h).bind fun v2 =>
    (if v2 ≤ (8 : Int32) then (
      fix (σ := Int32) (ρ := (Int32 × Hp)) (fun self4 s3 =>
        (f_X4_size 1 x1_ h).bind fun v6 =>
        (if v6 ≤ s3 then (
          some ((0 : Int32), h))
        else (
          (f_X4_get 1 x1_ s3 h).bind fun v7 =>
          jn (α := (Unit) → Option (Int32 × Hp)) (fun t8 =>
            (f_X7_found (3 : Int32) h).bind fun v11 =>
            some (v11.1, v11.2)) fun j9 =>
          (if v7 < 0 then (
            j9 ())
          else (
            (gO h 0 11 (0, 6, 14)).bind fun y12 =>
            (if v7 < ((1 : Int32) <<< ((gI h y12 5) &&& 31)) then (
              self4 (s3 + 1))
            else (
              j9 ()))))))) F (0 : Int32))
    else (
      (f_X7_found (5 : Int32) h).bind fun v16 =>
      some (v16.1, v16.2)))))
set_option maxRecDepth 100000 in
set_option maxHeartbeats 4000000 in
theorem S_X7_refusedKeys (F : Nat) (x1_ : Int32) (h : Hp) (r : (Int32 × Hp)) (hf : f_X7_refusedKeys F x1_ h = some r) : MetP Y_X7_refusedKeys 4 [.ref 0, .int x1_] h (some (.int r.1), r.2) := by
  unfold f_X7_refusedKeys at hf
  refine met_of yo_X7_refusedKeys (Nat.le_of_ble_eq_true rfl) ?_
  show Run Y_X7_refusedKeys _ 0 [some (.ref 0), some (.int x1_), none, none] [] h
  refine r_aload_n dX7_refusedKeys_0 rfl ?_
  refine r_getS (b := 1) dX7_refusedKeys_1 sh_0 ft_X7_14 rfl rfl ?_
  refine r_iload_n dX7_refusedKeys_4 rfl ?_
  obtain ⟨v1, hv, hf⟩ := bnd hf
  refine r_callV (lv := 1) dX7_refusedKeys_5 yo_X4_holds yi_X4_holds ml_X7_122 ya_X4_holds sh_1 ⟨_, rfl, rfl⟩ (Fits.vm (by decide)) rfl rfl (Nat.le_of_ble_eq_true rfl) (S_X4_holds 1 x1_ sh_1 h  _ hv) ?_
  refine r_if_ne 17 dX7_refusedKeys_8 (by decide) hf (fun c19 hf => ?_) (fun c19 hf => ?_)
  · refine r_aload_n dX7_refusedKeys_17 rfl ?_
    refine r_getS (b := 1) dX7_refusedKeys_18 sh_0 ft_X7_14 rfl rfl ?_
    refine r_iload_n dX7_refusedKeys_21 rfl ?_
    obtain ⟨v2, hv, hf⟩ := bnd hf
    refine r_callV (lv := 2) dX7_refusedKeys_22 yo_X4_size yi_X4_size ml_X7_133 ya_X4_size sh_1 ⟨_, rfl, rfl⟩ (Fits.vm (by decide)) rfl rfl (Nat.le_of_ble_eq_true rfl) (S_X4_size 1 x1_ sh_1 h  _ hv) ?_
    refine r_bipush (v := 8) dX7_refusedKeys_25 (by decide) ?_
    refine r_icmp_le 36 dX7_refusedKeys_27 (by decide) hf (fun c17 hf => ?_) (fun c17 hf => ?_)
    · refine r_iconst (v := 0) dX7_refusedKeys_36 (by decide) ?_
      refine r_istore_nA dX7_refusedKeys_37 (by decide) ?_
      refine r_fix (σ := Int32) (fun s3 => [some (.ref 0), some (.int x1_), some (.int s3), none]) (fun s3 => h) (fun self4 ih5 s3 hf => ?_) F (0 : Int32) hf
      refine r_iload_n dX7_refusedKeys_38 rfl ?_
      refine r_aload_n dX7_refusedKeys_39 rfl ?_
      refine r_getS (b := 1) dX7_refusedKeys_40 sh_0 ft_X7_14 rfl rfl ?_
      refine r_iload_n dX7_refusedKeys_43 rfl ?_
      obtain ⟨v6, hv, hf⟩ := bnd hf
      refine r_callV (lv := 2) dX7_refusedKeys_44 yo_X4_size yi_X4_size ml_X7_133 ya_X4_size sh_1 ⟨_, rfl, rfl⟩ (Fits.vm (by decide)) rfl rfl (Nat.le_of_ble_eq_true rfl) (S_X4_size 1 x1_ sh_1 h  _ hv) ?_
      refine r_icmp_ge 89 dX7_refusedKeys_47 (by decide) hf (fun c15 hf => ?_) (fun c15 hf => ?_)
      · refine r_iconst (v := 0) dX7_refusedKeys_89 (by decide) ?_
        exact e_iH dX7_refusedKeys_90 rfl hf
      · refine r_aload_n dX7_refusedKeys_50 rfl ?_
        refine r_getS (b := 1) dX7_refusedKeys_51 sh_0 ft_X7_14 rfl rfl ?_
        refine r_iload_n dX7_refusedKeys_54 rfl ?_
        refine r_iload_n dX7_refusedKeys_55 rfl ?_
        obtain ⟨v7, hv, hf⟩ := bnd hf
        refine r_callV (lv := 3) dX7_refusedKeys_56 yo_X4_get yi_X4_get ml_X7_95 ya_X4_get sh_1 ⟨_, rfl, rfl⟩ (Fits.vm (by decide)) rfl rfl (Nat.le_of_ble_eq_true rfl) (S_X4_get 1 x1_ s3 sh_1 h  _ hv) ?_
        refine r_istore_nA dX7_refusedKeys_59 (by decide) ?_
        refine r_iload_n dX7_refusedKeys_60 rfl ?_
        refine r_jn (P := fun t8 => Run Y_X7_refusedKeys (VM 4 (some (.int r.1), r.2)) 77 [some (.ref 0), some (.int x1_), some (.int s3), some (.int v7)] [] h) hf (fun t8 hf => ?_) (fun j9 ih10 hf => ?_)
        · refine r_aload_n dX7_refusedKeys_77 rfl ?_
          refine r_iconst (v := 3) dX7_refusedKeys_78 (by decide) ?_
          obtain ⟨v11, hv, hf⟩ := bnd hf
          refine r_callV (lv := 1) dX7_refusedKeys_79 yo_X7_found yi_X7_found ml_X7_118 ya_X7_found sh_0 ⟨_, rfl, rfl⟩ (Fits.vm (by decide)) rfl rfl (Nat.le_of_ble_eq_true rfl) (S_X7_found (3 : Int32) h  _ hv) ?_
          exact e_iH dX7_refusedKeys_82 rfl hf
        refine r_if_lt 77 dX7_refusedKeys_61 (by decide) hf (fun c14 hf => ?_) (fun c14 hf => ?_)
        · exact ih10 _ hf
        · refine r_iload_n dX7_refusedKeys_64 rfl ?_
          refine r_iconst (v := 1) dX7_refusedKeys_65 (by decide) ?_
          refine r_aload_n dX7_refusedKeys_66 rfl ?_
          refine r_getR (E := (0, 6, 14)) dX7_refusedKeys_67 sh_0 ft_X7_77 rfl hf fun y12 hy12 hf => ?_
          refine r_getI dX7_refusedKeys_70 hy12 ft_X7_348 rfl ?_
          refine r_ishl dX7_refusedKeys_73 ?_
          refine r_icmp_lt 83 dX7_refusedKeys_74 (by decide) hf (fun c13 hf => ?_) (fun c13 hf => ?_)
          · refine r_iincA (v := 1) dX7_refusedKeys_83 rfl (by decide) (by decide) ?_
            refine r_goto 38 dX7_refusedKeys_86 (by decide) ?_
            refine r_lt (ll_s (ll_s (ll_s (ll_n ll_0)))) ?_
            exact ih5 _ hf
          · exact ih10 _ hf
    · refine r_aload_n dX7_refusedKeys_30 rfl ?_
      refine r_iconst (v := 5) dX7_refusedKeys_31 (by decide) ?_
      obtain ⟨v16, hv, hf⟩ := bnd hf
      refine r_callV (lv := 1) dX7_refusedKeys_32 yo_X7_found yi_X7_found ml_X7_118 ya_X7_found sh_0 ⟨_, rfl, rfl⟩ (Fits.vm (by decide)) rfl rfl (Nat.le_of_ble_eq_true rfl) (S_X7_found (5 : Int32) h  _ hv) ?_
      exact e_iH dX7_refusedKeys_35 rfl hf
  · refine r_aload_n dX7_refusedKeys_11 rfl ?_
    refine r_iconst (v := 1) dX7_refusedKeys_12 (by decide) ?_
    obtain ⟨v18, hv, hf⟩ := bnd hf
    refine r_callV (lv := 1) dX7_refusedKeys_13 yo_X7_found yi_X7_found ml_X7_118 ya_X7_found sh_0 ⟨_, rfl, rfl⟩ (Fits.vm (by decide)) rfl rfl (Nat.le_of_ble_eq_true rfl) (S_X7_found (1 : Int32) h  _ hv) ?_
    exact e_iH dX7_refusedKeys_16 rfl hf
def f_X7_opened (F : Nat) (x1_ : Int32) (x2_ : Int32) (h : Hp) : Option Int32 :=
  fix (σ := Int32 × Int32) (ρ := Int32) (fun self2 s1 =>
    (f_X4_size 1 x1_ h).bind fun v4 =>
    (if v4 ≤ s1.2 then (
      some s1.1)
    else (
      (Option.bind (α := Int32) (
        (if ((x2_ >>> (s1.2 &&& 31)) &&& (1 : Int32)) = (1 : Int32) then (
          (f_X4_get 1 x1_ s1.2 h).bind fun v7 =>
          some (s1.1 ||| v7))
        else (
          some s1.1))) fun t5 =>
      self2 (t5, (s1.2 + 1)))))) F ((0 : Int32), (0 : Int32))
set_option maxRecDepth 100000 in
set_option maxHeartbeats 4000000 in
theorem S_X7_opened (F : Nat) (x1_ : Int32) (x2_ : Int32) (h : Hp) (r : Int32) (hf : f_X7_opened F x1_ x2_ h = some r) : MetP Y_X7_opened 4 [.ref 0, .int x1_, .int x2_] h (some (.int r), h) := by
  unfold f_X7_opened at hf
  refine met_of yo_X7_opened (Nat.le_of_ble_eq_true rfl) ?_
  show Run Y_X7_opened _ 0 [some (.ref 0), some (.int x1_), some (.int x2_), none, none] [] h
  refine r_iconst (v := 0) dX7_opened_0 (by decide) ?_
  refine r_istore_nA dX7_opened_1 (by decide) ?_
  refine r_iconst (v := 0) dX7_opened_2 (by decide) ?_
  refine r_istoreA dX7_opened_3 (by decide) ?_
  refine r_fix (σ := Int32 × Int32) (fun s1 => [some (.ref 0), some (.int x1_), some (.int x2_), some (.int s1.1), some (.int s1.2)]) (fun s1 => h) (fun self2 ih3 s1 hf => ?_) F ((0 : Int32), (0 : Int32)) hf
  refine r_iload dX7_opened_5 rfl ?_
  refine r_aload_n dX7_opened_7 rfl ?_
  refine r_getS (b := 1) dX7_opened_8 sh_0 ft_X7_14 rfl rfl ?_
  refine r_iload_n dX7_opened_11 rfl ?_
  obtain ⟨v4, hv, hf⟩ := bnd hf
  refine r_callV (lv := 2) dX7_opened_12 yo_X4_size yi_X4_size ml_X7_133 ya_X4_size sh_1 ⟨_, rfl, rfl⟩ (Fits.vm (by decide)) rfl rfl (Nat.le_of_ble_eq_true rfl) (S_X4_size 1 x1_ sh_1 h  _ hv) ?_
  refine r_icmp_ge 47 dX7_opened_15 (by decide) hf (fun c9 hf => ?_) (fun c9 hf => ?_)
  · refine r_iload_n dX7_opened_47 rfl ?_
    exact e_iP dX7_opened_48 rfl hf
  · refine r_iload_n dX7_opened_18 rfl ?_
    refine r_iload dX7_opened_19 rfl ?_
    refine r_ishr dX7_opened_21 ?_
    refine r_iconst (v := 1) dX7_opened_22 (by decide) ?_
    refine r_iand dX7_opened_23 ?_
    refine r_iconst (v := 1) dX7_opened_24 (by decide) ?_
    refine r_reg (P := fun t5 => Run Y_X7_opened (VM 4 (some (.int r), h)) 41 [some (.ref 0), some (.int x1_), some (.int x2_), some (.int t5), some (.int s1.2)] [] h) hf (fun t5 hf => ?_) (fun t5 key6 hf => ?_)
    · refine r_iincA (v := 1) dX7_opened_41 rfl (by decide) (by decide) ?_
      refine r_goto 5 dX7_opened_44 (by decide) ?_
      exact ih3 _ hf
    · refine r_icmp_ne 41 dX7_opened_25 (by decide) hf (fun c8 hf => ?_) (fun c8 hf => ?_)
      · cases hf; exact key6
      · refine r_iload_n dX7_opened_28 rfl ?_
        refine r_aload_n dX7_opened_29 rfl ?_
        refine r_getS (b := 1) dX7_opened_30 sh_0 ft_X7_14 rfl rfl ?_
        refine r_iload_n dX7_opened_33 rfl ?_
        refine r_iload dX7_opened_34 rfl ?_
        obtain ⟨v7, hv, hf⟩ := bnd hf
        refine r_callV (lv := 3) dX7_opened_36 yo_X4_get yi_X4_get ml_X7_95 ya_X4_get sh_1 ⟨_, rfl, rfl⟩ (Fits.vm (by decide)) rfl rfl (Nat.le_of_ble_eq_true rfl) (S_X4_get 1 x1_ s1.2 sh_1 h  _ hv) ?_
        refine r_ior dX7_opened_39 ?_
        refine r_istore_nA dX7_opened_40 (by decide) ?_
        cases hf; exact key6
