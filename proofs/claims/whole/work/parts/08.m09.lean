def f_X7_fewestKeys (F : Nat) (x1_ : Int32) (x2_ : Int32) (h : Hp) : Option (Int32 × Hp) :=
  fix (σ := Int32 × Int32) (ρ := (Int32 × Hp)) (fun self2 s1 =>
    (f_X4_size 1 x1_ h).bind fun v4 =>
    (if ((1 : Int32) <<< (v4 &&& 31)) ≤ s1.2 then (
      (if s1.1 = (-9 : Int32) then (
        some ((-9 : Int32), h))
      else (
        nm (sI h 0 14 s1.1) fun h5 =>
        (f_J6_bitCount_0f7a4 s1.1 h5).bind fun v6 =>
        some (v6, h5))))
    else (
      (Option.bind (α := Int32) (
        (if s1.1 = (-9 : Int32) then (
          some (1 : Int32))
        else (
          (f_J6_bitCount_0f7a4 s1.2 h).bind fun v10 =>
          (f_J6_bitCount_0f7a4 s1.1 h).bind fun v11 =>
          (if v11 ≤ v10 then (
            some (0 : Int32))
          else (
            some (1 : Int32)))))) fun t8 =>
      (Option.bind (α := Int32) (
        (if t8 = 0 then (
          some s1.1)
        else (
          (f_X7_opened F x1_ s1.2 h).bind fun v16 =>
          (if (v16 &&& x2_) = x2_ then (
            some s1.2)
          else (
            some s1.1))))) fun t14 =>
      self2 (t14, (s1.2 + 1))))))) F ((-9 : Int32), (0 : Int32))
set_option maxRecDepth 100000 in
set_option maxHeartbeats 4000000 in
theorem S_X7_fewestKeys (F : Nat) (x1_ : Int32) (x2_ : Int32) (h : Hp) (r : (Int32 × Hp)) (hf : f_X7_fewestKeys F x1_ x2_ h = some r) : MetP Y_X7_fewestKeys 5 [.ref 0, .int x1_, .int x2_] h (some (.int r.1), r.2) := by
  unfold f_X7_fewestKeys at hf
  refine met_of yo_X7_fewestKeys (Nat.le_of_ble_eq_true rfl) ?_
  show Run Y_X7_fewestKeys _ 0 [some (.ref 0), some (.int x1_), some (.int x2_), none, none, none] [] h
  refine r_bipush (v := -9) dX7_fewestKeys_0 (by decide) ?_
  refine r_istore_nA dX7_fewestKeys_2 (by decide) ?_
  refine r_iconst (v := 0) dX7_fewestKeys_3 (by decide) ?_
  refine r_istoreA dX7_fewestKeys_4 (by decide) ?_
  refine r_fix (σ := Int32 × Int32) (fun s1 => [some (.ref 0), some (.int x1_), some (.int x2_), some (.int s1.1), some (.int s1.2), none]) (fun s1 => h) (fun self2 ih3 s1 hf => ?_) F ((-9 : Int32), (0 : Int32)) hf
  refine r_iload dX7_fewestKeys_6 rfl ?_
  refine r_iconst (v := 1) dX7_fewestKeys_8 (by decide) ?_
  refine r_aload_n dX7_fewestKeys_9 rfl ?_
  refine r_getS (b := 1) dX7_fewestKeys_10 sh_0 ft_X7_14 rfl rfl ?_
  refine r_iload_n dX7_fewestKeys_13 rfl ?_
  obtain ⟨v4, hv, hf⟩ := bnd hf
  refine r_callV (lv := 2) dX7_fewestKeys_14 yo_X4_size yi_X4_size ml_X7_133 ya_X4_size sh_1 ⟨_, rfl, rfl⟩ (Fits.vm (by decide)) rfl rfl (Nat.le_of_ble_eq_true rfl) (S_X4_size 1 x1_ sh_1 h  _ hv) ?_
  refine r_ishl dX7_fewestKeys_17 ?_
  refine r_icmp_ge 73 dX7_fewestKeys_18 (by decide) hf (fun c19 hf => ?_) (fun c19 hf => ?_)
  · refine r_iload_n dX7_fewestKeys_73 rfl ?_
    refine r_bipush (v := -9) dX7_fewestKeys_74 (by decide) ?_
    refine r_icmp_ne 82 dX7_fewestKeys_76 (by decide) hf (fun c7 hf => ?_) (fun c7 hf => ?_)
    · refine r_aload_n dX7_fewestKeys_82 rfl ?_
      refine r_iload_n dX7_fewestKeys_83 rfl ?_
      refine r_putI dX7_fewestKeys_84 sh_0 ft_X7_99 rfl hf fun h5 hf => ?_
      refine r_iload_n dX7_fewestKeys_87 rfl ?_
      obtain ⟨v6, hv, hf⟩ := bnd hf
      refine r_callS (lv := 1) dX7_fewestKeys_88 yo_J6_bitCount_0f7a4 ys_J6_bitCount_0f7a4 ml_X7_179 ya_J6_bitCount_0f7a4 (Fits.vm (by decide)) rfl rfl (Nat.le_of_ble_eq_true rfl) (S_J6_bitCount_0f7a4 s1.1 h5  _ hv) ?_
      exact e_iH dX7_fewestKeys_91 rfl hf
    · refine r_bipush (v := -9) dX7_fewestKeys_79 (by decide) ?_
      exact e_iH dX7_fewestKeys_81 rfl hf
  · refine r_iload_n dX7_fewestKeys_21 rfl ?_
    refine r_bipush (v := -9) dX7_fewestKeys_22 (by decide) ?_
    refine r_reg (P := fun t8 => Run Y_X7_fewestKeys (VM 5 (some (.int r.1), r.2)) 44 [some (.ref 0), some (.int x1_), some (.int x2_), some (.int s1.1), some (.int s1.2), none] [.int t8] h) hf (fun t8 hf => ?_) (fun t8 key9 hf => ?_)
    · refine r_istoreA dX7_fewestKeys_44 (by decide) ?_
      refine r_iload dX7_fewestKeys_46 rfl ?_
      refine r_reg (P := fun t14 => Run Y_X7_fewestKeys (VM 5 (some (.int r.1), r.2)) 67 [some (.ref 0), some (.int x1_), some (.int x2_), some (.int t14), some (.int s1.2), some (.int t8)] [] h) hf (fun t14 hf => ?_) (fun t14 key15 hf => ?_)
      · refine r_iincA (v := 1) dX7_fewestKeys_67 rfl (by decide) (by decide) ?_
        refine r_goto 6 dX7_fewestKeys_70 (by decide) ?_
        refine r_lt (ll_s (ll_s (ll_s (ll_s (ll_s (ll_n ll_0)))))) ?_
        exact ih3 _ hf
      · refine r_if_eq 67 dX7_fewestKeys_48 (by decide) hf (fun c18 hf => ?_) (fun c18 hf => ?_)
        · cases hf; exact key15
        · refine r_aload_n dX7_fewestKeys_51 rfl ?_
          refine r_iload_n dX7_fewestKeys_52 rfl ?_
          refine r_iload dX7_fewestKeys_53 rfl ?_
          obtain ⟨v16, hv, hf⟩ := bnd hf
          refine r_callV (lv := 4) dX7_fewestKeys_55 yo_X7_opened yi_X7_opened ml_X7_417 ya_X7_opened sh_0 ⟨_, rfl, rfl⟩ (Fits.vm (by decide)) rfl rfl (Nat.le_of_ble_eq_true rfl) (S_X7_opened F x1_ s1.2 h  _ hv) ?_
          refine r_iload_n dX7_fewestKeys_58 rfl ?_
          refine r_iand dX7_fewestKeys_59 ?_
          refine r_iload_n dX7_fewestKeys_60 rfl ?_
          refine r_icmp_ne 67 dX7_fewestKeys_61 (by decide) hf (fun c17 hf => ?_) (fun c17 hf => ?_)
          · cases hf; exact key15
          · refine r_iload dX7_fewestKeys_64 rfl ?_
            refine r_istore_nA dX7_fewestKeys_66 (by decide) ?_
            cases hf; exact key15
    · refine r_icmp_eq 39 dX7_fewestKeys_24 (by decide) hf (fun c13 hf => ?_) (fun c13 hf => ?_)
      · refine r_iconst (v := 1) dX7_fewestKeys_39 (by decide) ?_
        refine r_goto 44 dX7_fewestKeys_40 (by decide) ?_
        cases hf; exact key9
      · refine r_iload dX7_fewestKeys_27 rfl ?_
        obtain ⟨v10, hv, hf⟩ := bnd hf
        refine r_callS (lv := 1) dX7_fewestKeys_29 yo_J6_bitCount_0f7a4 ys_J6_bitCount_0f7a4 ml_X7_179 ya_J6_bitCount_0f7a4 (Fits.vm (by decide)) rfl rfl (Nat.le_of_ble_eq_true rfl) (S_J6_bitCount_0f7a4 s1.2 h  _ hv) ?_
        refine r_iload_n dX7_fewestKeys_32 rfl ?_
        obtain ⟨v11, hv, hf⟩ := bnd hf
        refine r_callS (lv := 1) dX7_fewestKeys_33 yo_J6_bitCount_0f7a4 ys_J6_bitCount_0f7a4 ml_X7_179 ya_J6_bitCount_0f7a4 (Fits.vm (by decide)) rfl rfl (Nat.le_of_ble_eq_true rfl) (S_J6_bitCount_0f7a4 s1.1 h  _ hv) ?_
        refine r_icmp_ge 43 dX7_fewestKeys_36 (by decide) hf (fun c12 hf => ?_) (fun c12 hf => ?_)
        · refine r_iconst (v := 0) dX7_fewestKeys_43 (by decide) ?_
          cases hf; exact key9
        · refine r_iconst (v := 1) dX7_fewestKeys_39 (by decide) ?_
          refine r_goto 44 dX7_fewestKeys_40 (by decide) ?_
          cases hf; exact key9
def f_X7_keys (F : Nat) (x1_ : Int32) (h : Hp) : Option (Int32 × Hp) :=
  (f_X4_knows 1 x1_ h).bind fun v1 =>
  (if v1 = 0 then (
    some ((-1 : Int32), h))
  else (
    (gO h 0 11 (0, 6, 14)).bind fun y2 =>
    (Option.bind (α := Int32 × Hp) (
      (if (gI h y2 4) = 0 then (
        some ((-4 : Int32), h))
      else (
        (f_X7_refusedKeys F x1_ h).bind fun v5 =>
        some (v5.1, v5.2)))) fun t3 =>
    (Option.bind (α := Int32 × Hp) (
      (if t3.1 = 0 then (
        (f_X7_closedChains t3.2).bind fun v9 =>
        (f_X7_fewestKeys F x1_ v9 t3.2).bind fun v10 =>
        some (v10.1, v10.2))
      else (
        some (t3.1, t3.2)))) fun t7 =>
    some (t7.1, t7.2)))))
set_option maxRecDepth 100000 in
set_option maxHeartbeats 4000000 in
theorem S_X7_keys (F : Nat) (x1_ : Int32) (h : Hp) (r : (Int32 × Hp)) (hf : f_X7_keys F x1_ h = some r) : MetP Y_X7_keys 6 [.ref 0, .int x1_] h (some (.int r.1), r.2) := by
  unfold f_X7_keys at hf
  refine met_of yo_X7_keys (Nat.le_of_ble_eq_true rfl) ?_
  show Run Y_X7_keys _ 0 [some (.ref 0), some (.int x1_), none] [] h
  refine r_aload_n dX7_keys_0 rfl ?_
  refine r_getS (b := 1) dX7_keys_1 sh_0 ft_X7_14 rfl rfl ?_
  refine r_iload_n dX7_keys_4 rfl ?_
  obtain ⟨v1, hv, hf⟩ := bnd hf
  refine r_callV (lv := 1) dX7_keys_5 yo_X4_knows yi_X4_knows ml_X7_114 ya_X4_knows sh_1 ⟨_, rfl, rfl⟩ (Fits.vm (by decide)) rfl rfl (Nat.le_of_ble_eq_true rfl) (S_X4_knows 1 x1_ sh_1 h  _ hv) ?_
  refine r_if_ne 13 dX7_keys_8 (by decide) hf (fun c12 hf => ?_) (fun c12 hf => ?_)
  · refine r_aload_n dX7_keys_13 rfl ?_
    refine r_getR (E := (0, 6, 14)) dX7_keys_14 sh_0 ft_X7_77 rfl hf fun y2 hy2 hf => ?_
    refine r_getI dX7_keys_17 hy2 ft_X7_154 rfl ?_
    refine r_reg (P := fun t3 => Run Y_X7_keys (VM 6 (some (.int r.1), r.2)) 33 [some (.ref 0), some (.int x1_), none] [.int t3.1] t3.2) hf (fun t3 hf => ?_) (fun t3 key4 hf => ?_)
    · refine r_istore_nA dX7_keys_33 (by decide) ?_
      refine r_iload_n dX7_keys_34 rfl ?_
      refine r_reg (P := fun t7 => Run Y_X7_keys (VM 6 (some (.int r.1), r.2)) 51 [some (.ref 0), some (.int x1_), some (.int t3.1)] [.int t7.1] t7.2) hf (fun t7 hf => ?_) (fun t7 key8 hf => ?_)
      · exact e_iH dX7_keys_51 rfl hf
      · refine r_if_eq 42 dX7_keys_35 (by decide) hf (fun c11 hf => ?_) (fun c11 hf => ?_)
        · refine r_aload_n dX7_keys_42 rfl ?_
          refine r_iload_n dX7_keys_43 rfl ?_
          refine r_aload_n dX7_keys_44 rfl ?_
          obtain ⟨v9, hv, hf⟩ := bnd hf
          refine r_callV (lv := 1) dX7_keys_45 yo_X7_closedChains yi_X7_closedChains ml_X7_297 ya_X7_closedChains sh_0 ⟨_, rfl, rfl⟩ (Fits.vm (by decide)) rfl rfl (Nat.le_of_ble_eq_true rfl) (S_X7_closedChains  t3.2  _ hv) ?_
          obtain ⟨v10, hv, hf⟩ := bnd hf
          refine r_callV (lv := 5) dX7_keys_48 yo_X7_fewestKeys yi_X7_fewestKeys ml_X7_300 ya_X7_fewestKeys sh_0 ⟨_, rfl, rfl⟩ (Fits.vm (by decide)) rfl rfl (Nat.le_of_ble_eq_true rfl) (S_X7_fewestKeys F x1_ v9 t3.2  _ hv) ?_
          cases hf; exact key8
        · refine r_iload_n dX7_keys_38 rfl ?_
          refine r_goto 51 dX7_keys_39 (by decide) ?_
          cases hf; exact key8
    · refine r_if_ne 28 dX7_keys_20 (by decide) hf (fun c6 hf => ?_) (fun c6 hf => ?_)
      · refine r_aload_n dX7_keys_28 rfl ?_
        refine r_iload_n dX7_keys_29 rfl ?_
        obtain ⟨v5, hv, hf⟩ := bnd hf
        refine r_callV (lv := 4) dX7_keys_30 yo_X7_refusedKeys yi_X7_refusedKeys ml_X7_294 ya_X7_refusedKeys sh_0 ⟨_, rfl, rfl⟩ (Fits.vm (by decide)) rfl rfl (Nat.le_of_ble_eq_true rfl) (S_X7_refusedKeys F x1_ h  _ hv) ?_
        cases hf; exact key4
      · refine r_bipush (v := -4) dX7_keys_23 (by decide) ?_
        refine r_goto 33 dX7_keys_25 (by decide) ?_
        cases hf; exact key4
  · refine r_iconst (v := -1) dX7_keys_11 (by decide) ?_
    exact e_iH dX7_keys_12 rfl hf
def f_X7_free (F : Nat) (x1_ : Int32) (x2_ : Int32) (h : Hp) : Option (Int32 × Hp) :=
  (f_X7_isMan x1_ h).bind fun v1 =>
  (if v1 = 0 then (
    some ((-1 : Int32), h))
  else (
    (f_X4_knows 1 x2_ h).bind fun v2 =>
    (if v2 = 0 then (
      some ((-1 : Int32), h))
    else (
      (f_X7_refusedKeys F x2_ h).bind fun v3 =>
      (Option.bind (α := Int32 × Hp) (
        (if v3.1 = 0 then (
          (f_X7_closedChains v3.2).bind fun v6 =>
          (gO v3.2 0 11 (0, 6, 14)).bind fun y7 =>
          (f_X6_chainsOf F y7 x1_ v3.2).bind fun v8 =>
          (f_X7_fewestKeys F x2_ (v6 &&& v8) v3.2).bind fun v9 =>
          some (v9.1, v9.2))
        else (
          some (v3.1, v3.2)))) fun t4 =>
      some (t4.1, t4.2))))))
set_option maxRecDepth 100000 in
set_option maxHeartbeats 4000000 in
theorem S_X7_free (F : Nat) (x1_ : Int32) (x2_ : Int32) (h : Hp) (r : (Int32 × Hp)) (hf : f_X7_free F x1_ x2_ h = some r) : MetP Y_X7_free 6 [.ref 0, .int x1_, .int x2_] h (some (.int r.1), r.2) := by
  unfold f_X7_free at hf
  refine met_of yo_X7_free (Nat.le_of_ble_eq_true rfl) ?_
  show Run Y_X7_free _ 0 [some (.ref 0), some (.int x1_), some (.int x2_), none] [] h
  refine r_aload_n dX7_free_0 rfl ?_
  refine r_iload_n dX7_free_1 rfl ?_
  obtain ⟨v1, hv, hf⟩ := bnd hf
  refine r_callV (lv := 1) dX7_free_2 yo_X7_isMan yi_X7_isMan ml_X7_157 ya_X7_isMan sh_0 ⟨_, rfl, rfl⟩ (Fits.vm (by decide)) rfl rfl (Nat.le_of_ble_eq_true rfl) (S_X7_isMan x1_ h  _ hv) ?_
  refine r_if_eq 19 dX7_free_5 (by decide) hf (fun c12 hf => ?_) (fun c12 hf => ?_)
  · refine r_iconst (v := -1) dX7_free_19 (by decide) ?_
    exact e_iH dX7_free_20 rfl hf
  · refine r_aload_n dX7_free_8 rfl ?_
    refine r_getS (b := 1) dX7_free_9 sh_0 ft_X7_14 rfl rfl ?_
    refine r_iload_n dX7_free_12 rfl ?_
    obtain ⟨v2, hv, hf⟩ := bnd hf
    refine r_callV (lv := 1) dX7_free_13 yo_X4_knows yi_X4_knows ml_X7_114 ya_X4_knows sh_1 ⟨_, rfl, rfl⟩ (Fits.vm (by decide)) rfl rfl (Nat.le_of_ble_eq_true rfl) (S_X4_knows 1 x2_ sh_1 h  _ hv) ?_
    refine r_if_ne 21 dX7_free_16 (by decide) hf (fun c11 hf => ?_) (fun c11 hf => ?_)
    · refine r_aload_n dX7_free_21 rfl ?_
      refine r_iload_n dX7_free_22 rfl ?_
      obtain ⟨v3, hv, hf⟩ := bnd hf
      refine r_callV (lv := 4) dX7_free_23 yo_X7_refusedKeys yi_X7_refusedKeys ml_X7_294 ya_X7_refusedKeys sh_0 ⟨_, rfl, rfl⟩ (Fits.vm (by decide)) rfl rfl (Nat.le_of_ble_eq_true rfl) (S_X7_refusedKeys F x2_ h  _ hv) ?_
      refine r_istore_nA dX7_free_26 (by decide) ?_
      refine r_iload_n dX7_free_27 rfl ?_
      refine r_reg (P := fun t4 => Run Y_X7_free (VM 6 (some (.int r.1), r.2)) 53 [some (.ref 0), some (.int x1_), some (.int x2_), some (.int v3.1)] [.int t4.1] t4.2) hf (fun t4 hf => ?_) (fun t4 key5 hf => ?_)
      · exact e_iH dX7_free_53 rfl hf
      · refine r_if_eq 35 dX7_free_28 (by decide) hf (fun c10 hf => ?_) (fun c10 hf => ?_)
        · refine r_aload_n dX7_free_35 rfl ?_
          refine r_iload_n dX7_free_36 rfl ?_
          refine r_aload_n dX7_free_37 rfl ?_
          obtain ⟨v6, hv, hf⟩ := bnd hf
          refine r_callV (lv := 1) dX7_free_38 yo_X7_closedChains yi_X7_closedChains ml_X7_297 ya_X7_closedChains sh_0 ⟨_, rfl, rfl⟩ (Fits.vm (by decide)) rfl rfl (Nat.le_of_ble_eq_true rfl) (S_X7_closedChains  v3.2  _ hv) ?_
          refine r_aload_n dX7_free_41 rfl ?_
          refine r_getR (E := (0, 6, 14)) dX7_free_42 sh_0 ft_X7_77 rfl hf fun y7 hy7 hf => ?_
          refine r_iload_n dX7_free_45 rfl ?_
          obtain ⟨v8, hv, hf⟩ := bnd hf
          refine r_callV (lv := 1) dX7_free_46 yo_X6_chainsOf yi_X6_chainsOf ml_X7_303 ya_X6_chainsOf hy7 ⟨_, rfl, rfl⟩ (Fits.vm (by decide)) rfl rfl (Nat.le_of_ble_eq_true rfl) (S_X6_chainsOf F y7 x1_ hy7 v3.2  _ hv) ?_
          refine r_iand dX7_free_49 ?_
          obtain ⟨v9, hv, hf⟩ := bnd hf
          refine r_callV (lv := 5) dX7_free_50 yo_X7_fewestKeys yi_X7_fewestKeys ml_X7_300 ya_X7_fewestKeys sh_0 ⟨_, rfl, rfl⟩ (Fits.vm (by decide)) rfl rfl (Nat.le_of_ble_eq_true rfl) (S_X7_fewestKeys F x2_ (v6 &&& v8) v3.2  _ hv) ?_
          cases hf; exact key5
        · refine r_iload_n dX7_free_31 rfl ?_
          refine r_goto 53 dX7_free_32 (by decide) ?_
          cases hf; exact key5
    · refine r_iconst (v := -1) dX7_free_19 (by decide) ?_
      exact e_iH dX7_free_20 rfl hf
def f_X7_couldBeFiled (F : Nat) (x1_ : Int32) (h : Hp) : Option Int32 :=
  fix (σ := Int32 × Int32) (ρ := Int32) (fun self2 s1 =>
    (gO h 0 11 (0, 6, 14)).bind fun y4 =>
    (if (gI h y4 5) ≤ s1.2 then (
      (f_X7_closedChains h).bind fun v5 =>
      some (s1.1 &&& v5))
    else (
      (Option.bind (α := Int32) (
        (if (x1_ &&& (((1 : Int32) <<< (s1.2 &&& 31)) ^^^ (-1 : Int32))) = 0 then (
          nm ((s1.1 ||| ((1 : Int32) <<< (s1.2 &&& 31)))) fun x8 =>
          some x8)
        else (
          some s1.1))) fun t6 =>
      self2 (t6, (s1.2 + 1)))))) F ((0 : Int32), (0 : Int32))
set_option maxRecDepth 100000 in
set_option maxHeartbeats 4000000 in
theorem S_X7_couldBeFiled (F : Nat) (x1_ : Int32) (h : Hp) (r : Int32) (hf : f_X7_couldBeFiled F x1_ h = some r) : MetP Y_X7_couldBeFiled 2 [.ref 0, .int x1_] h (some (.int r), h) := by
  unfold f_X7_couldBeFiled at hf
  refine met_of yo_X7_couldBeFiled (Nat.le_of_ble_eq_true rfl) ?_
  show Run Y_X7_couldBeFiled _ 0 [some (.ref 0), some (.int x1_), none, none] [] h
  refine r_iconst (v := 0) dX7_couldBeFiled_0 (by decide) ?_
  refine r_istore_nA dX7_couldBeFiled_1 (by decide) ?_
  refine r_iconst (v := 0) dX7_couldBeFiled_2 (by decide) ?_
  refine r_istore_nA dX7_couldBeFiled_3 (by decide) ?_
  refine r_fix (σ := Int32 × Int32) (fun s1 => [some (.ref 0), some (.int x1_), some (.int s1.1), some (.int s1.2)]) (fun s1 => h) (fun self2 ih3 s1 hf => ?_) F ((0 : Int32), (0 : Int32)) hf
  refine r_iload_n dX7_couldBeFiled_4 rfl ?_
  refine r_aload_n dX7_couldBeFiled_5 rfl ?_
  refine r_getR (E := (0, 6, 14)) dX7_couldBeFiled_6 sh_0 ft_X7_77 rfl hf fun y4 hy4 hf => ?_
  refine r_getI dX7_couldBeFiled_9 hy4 ft_X7_348 rfl ?_
  refine r_icmp_ge 37 dX7_couldBeFiled_12 (by decide) hf (fun c10 hf => ?_) (fun c10 hf => ?_)
  · refine r_iload_n dX7_couldBeFiled_37 rfl ?_
    refine r_aload_n dX7_couldBeFiled_38 rfl ?_
    obtain ⟨v5, hv, hf⟩ := bnd hf
    refine r_callV (lv := 1) dX7_couldBeFiled_39 yo_X7_closedChains yi_X7_closedChains ml_X7_297 ya_X7_closedChains sh_0 ⟨_, rfl, rfl⟩ (Fits.vm (by decide)) rfl rfl (Nat.le_of_ble_eq_true rfl) (S_X7_closedChains  h  _ hv) ?_
    refine r_iand dX7_couldBeFiled_42 ?_
    exact e_iP dX7_couldBeFiled_43 rfl hf
  · refine r_iload_n dX7_couldBeFiled_15 rfl ?_
    refine r_iconst (v := 1) dX7_couldBeFiled_16 (by decide) ?_
    refine r_iload_n dX7_couldBeFiled_17 rfl ?_
    refine r_ishl dX7_couldBeFiled_18 ?_
    refine r_iconst (v := -1) dX7_couldBeFiled_19 (by decide) ?_
    refine r_ixor dX7_couldBeFiled_20 ?_
    refine r_iand dX7_couldBeFiled_21 ?_
    refine r_reg (P := fun t6 => Run Y_X7_couldBeFiled (VM 2 (some (.int r), h)) 31 [some (.ref 0), some (.int x1_), some (.int t6), some (.int s1.2)] [] h) hf (fun t6 hf => ?_) (fun t6 key7 hf => ?_)
    · refine r_iincA (v := 1) dX7_couldBeFiled_31 rfl (by decide) (by decide) ?_
      refine r_goto 4 dX7_couldBeFiled_34 (by decide) ?_
      exact ih3 _ hf
    · refine r_if_ne 31 dX7_couldBeFiled_22 (by decide) hf (fun c9 hf => ?_) (fun c9 hf => ?_)
      · cases hf; exact key7
      · refine r_iload_n dX7_couldBeFiled_25 rfl ?_
        refine r_iconst (v := 1) dX7_couldBeFiled_26 (by decide) ?_
        refine r_iload_n dX7_couldBeFiled_27 rfl ?_
        refine r_ishl dX7_couldBeFiled_28 ?_
        refine r_ior dX7_couldBeFiled_29 ?_
        refine r_istore_n dX7_couldBeFiled_30 (by decide) hf fun x8 hf => ?_
        cases hf; exact key7
def f_X7_filed (F : Nat) (x1_ : Int32) (h : Hp) : Option (Int32 × Hp) :=
  (f_X7_refusedWithMen x1_ x1_ h).bind fun v1 =>
  (if v1.1 = 0 then (
    (f_X4_size 1 x1_ v1.2).bind fun v2 =>
    (gO v1.2 0 11 (0, 6, 14)).bind fun y3 =>
    (rmI v2 (gI v1.2 y3 4)).bind fun v4 =>
    jn (α := (Unit) → Option (Int32 × Hp)) (fun t5 =>
      (f_X7_found (5 : Int32) v1.2).bind fun v8 =>
      some (v8.1, v8.2)) fun j6 =>
    (if v4 = 0 then (
      (gO v1.2 0 11 (0, 6, 14)).bind fun y9 =>
      (dvI v2 (gI v1.2 y9 4)).bind fun v10 =>
      (if v10 ≤ (8 : Int32) then (
        fix (σ := Int32) (ρ := (Int32 × Hp)) (fun self12 s11 =>
          (if v2 ≤ s11 then (
            fix (σ := Int32 × Int32) (ρ := (Int32 × Hp)) (fun self15 s14 =>
              (gO v1.2 0 11 (0, 6, 14)).bind fun y17 =>
              (dvI v2 (gI v1.2 y17 4)).bind fun v18 =>
              (if v18 ≤ s14.2 then (
                (Option.bind (α := Int32) (
                  (if s14.1 = 0 then (
                    some (1 : Int32))
                  else (
                    some (0 : Int32)))) fun t19 =>
                nm (sI v1.2 0 14 t19) fun h22 =>
                (f_X7_couldBeFiled F s14.1 h22).bind fun v23 =>
                some (v23, h22)))
              else (
                (gO v1.2 0 11 (0, 6, 14)).bind fun y24 =>
                (gO v1.2 0 11 (0, 6, 14)).bind fun y25 =>
                (f_X7_standFrom F x1_ (s14.2 * (gI v1.2 y25 4)) v1.2).bind fun v26 =>
                (f_X6_tooFar F y24 v26 (gI v1.2 18 3) v1.2).bind fun v27 =>
                self15 ((s14.1 ||| v27), (s14.2 + 1))))) F ((0 : Int32), (0 : Int32)))
          else (
            (f_X4_get 1 x1_ s11 v1.2).bind fun v29 =>
            (f_X7_isCell v29 v1.2).bind fun v30 =>
            (if v30 = 0 then (
              (f_X7_found (3 : Int32) v1.2).bind fun v31 =>
              some (v31.1, v31.2))
            else (
              self12 (s11 + 1)))))) F (0 : Int32))
      else (
        j6 ())))
    else (
      j6 ())))
  else (
    some (v1.1, v1.2)))
set_option maxRecDepth 100000 in
set_option maxHeartbeats 4000000 in
theorem S_X7_filed (F : Nat) (x1_ : Int32) (h : Hp) (r : (Int32 × Hp)) (hf : f_X7_filed F x1_ h = some r) : MetP Y_X7_filed 5 [.ref 0, .int x1_] h (some (.int r.1), r.2) := by
  unfold f_X7_filed at hf
  refine met_of yo_X7_filed (Nat.le_of_ble_eq_true rfl) ?_
  show Run Y_X7_filed _ 0 [some (.ref 0), some (.int x1_), none, none, none, none] [] h
  refine r_aload_n dX7_filed_0 rfl ?_
  refine r_iload_n dX7_filed_1 rfl ?_
  refine r_iload_n dX7_filed_2 rfl ?_
  obtain ⟨v1, hv, hf⟩ := bnd hf
  refine r_callV (lv := 2) dX7_filed_3 yo_X7_refusedWithMen yi_X7_refusedWithMen ml_X7_306 ya_X7_refusedWithMen sh_0 ⟨_, rfl, rfl⟩ (Fits.vm (by decide)) rfl rfl (Nat.le_of_ble_eq_true rfl) (S_X7_refusedWithMen x1_ x1_ h  _ hv) ?_
  refine r_istore_nA dX7_filed_6 (by decide) ?_
  refine r_iload_n dX7_filed_7 rfl ?_
  refine r_if_eq 13 dX7_filed_8 (by decide) hf (fun c36 hf => ?_) (fun c36 hf => ?_)
  · refine r_aload_n dX7_filed_13 rfl ?_
    refine r_getS (b := 1) dX7_filed_14 sh_0 ft_X7_14 rfl rfl ?_
    refine r_iload_n dX7_filed_17 rfl ?_
    obtain ⟨v2, hv, hf⟩ := bnd hf
    refine r_callV (lv := 2) dX7_filed_18 yo_X4_size yi_X4_size ml_X7_133 ya_X4_size sh_1 ⟨_, rfl, rfl⟩ (Fits.vm (by decide)) rfl rfl (Nat.le_of_ble_eq_true rfl) (S_X4_size 1 x1_ sh_1 v1.2  _ hv) ?_
    refine r_istore_nA dX7_filed_21 (by decide) ?_
    refine r_iload_n dX7_filed_22 rfl ?_
    refine r_aload_n dX7_filed_23 rfl ?_
    refine r_getR (E := (0, 6, 14)) dX7_filed_24 sh_0 ft_X7_77 rfl hf fun y3 hy3 hf => ?_
    refine r_getI dX7_filed_27 hy3 ft_X7_154 rfl ?_
    refine r_irem dX7_filed_30 hf fun v4 hf => ?_
    refine r_jn (P := fun t5 => Run Y_X7_filed (VM 5 (some (.int r.1), r.2)) 48 [some (.ref 0), some (.int x1_), some (.int v1.1), some (.int v2), none, none] [] v1.2) hf (fun t5 hf => ?_) (fun j6 ih7 hf => ?_)
    · refine r_aload_n dX7_filed_48 rfl ?_
      refine r_iconst (v := 5) dX7_filed_49 (by decide) ?_
      obtain ⟨v8, hv, hf⟩ := bnd hf
      refine r_callV (lv := 1) dX7_filed_50 yo_X7_found yi_X7_found ml_X7_118 ya_X7_found sh_0 ⟨_, rfl, rfl⟩ (Fits.vm (by decide)) rfl rfl (Nat.le_of_ble_eq_true rfl) (S_X7_found (5 : Int32) v1.2  _ hv) ?_
      exact e_iH dX7_filed_53 rfl hf
    refine r_if_ne 48 dX7_filed_31 (by decide) hf (fun c35 hf => ?_) (fun c35 hf => ?_)
    · exact ih7 _ hf
    · refine r_iload_n dX7_filed_34 rfl ?_
      refine r_aload_n dX7_filed_35 rfl ?_
      refine r_getR (E := (0, 6, 14)) dX7_filed_36 sh_0 ft_X7_77 rfl hf fun y9 hy9 hf => ?_
      refine r_getI dX7_filed_39 hy9 ft_X7_154 rfl ?_
      refine r_idiv dX7_filed_42 hf fun v10 hf => ?_
      refine r_bipush (v := 8) dX7_filed_43 (by decide) ?_
      refine r_icmp_le 54 dX7_filed_45 (by decide) hf (fun c34 hf => ?_) (fun c34 hf => ?_)
      · refine r_iconst (v := 0) dX7_filed_54 (by decide) ?_
        refine r_istoreA dX7_filed_55 (by decide) ?_
        refine r_fix (σ := Int32) (fun s11 => [some (.ref 0), some (.int x1_), some (.int v1.1), some (.int v2), some (.int s11), none]) (fun s11 => v1.2) (fun self12 ih13 s11 hf => ?_) F (0 : Int32) hf
        refine r_iload dX7_filed_57 rfl ?_
        refine r_iload_n dX7_filed_59 rfl ?_
        refine r_icmp_ge 92 dX7_filed_60 (by decide) hf (fun c33 hf => ?_) (fun c33 hf => ?_)
        · refine r_iconst (v := 0) dX7_filed_92 (by decide) ?_
          refine r_istoreA dX7_filed_93 (by decide) ?_
          refine r_iconst (v := 0) dX7_filed_95 (by decide) ?_
          refine r_istoreA dX7_filed_96 (by decide) ?_
          refine r_fix (σ := Int32 × Int32) (fun s14 => [some (.ref 0), some (.int x1_), some (.int v1.1), some (.int v2), some (.int s14.1), some (.int s14.2)]) (fun s14 => v1.2) (fun self15 ih16 s14 hf => ?_) F ((0 : Int32), (0 : Int32)) hf
          refine r_iload dX7_filed_98 rfl ?_
          refine r_iload_n dX7_filed_100 rfl ?_
          refine r_aload_n dX7_filed_101 rfl ?_
          refine r_getR (E := (0, 6, 14)) dX7_filed_102 sh_0 ft_X7_77 rfl hf fun y17 hy17 hf => ?_
          refine r_getI dX7_filed_105 hy17 ft_X7_154 rfl ?_
          refine r_idiv dX7_filed_108 hf fun v18 hf => ?_
          refine r_icmp_ge 152 dX7_filed_109 (by decide) hf (fun c28 hf => ?_) (fun c28 hf => ?_)
          · refine r_aload_n dX7_filed_152 rfl ?_
            refine r_iload dX7_filed_153 rfl ?_
            refine r_reg (P := fun t19 => Run Y_X7_filed (VM 5 (some (.int r.1), r.2)) 163 [some (.ref 0), some (.int x1_), some (.int v1.1), some (.int v2), some (.int s14.1), some (.int s14.2)] [.int t19, .ref 0] v1.2) hf (fun t19 hf => ?_) (fun t19 key20 hf => ?_)
            · refine r_putI dX7_filed_163 sh_0 ft_X7_99 rfl hf fun h22 hf => ?_
              refine r_aload_n dX7_filed_166 rfl ?_
              refine r_iload dX7_filed_167 rfl ?_
              obtain ⟨v23, hv, hf⟩ := bnd hf
              refine r_callV (lv := 2) dX7_filed_169 yo_X7_couldBeFiled yi_X7_couldBeFiled ml_X7_315 ya_X7_couldBeFiled sh_0 ⟨_, rfl, rfl⟩ (Fits.vm (by decide)) rfl rfl (Nat.le_of_ble_eq_true rfl) (S_X7_couldBeFiled F s14.1 h22  _ hv) ?_
              exact e_iH dX7_filed_172 rfl hf
            · refine r_if_ne 162 dX7_filed_155 (by decide) hf (fun c21 hf => ?_) (fun c21 hf => ?_)
              · refine r_iconst (v := 0) dX7_filed_162 (by decide) ?_
                cases hf; exact key20
              · refine r_iconst (v := 1) dX7_filed_158 (by decide) ?_
                refine r_goto 163 dX7_filed_159 (by decide) ?_
                cases hf; exact key20
          · refine r_iload dX7_filed_112 rfl ?_
            refine r_aload_n dX7_filed_114 rfl ?_
            refine r_getR (E := (0, 6, 14)) dX7_filed_115 sh_0 ft_X7_77 rfl hf fun y24 hy24 hf => ?_
            refine r_aload_n dX7_filed_118 rfl ?_
            refine r_iload_n dX7_filed_119 rfl ?_
            refine r_iload dX7_filed_120 rfl ?_
            refine r_aload_n dX7_filed_122 rfl ?_
            refine r_getR (E := (0, 6, 14)) dX7_filed_123 sh_0 ft_X7_77 rfl hf fun y25 hy25 hf => ?_
            refine r_getI dX7_filed_126 hy25 ft_X7_154 rfl ?_
            refine r_imul dX7_filed_129 ?_
            obtain ⟨v26, hv, hf⟩ := bnd hf
            refine r_callV (lv := 4) dX7_filed_130 yo_X7_standFrom yi_X7_standFrom ml_X7_309 ya_X7_standFrom sh_0 ⟨_, rfl, rfl⟩ (Fits.vm (by decide)) rfl rfl (Nat.le_of_ble_eq_true rfl) (S_X7_standFrom F x1_ (s14.2 * (gI v1.2 y25 4)) v1.2  _ hv) ?_
            refine r_aload_n dX7_filed_133 rfl ?_
            refine r_getS (b := 18) dX7_filed_134 sh_0 ft_X7_31 rfl rfl ?_
            refine r_getI dX7_filed_137 sh_18 ft_X7_196 rfl ?_
            obtain ⟨v27, hv, hf⟩ := bnd hf
            refine r_callV (lv := 1) dX7_filed_140 yo_X6_tooFar yi_X6_tooFar ml_X7_312 ya_X6_tooFar hy24 ⟨_, rfl, rfl⟩ (Fits.vm (by decide)) rfl rfl (Nat.le_of_ble_eq_true rfl) (S_X6_tooFar F y24 v26 (gI v1.2 18 3) hy24 v1.2  _ hv) ?_
            refine r_ior dX7_filed_143 ?_
            refine r_istoreA dX7_filed_144 (by decide) ?_
            refine r_iincA (v := 1) dX7_filed_146 rfl (by decide) (by decide) ?_
            refine r_goto 98 dX7_filed_149 (by decide) ?_
            exact ih16 _ hf
        · refine r_aload_n dX7_filed_63 rfl ?_
          refine r_aload_n dX7_filed_64 rfl ?_
          refine r_getS (b := 1) dX7_filed_65 sh_0 ft_X7_14 rfl rfl ?_
          refine r_iload_n dX7_filed_68 rfl ?_
          refine r_iload dX7_filed_69 rfl ?_
          obtain ⟨v29, hv, hf⟩ := bnd hf
          refine r_callV (lv := 3) dX7_filed_71 yo_X4_get yi_X4_get ml_X7_95 ya_X4_get sh_1 ⟨_, rfl, rfl⟩ (Fits.vm (by decide)) rfl rfl (Nat.le_of_ble_eq_true rfl) (S_X4_get 1 x1_ s11 sh_1 v1.2  _ hv) ?_
          obtain ⟨v30, hv, hf⟩ := bnd hf
          refine r_callV (lv := 1) dX7_filed_74 yo_X7_isCell yi_X7_isCell ml_X7_222 ya_X7_isCell sh_0 ⟨_, rfl, rfl⟩ (Fits.vm (by decide)) rfl rfl (Nat.le_of_ble_eq_true rfl) (S_X7_isCell v29 v1.2  _ hv) ?_
          refine r_if_ne 86 dX7_filed_77 (by decide) hf (fun c32 hf => ?_) (fun c32 hf => ?_)
          · refine r_iincA (v := 1) dX7_filed_86 rfl (by decide) (by decide) ?_
            refine r_goto 57 dX7_filed_89 (by decide) ?_
            exact ih13 _ hf
          · refine r_aload_n dX7_filed_80 rfl ?_
            refine r_iconst (v := 3) dX7_filed_81 (by decide) ?_
            obtain ⟨v31, hv, hf⟩ := bnd hf
            refine r_callV (lv := 1) dX7_filed_82 yo_X7_found yi_X7_found ml_X7_118 ya_X7_found sh_0 ⟨_, rfl, rfl⟩ (Fits.vm (by decide)) rfl rfl (Nat.le_of_ble_eq_true rfl) (S_X7_found (3 : Int32) v1.2  _ hv) ?_
            exact e_iH dX7_filed_85 rfl hf
      · exact ih7 _ hf
  · refine r_iload_n dX7_filed_11 rfl ?_
    exact e_iH dX7_filed_12 rfl hf
def f_X7_isStep (x1_ : Int32) (h : Hp) : Option Int32 :=
  (Option.bind (α := Int32) (
    (if x1_ < 0 then (
      some (0 : Int32))
    else (
      (f_X7_isMan (x1_ / (10 : Int32)) h).bind fun v3 =>
      (if v3 = 0 then (
        some (0 : Int32))
      else (
        (if (4 : Int32) ≤ (rem32 x1_ (10 : Int32)) then (
          some (0 : Int32))
        else (
          some (1 : Int32)))))))) fun t1 =>
  ckZ t1)
set_option maxRecDepth 100000 in
set_option maxHeartbeats 4000000 in
theorem S_X7_isStep (x1_ : Int32) (h : Hp) (r : Int32) (hf : f_X7_isStep x1_ h = some r) : MetP Y_X7_isStep 2 [.ref 0, .int x1_] h (some (.int r), h) := by
  unfold f_X7_isStep at hf
  refine met_of yo_X7_isStep (Nat.le_of_ble_eq_true rfl) ?_
  show Run Y_X7_isStep _ 0 [some (.ref 0), some (.int x1_)] [] h
  refine r_iload_n dX7_isStep_0 rfl ?_
  refine r_reg (P := fun t1 => Run Y_X7_isStep (VM 2 (some (.int r), h)) 28 [some (.ref 0), some (.int x1_)] [.int t1] h) hf (fun t1 hf => ?_) (fun t1 key2 hf => ?_)
  · exact e_zP dX7_isStep_28 rfl hf
  · refine r_if_lt 27 dX7_isStep_1 (by decide) hf (fun c6 hf => ?_) (fun c6 hf => ?_)
    · refine r_iconst (v := 0) dX7_isStep_27 (by decide) ?_
      cases hf; exact key2
    · refine r_aload_n dX7_isStep_4 rfl ?_
      refine r_iload_n dX7_isStep_5 rfl ?_
      refine r_bipush (v := 10) dX7_isStep_6 (by decide) ?_
      refine r_idivK dX7_isStep_8 (by decide) ?_
      obtain ⟨v3, hv, hf⟩ := bnd hf
      refine r_callV (lv := 1) dX7_isStep_9 yo_X7_isMan yi_X7_isMan ml_X7_157 ya_X7_isMan sh_0 ⟨_, rfl, rfl⟩ (Fits.vm (by decide)) rfl rfl (Nat.le_of_ble_eq_true rfl) (S_X7_isMan (x1_ / (10 : Int32)) h  _ hv) ?_
      refine r_if_eq 27 dX7_isStep_12 (by decide) hf (fun c5 hf => ?_) (fun c5 hf => ?_)
      · refine r_iconst (v := 0) dX7_isStep_27 (by decide) ?_
        cases hf; exact key2
      · refine r_iload_n dX7_isStep_15 rfl ?_
        refine r_bipush (v := 10) dX7_isStep_16 (by decide) ?_
        refine r_iremK dX7_isStep_18 (by decide) ?_
        refine r_iconst (v := 4) dX7_isStep_19 (by decide) ?_
        refine r_icmp_ge 27 dX7_isStep_20 (by decide) hf (fun c4 hf => ?_) (fun c4 hf => ?_)
        · refine r_iconst (v := 0) dX7_isStep_27 (by decide) ?_
          cases hf; exact key2
        · refine r_iconst (v := 1) dX7_isStep_23 (by decide) ?_
          refine r_goto 28 dX7_isStep_24 (by decide) ?_
          cases hf; exact key2
def f_X7_stretch (F : Nat) (x1_ : Int32) (h : Hp) : Option Int32 :=
  fix (σ := Int32 × Int32) (ρ := Int32) (fun self2 s1 =>
    (gO h 0 11 (0, 6, 14)).bind fun y4 =>
    (if (gI h y4 5) ≤ s1.2 then (
      some s1.1)
    else (
      (gO h 0 11 (0, 6, 14)).bind fun y5 =>
      (f_X6_secondEnd y5 s1.2 h).bind fun v6 =>
      (f_X7_apart x1_ s1.2 v6 h).bind fun v7 =>
      self2 ((s1.1 + v7), (s1.2 + 1))))) F ((0 : Int32), (0 : Int32))
set_option maxRecDepth 100000 in
set_option maxHeartbeats 4000000 in
theorem S_X7_stretch (F : Nat) (x1_ : Int32) (h : Hp) (r : Int32) (hf : f_X7_stretch F x1_ h = some r) : MetP Y_X7_stretch 3 [.ref 0, .int x1_] h (some (.int r), h) := by
  unfold f_X7_stretch at hf
  refine met_of yo_X7_stretch (Nat.le_of_ble_eq_true rfl) ?_
  show Run Y_X7_stretch _ 0 [some (.ref 0), some (.int x1_), none, none] [] h
  refine r_iconst (v := 0) dX7_stretch_0 (by decide) ?_
  refine r_istore_nA dX7_stretch_1 (by decide) ?_
  refine r_iconst (v := 0) dX7_stretch_2 (by decide) ?_
  refine r_istore_nA dX7_stretch_3 (by decide) ?_
  refine r_fix (σ := Int32 × Int32) (fun s1 => [some (.ref 0), some (.int x1_), some (.int s1.1), some (.int s1.2)]) (fun s1 => h) (fun self2 ih3 s1 hf => ?_) F ((0 : Int32), (0 : Int32)) hf
  refine r_iload_n dX7_stretch_4 rfl ?_
  refine r_aload_n dX7_stretch_5 rfl ?_
  refine r_getR (E := (0, 6, 14)) dX7_stretch_6 sh_0 ft_X7_77 rfl hf fun y4 hy4 hf => ?_
  refine r_getI dX7_stretch_9 hy4 ft_X7_348 rfl ?_
  refine r_icmp_ge 38 dX7_stretch_12 (by decide) hf (fun c8 hf => ?_) (fun c8 hf => ?_)
  · refine r_iload_n dX7_stretch_38 rfl ?_
    exact e_iP dX7_stretch_39 rfl hf
  · refine r_iload_n dX7_stretch_15 rfl ?_
    refine r_aload_n dX7_stretch_16 rfl ?_
    refine r_iload_n dX7_stretch_17 rfl ?_
    refine r_iload_n dX7_stretch_18 rfl ?_
    refine r_aload_n dX7_stretch_19 rfl ?_
    refine r_getR (E := (0, 6, 14)) dX7_stretch_20 sh_0 ft_X7_77 rfl hf fun y5 hy5 hf => ?_
    refine r_iload_n dX7_stretch_23 rfl ?_
    obtain ⟨v6, hv, hf⟩ := bnd hf
    refine r_callV (lv := 1) dX7_stretch_24 yo_X6_secondEnd yi_X6_secondEnd ml_X7_405 ya_X6_secondEnd hy5 ⟨_, rfl, rfl⟩ (Fits.vm (by decide)) rfl rfl (Nat.le_of_ble_eq_true rfl) (S_X6_secondEnd y5 s1.2 hy5 h  _ hv) ?_
    obtain ⟨v7, hv, hf⟩ := bnd hf
    refine r_callV (lv := 2) dX7_stretch_27 yo_X7_apart yi_X7_apart ml_X7_253 ya_X7_apart sh_0 ⟨_, rfl, rfl⟩ (Fits.vm (by decide)) rfl rfl (Nat.le_of_ble_eq_true rfl) (S_X7_apart x1_ s1.2 v6 h  _ hv) ?_
    refine r_iadd dX7_stretch_30 ?_
    refine r_istore_nA dX7_stretch_31 (by decide) ?_
    refine r_iincA (v := 1) dX7_stretch_32 rfl (by decide) (by decide) ?_
    refine r_goto 4 dX7_stretch_35 (by decide) ?_
    exact ih3 _ hf
def f_X7_judge (F : Nat) (x1_ : Int32) (h : Hp) : Option (Int32 × Hp) :=
  (f_X7_refusedWithMen x1_ x1_ h).bind fun v1 =>
  (if v1.1 = 0 then (
    (f_X4_size 1 x1_ v1.2).bind fun v2 =>
    fix (σ := Int32) (ρ := (Int32 × Hp)) (fun self4 s3 =>
      (if v2 ≤ s3 then (
        fix (σ := Int32 × Int32) (ρ := (Int32 × Hp)) (fun self7 s6 =>
          jn (α := (Unit) → Option (Int32 × Hp)) (fun t9 =>
            (f_X7_stretch F s6.1 v1.2).bind fun v12 =>
            nm (sI v1.2 0 14 v12) fun h13 =>
            some (s6.2, h13)) fun j10 =>
          (if v2 ≤ s6.2 then (
            j10 ())
          else (
            (f_X4_get 1 x1_ s6.2 v1.2).bind fun v14 =>
            (f_X2_after F s6.1 (v14 / (10 : Int32)) (rem32 v14 (10 : Int32)) v1.2).bind fun v15 =>
            (if v15 = (-9 : Int32) then (
              j10 ())
            else (
              self7 (v15, (s6.2 + 1))))))) F ((gI v1.2 18 1), (0 : Int32)))
      else (
        (f_X4_get 1 x1_ s3 v1.2).bind fun v18 =>
        (f_X7_isStep v18 v1.2).bind fun v19 =>
        (if v19 = 0 then (
          (f_X7_found (3 : Int32) v1.2).bind fun v20 =>
          some (v20.1, v20.2))
        else (
          self4 (s3 + 1)))))) F (0 : Int32))
  else (
    some (v1.1, v1.2)))
set_option maxRecDepth 100000 in
set_option maxHeartbeats 4000000 in
theorem S_X7_judge (F : Nat) (x1_ : Int32) (h : Hp) (r : (Int32 × Hp)) (hf : f_X7_judge F x1_ h = some r) : MetP Y_X7_judge 4 [.ref 0, .int x1_] h (some (.int r.1), r.2) := by
  unfold f_X7_judge at hf
  refine met_of yo_X7_judge (Nat.le_of_ble_eq_true rfl) ?_
  show Run Y_X7_judge _ 0 [some (.ref 0), some (.int x1_), none, none, none, none, none, none] [] h
  refine r_aload_n dX7_judge_0 rfl ?_
  refine r_iload_n dX7_judge_1 rfl ?_
  refine r_iload_n dX7_judge_2 rfl ?_
  obtain ⟨v1, hv, hf⟩ := bnd hf
  refine r_callV (lv := 2) dX7_judge_3 yo_X7_refusedWithMen yi_X7_refusedWithMen ml_X7_306 ya_X7_refusedWithMen sh_0 ⟨_, rfl, rfl⟩ (Fits.vm (by decide)) rfl rfl (Nat.le_of_ble_eq_true rfl) (S_X7_refusedWithMen x1_ x1_ h  _ hv) ?_
  refine r_istore_nA dX7_judge_6 (by decide) ?_
  refine r_iload_n dX7_judge_7 rfl ?_
  refine r_if_eq 13 dX7_judge_8 (by decide) hf (fun c23 hf => ?_) (fun c23 hf => ?_)
  · refine r_aload_n dX7_judge_13 rfl ?_
    refine r_getS (b := 1) dX7_judge_14 sh_0 ft_X7_14 rfl rfl ?_
    refine r_iload_n dX7_judge_17 rfl ?_
    obtain ⟨v2, hv, hf⟩ := bnd hf
    refine r_callV (lv := 2) dX7_judge_18 yo_X4_size yi_X4_size ml_X7_133 ya_X4_size sh_1 ⟨_, rfl, rfl⟩ (Fits.vm (by decide)) rfl rfl (Nat.le_of_ble_eq_true rfl) (S_X4_size 1 x1_ sh_1 v1.2  _ hv) ?_
    refine r_istore_nA dX7_judge_21 (by decide) ?_
    refine r_iconst (v := 0) dX7_judge_22 (by decide) ?_
    refine r_istoreA dX7_judge_23 (by decide) ?_
    refine r_fix (σ := Int32) (fun s3 => [some (.ref 0), some (.int x1_), some (.int v1.1), some (.int v2), some (.int s3), none, none, none]) (fun s3 => v1.2) (fun self4 ih5 s3 hf => ?_) F (0 : Int32) hf
    refine r_iload dX7_judge_25 rfl ?_
    refine r_iload_n dX7_judge_27 rfl ?_
    refine r_icmp_ge 60 dX7_judge_28 (by decide) hf (fun c22 hf => ?_) (fun c22 hf => ?_)
    · refine r_aload_n dX7_judge_60 rfl ?_
      refine r_getS (b := 18) dX7_judge_61 sh_0 ft_X7_31 rfl rfl ?_
      refine r_getI dX7_judge_64 sh_18 ft_X7_199 rfl ?_
      refine r_istoreA dX7_judge_67 (by decide) ?_
      refine r_iconst (v := 0) dX7_judge_69 (by decide) ?_
      refine r_istoreA dX7_judge_70 (by decide) ?_
      refine r_fix (σ := Int32 × Int32) (fun s6 => [some (.ref 0), some (.int x1_), some (.int v1.1), some (.int v2), some (.int s6.1), some (.int s6.2), none, none]) (fun s6 => v1.2) (fun self7 ih8 s6 hf => ?_) F ((gI v1.2 18 1), (0 : Int32)) hf
      refine r_iload dX7_judge_72 rfl ?_
      refine r_iload_n dX7_judge_74 rfl ?_
      refine r_jn (P := fun t9 => Run Y_X7_judge (VM 4 (some (.int r.1), r.2)) 131 [some (.ref 0), some (.int x1_), some (.int v1.1), some (.int v2), some (.int s6.1), some (.int s6.2), none, none] [] v1.2) hf (fun t9 hf => ?_) (fun j10 ih11 hf => ?_)
      · refine r_aload_n dX7_judge_131 rfl ?_
        refine r_aload_n dX7_judge_132 rfl ?_
        refine r_iload dX7_judge_133 rfl ?_
        obtain ⟨v12, hv, hf⟩ := bnd hf
        refine r_callV (lv := 3) dX7_judge_135 yo_X7_stretch yi_X7_stretch ml_X7_321 ya_X7_stretch sh_0 ⟨_, rfl, rfl⟩ (Fits.vm (by decide)) rfl rfl (Nat.le_of_ble_eq_true rfl) (S_X7_stretch F s6.1 v1.2  _ hv) ?_
        refine r_putI dX7_judge_138 sh_0 ft_X7_99 rfl hf fun h13 hf => ?_
        refine r_iload dX7_judge_141 rfl ?_
        exact e_iH dX7_judge_143 rfl hf
      refine r_icmp_ge 131 dX7_judge_75 (by decide) hf (fun c17 hf => ?_) (fun c17 hf => ?_)
      · exact ih11 _ hf
      · refine r_aload_n dX7_judge_78 rfl ?_
        refine r_getS (b := 1) dX7_judge_79 sh_0 ft_X7_14 rfl rfl ?_
        refine r_iload_n dX7_judge_82 rfl ?_
        refine r_iload dX7_judge_83 rfl ?_
        obtain ⟨v14, hv, hf⟩ := bnd hf
        refine r_callV (lv := 3) dX7_judge_85 yo_X4_get yi_X4_get ml_X7_95 ya_X4_get sh_1 ⟨_, rfl, rfl⟩ (Fits.vm (by decide)) rfl rfl (Nat.le_of_ble_eq_true rfl) (S_X4_get 1 x1_ s6.2 sh_1 v1.2  _ hv) ?_
        refine r_istoreA dX7_judge_88 (by decide) ?_
        refine r_aload_n dX7_judge_90 rfl ?_
        refine r_getS (b := 22) dX7_judge_91 sh_0 ft_X7_42 rfl rfl ?_
        refine r_iload dX7_judge_94 rfl ?_
        refine r_iload dX7_judge_96 rfl ?_
        refine r_bipush (v := 10) dX7_judge_98 (by decide) ?_
        refine r_idivK dX7_judge_100 (by decide) ?_
        refine r_iload dX7_judge_101 rfl ?_
        refine r_bipush (v := 10) dX7_judge_103 (by decide) ?_
        refine r_iremK dX7_judge_105 (by decide) ?_
        obtain ⟨v15, hv, hf⟩ := bnd hf
        refine r_callV (lv := 2) dX7_judge_106 yo_X2_after yi_X2_after ml_X7_202 ya_X2_after sh_22 ⟨_, rfl, rfl⟩ (Fits.vm (by decide)) rfl rfl (Nat.le_of_ble_eq_true rfl) (S_X2_after F s6.1 (v14 / (10 : Int32)) (rem32 v14 (10 : Int32)) v1.2  _ hv) ?_
        refine r_istoreA dX7_judge_109 (by decide) ?_
        refine r_iload dX7_judge_111 rfl ?_
        refine r_bipush (v := -9) dX7_judge_113 (by decide) ?_
        refine r_icmp_ne 121 dX7_judge_115 (by decide) hf (fun c16 hf => ?_) (fun c16 hf => ?_)
        · refine r_iload dX7_judge_121 rfl ?_
          refine r_istoreA dX7_judge_123 (by decide) ?_
          refine r_iincA (v := 1) dX7_judge_125 rfl (by decide) (by decide) ?_
          refine r_goto 72 dX7_judge_128 (by decide) ?_
          refine r_lt (ll_s (ll_s (ll_s (ll_s (ll_s (ll_s (ll_n (ll_n ll_0)))))))) ?_
          exact ih8 _ hf
        · refine r_goto 131 dX7_judge_118 (by decide) ?_
          refine r_lt (ll_s (ll_s (ll_s (ll_s (ll_s (ll_s (ll_n (ll_n ll_0)))))))) ?_
          exact ih11 _ hf
    · refine r_aload_n dX7_judge_31 rfl ?_
      refine r_aload_n dX7_judge_32 rfl ?_
      refine r_getS (b := 1) dX7_judge_33 sh_0 ft_X7_14 rfl rfl ?_
      refine r_iload_n dX7_judge_36 rfl ?_
      refine r_iload dX7_judge_37 rfl ?_
      obtain ⟨v18, hv, hf⟩ := bnd hf
      refine r_callV (lv := 3) dX7_judge_39 yo_X4_get yi_X4_get ml_X7_95 ya_X4_get sh_1 ⟨_, rfl, rfl⟩ (Fits.vm (by decide)) rfl rfl (Nat.le_of_ble_eq_true rfl) (S_X4_get 1 x1_ s3 sh_1 v1.2  _ hv) ?_
      obtain ⟨v19, hv, hf⟩ := bnd hf
      refine r_callV (lv := 2) dX7_judge_42 yo_X7_isStep yi_X7_isStep ml_X7_318 ya_X7_isStep sh_0 ⟨_, rfl, rfl⟩ (Fits.vm (by decide)) rfl rfl (Nat.le_of_ble_eq_true rfl) (S_X7_isStep v18 v1.2  _ hv) ?_
      refine r_if_ne 54 dX7_judge_45 (by decide) hf (fun c21 hf => ?_) (fun c21 hf => ?_)
      · refine r_iincA (v := 1) dX7_judge_54 rfl (by decide) (by decide) ?_
        refine r_goto 25 dX7_judge_57 (by decide) ?_
        exact ih5 _ hf
      · refine r_aload_n dX7_judge_48 rfl ?_
        refine r_iconst (v := 3) dX7_judge_49 (by decide) ?_
        obtain ⟨v20, hv, hf⟩ := bnd hf
        refine r_callV (lv := 1) dX7_judge_50 yo_X7_found yi_X7_found ml_X7_118 ya_X7_found sh_0 ⟨_, rfl, rfl⟩ (Fits.vm (by decide)) rfl rfl (Nat.le_of_ble_eq_true rfl) (S_X7_found (3 : Int32) v1.2  _ hv) ?_
        exact e_iH dX7_judge_53 rfl hf
  · refine r_iload_n dX7_judge_11 rfl ?_
    exact e_iH dX7_judge_12 rfl hf
def f_X7_quarrel (x1_ : Int32) (x2_ : Int32) (h : Hp) : Option (Int32 × Hp) :=
  (f_X7_isMan x1_ h).bind fun v1 =>
  (if v1 = 0 then (
    some ((-1 : Int32), h))
  else (
    (f_X7_isMan x2_ h).bind fun v2 =>
    (if v2 = 0 then (
      some ((-1 : Int32), h))
    else (
      (if x1_ = x2_ then (
        some ((-1 : Int32), h))
      else (
        (if (gI h 0 13) < (8 : Int32) then (
          (stI h 38 (gI h 0 13) x1_).bind fun h3 =>
          (stI h3 39 (gI h3 0 13) x2_).bind fun h4 =>
          nm (sI h4 0 13 ((gI h4 0 13) + (1 : Int32))) fun h5 =>
          some (((gI h5 0 13) - (1 : Int32)), h5))
        else (
          some ((-2 : Int32), h)))))))))
set_option maxRecDepth 100000 in
set_option maxHeartbeats 4000000 in
theorem S_X7_quarrel (x1_ : Int32) (x2_ : Int32) (h : Hp) (r : (Int32 × Hp)) (hf : f_X7_quarrel x1_ x2_ h = some r) : MetP Y_X7_quarrel 2 [.ref 0, .int x1_, .int x2_] h (some (.int r.1), r.2) := by
  unfold f_X7_quarrel at hf
  refine met_of yo_X7_quarrel (Nat.le_of_ble_eq_true rfl) ?_
  show Run Y_X7_quarrel _ 0 [some (.ref 0), some (.int x1_), some (.int x2_)] [] h
  refine r_aload_n dX7_quarrel_0 rfl ?_
  refine r_iload_n dX7_quarrel_1 rfl ?_
  obtain ⟨v1, hv, hf⟩ := bnd hf
  refine r_callV (lv := 1) dX7_quarrel_2 yo_X7_isMan yi_X7_isMan ml_X7_157 ya_X7_isMan sh_0 ⟨_, rfl, rfl⟩ (Fits.vm (by decide)) rfl rfl (Nat.le_of_ble_eq_true rfl) (S_X7_isMan x1_ h  _ hv) ?_
  refine r_if_eq 21 dX7_quarrel_5 (by decide) hf (fun c9 hf => ?_) (fun c9 hf => ?_)
  · refine r_iconst (v := -1) dX7_quarrel_21 (by decide) ?_
    exact e_iH dX7_quarrel_22 rfl hf
  · refine r_aload_n dX7_quarrel_8 rfl ?_
    refine r_iload_n dX7_quarrel_9 rfl ?_
    obtain ⟨v2, hv, hf⟩ := bnd hf
    refine r_callV (lv := 1) dX7_quarrel_10 yo_X7_isMan yi_X7_isMan ml_X7_157 ya_X7_isMan sh_0 ⟨_, rfl, rfl⟩ (Fits.vm (by decide)) rfl rfl (Nat.le_of_ble_eq_true rfl) (S_X7_isMan x2_ h  _ hv) ?_
    refine r_if_eq 21 dX7_quarrel_13 (by decide) hf (fun c8 hf => ?_) (fun c8 hf => ?_)
    · refine r_iconst (v := -1) dX7_quarrel_21 (by decide) ?_
      exact e_iH dX7_quarrel_22 rfl hf
    · refine r_iload_n dX7_quarrel_16 rfl ?_
      refine r_iload_n dX7_quarrel_17 rfl ?_
      refine r_icmp_ne 23 dX7_quarrel_18 (by decide) hf (fun c7 hf => ?_) (fun c7 hf => ?_)
      · refine r_aload_n dX7_quarrel_23 rfl ?_
        refine r_getI dX7_quarrel_24 sh_0 ft_X7_151 rfl ?_
        refine r_bipush (v := 8) dX7_quarrel_27 (by decide) ?_
        refine r_icmp_lt 35 dX7_quarrel_29 (by decide) hf (fun c6 hf => ?_) (fun c6 hf => ?_)
        · refine r_aload_n dX7_quarrel_35 rfl ?_
          refine r_getS (b := 38) dX7_quarrel_36 sh_0 ft_X7_64 rfl rfl ?_
          refine r_aload_n dX7_quarrel_39 rfl ?_
          refine r_getI dX7_quarrel_40 sh_0 ft_X7_151 rfl ?_
          refine r_iload_n dX7_quarrel_43 rfl ?_
          refine r_iast dX7_quarrel_44 sh_38 hf fun h3 hf => ?_
          refine r_aload_n dX7_quarrel_45 rfl ?_
          refine r_getS (b := 39) dX7_quarrel_46 sh_0 ft_X7_68 rfl rfl ?_
          refine r_aload_n dX7_quarrel_49 rfl ?_
          refine r_getI dX7_quarrel_50 sh_0 ft_X7_151 rfl ?_
          refine r_iload_n dX7_quarrel_53 rfl ?_
          refine r_iast dX7_quarrel_54 sh_39 hf fun h4 hf => ?_
          refine r_aload_n dX7_quarrel_55 rfl ?_
          refine r_dup dX7_quarrel_56 rfl ?_
          refine r_getI dX7_quarrel_57 sh_0 ft_X7_151 rfl ?_
          refine r_iconst (v := 1) dX7_quarrel_60 (by decide) ?_
          refine r_iadd dX7_quarrel_61 ?_
          refine r_putI dX7_quarrel_62 sh_0 ft_X7_151 rfl hf fun h5 hf => ?_
          refine r_aload_n dX7_quarrel_65 rfl ?_
          refine r_getI dX7_quarrel_66 sh_0 ft_X7_151 rfl ?_
          refine r_iconst (v := 1) dX7_quarrel_69 (by decide) ?_
          refine r_isub dX7_quarrel_70 ?_
          exact e_iH dX7_quarrel_71 rfl hf
        · refine r_bipush (v := -2) dX7_quarrel_32 (by decide) ?_
          exact e_iH dX7_quarrel_34 rfl hf
      · refine r_iconst (v := -1) dX7_quarrel_21 (by decide) ?_
        exact e_iH dX7_quarrel_22 rfl hf
def f_X7_peace (x1_ : Int32) (h : Hp) : Option (Int32 × Hp) :=
  (if x1_ < 0 then (
    some ((-1 : Int32), h))
  else (
    (if x1_ ≤ (gI h 0 13) then (
      nm (sI h 0 13 x1_) fun h1 =>
      some (((gI h 0 13) - x1_), h1))
    else (
      some ((-1 : Int32), h)))))
set_option maxRecDepth 100000 in
set_option maxHeartbeats 4000000 in
theorem S_X7_peace (x1_ : Int32) (h : Hp) (r : (Int32 × Hp)) (hf : f_X7_peace x1_ h = some r) : MetP Y_X7_peace 1 [.ref 0, .int x1_] h (some (.int r.1), r.2) := by
  unfold f_X7_peace at hf
  refine met_of yo_X7_peace (Nat.le_of_ble_eq_true rfl) ?_
  show Run Y_X7_peace _ 0 [some (.ref 0), some (.int x1_), none] [] h
  refine r_iload_n dX7_peace_0 rfl ?_
  refine r_if_lt 12 dX7_peace_1 (by decide) hf (fun c3 hf => ?_) (fun c3 hf => ?_)
  · refine r_iconst (v := -1) dX7_peace_12 (by decide) ?_
    exact e_iH dX7_peace_13 rfl hf
  · refine r_iload_n dX7_peace_4 rfl ?_
    refine r_aload_n dX7_peace_5 rfl ?_
    refine r_getI dX7_peace_6 sh_0 ft_X7_151 rfl ?_
    refine r_icmp_le 14 dX7_peace_9 (by decide) hf (fun c2 hf => ?_) (fun c2 hf => ?_)
    · refine r_aload_n dX7_peace_14 rfl ?_
      refine r_getI dX7_peace_15 sh_0 ft_X7_151 rfl ?_
      refine r_iload_n dX7_peace_18 rfl ?_
      refine r_isub dX7_peace_19 ?_
      refine r_istore_nA dX7_peace_20 (by decide) ?_
      refine r_aload_n dX7_peace_21 rfl ?_
      refine r_iload_n dX7_peace_22 rfl ?_
      refine r_putI dX7_peace_23 sh_0 ft_X7_151 rfl hf fun h1 hf => ?_
      refine r_iload_n dX7_peace_26 rfl ?_
      exact e_iH dX7_peace_27 rfl hf
    · refine r_iconst (v := -1) dX7_peace_12 (by decide) ?_
      exact e_iH dX7_peace_13 rfl hf
def f_X7_manAt (x1_ : Int32) (x2_ : Int32) (h : Hp) : Option Int32 :=
  (gO h 0 11 (0, 6, 14)).bind fun y1 =>
  some ((x1_ >>> (((2 : Int32) * (((gI h y1 4) - (1 : Int32)) - x2_)) &&& 31)) &&& (3 : Int32))
set_option maxRecDepth 100000 in
set_option maxHeartbeats 4000000 in
theorem S_X7_manAt (x1_ : Int32) (x2_ : Int32) (h : Hp) (r : Int32) (hf : f_X7_manAt x1_ x2_ h = some r) : MetP Y_X7_manAt 1 [.ref 0, .int x1_, .int x2_] h (some (.int r), h) := by
  unfold f_X7_manAt at hf
  refine met_of yo_X7_manAt (Nat.le_of_ble_eq_true rfl) ?_
  show Run Y_X7_manAt _ 0 [some (.ref 0), some (.int x1_), some (.int x2_)] [] h
  refine r_iload_n dX7_manAt_0 rfl ?_
  refine r_iconst (v := 2) dX7_manAt_1 (by decide) ?_
  refine r_aload_n dX7_manAt_2 rfl ?_
  refine r_getR (E := (0, 6, 14)) dX7_manAt_3 sh_0 ft_X7_77 rfl hf fun y1 hy1 hf => ?_
  refine r_getI dX7_manAt_6 hy1 ft_X7_154 rfl ?_
  refine r_iconst (v := 1) dX7_manAt_9 (by decide) ?_
  refine r_isub dX7_manAt_10 ?_
  refine r_iload_n dX7_manAt_11 rfl ?_
  refine r_isub dX7_manAt_12 ?_
  refine r_imul dX7_manAt_13 ?_
  refine r_ishr dX7_manAt_14 ?_
  refine r_iconst (v := 3) dX7_manAt_15 (by decide) ?_
  refine r_iand dX7_manAt_16 ?_
  exact e_iP dX7_manAt_17 rfl hf
def f_X7_isOrderOfMen (F : Nat) (x1_ : Int32) (h : Hp) : Option Int32 :=
  fix (σ := Int32 × Int32) (ρ := Int32) (fun self2 s1 =>
    (gO h 0 11 (0, 6, 14)).bind fun y4 =>
    (if (gI h y4 4) ≤ s1.2 then (
      (gO h 0 11 (0, 6, 14)).bind fun y5 =>
      (Option.bind (α := Int32) (
        (if s1.1 = (((1 : Int32) <<< ((gI h y5 4) &&& 31)) - (1 : Int32)) then (
          some (1 : Int32))
        else (
          some (0 : Int32)))) fun t6 =>
      ckZ t6))
    else (
      (f_X7_manAt x1_ s1.2 h).bind fun v9 =>
      nm ((s1.1 ||| ((1 : Int32) <<< (v9 &&& 31)))) fun x10 =>
      self2 (x10, (s1.2 + 1))))) F ((0 : Int32), (0 : Int32))
set_option maxRecDepth 100000 in
set_option maxHeartbeats 4000000 in
theorem S_X7_isOrderOfMen (F : Nat) (x1_ : Int32) (h : Hp) (r : Int32) (hf : f_X7_isOrderOfMen F x1_ h = some r) : MetP Y_X7_isOrderOfMen 2 [.ref 0, .int x1_] h (some (.int r), h) := by
  unfold f_X7_isOrderOfMen at hf
  refine met_of yo_X7_isOrderOfMen (Nat.le_of_ble_eq_true rfl) ?_
  show Run Y_X7_isOrderOfMen _ 0 [some (.ref 0), some (.int x1_), none, none] [] h
  refine r_iconst (v := 0) dX7_isOrderOfMen_0 (by decide) ?_
  refine r_istore_nA dX7_isOrderOfMen_1 (by decide) ?_
  refine r_iconst (v := 0) dX7_isOrderOfMen_2 (by decide) ?_
  refine r_istore_nA dX7_isOrderOfMen_3 (by decide) ?_
  refine r_fix (σ := Int32 × Int32) (fun s1 => [some (.ref 0), some (.int x1_), some (.int s1.1), some (.int s1.2)]) (fun s1 => h) (fun self2 ih3 s1 hf => ?_) F ((0 : Int32), (0 : Int32)) hf
  refine r_iload_n dX7_isOrderOfMen_4 rfl ?_
  refine r_aload_n dX7_isOrderOfMen_5 rfl ?_
  refine r_getR (E := (0, 6, 14)) dX7_isOrderOfMen_6 sh_0 ft_X7_77 rfl hf fun y4 hy4 hf => ?_
  refine r_getI dX7_isOrderOfMen_9 hy4 ft_X7_154 rfl ?_
  refine r_icmp_ge 32 dX7_isOrderOfMen_12 (by decide) hf (fun c11 hf => ?_) (fun c11 hf => ?_)
  · refine r_iload_n dX7_isOrderOfMen_32 rfl ?_
    refine r_iconst (v := 1) dX7_isOrderOfMen_33 (by decide) ?_
    refine r_aload_n dX7_isOrderOfMen_34 rfl ?_
    refine r_getR (E := (0, 6, 14)) dX7_isOrderOfMen_35 sh_0 ft_X7_77 rfl hf fun y5 hy5 hf => ?_
    refine r_getI dX7_isOrderOfMen_38 hy5 ft_X7_154 rfl ?_
    refine r_ishl dX7_isOrderOfMen_41 ?_
    refine r_iconst (v := 1) dX7_isOrderOfMen_42 (by decide) ?_
    refine r_isub dX7_isOrderOfMen_43 ?_
    refine r_reg (P := fun t6 => Run Y_X7_isOrderOfMen (VM 2 (some (.int r), h)) 52 [some (.ref 0), some (.int x1_), some (.int s1.1), some (.int s1.2)] [.int t6] h) hf (fun t6 hf => ?_) (fun t6 key7 hf => ?_)
    · exact e_zP dX7_isOrderOfMen_52 rfl hf
    · refine r_icmp_ne 51 dX7_isOrderOfMen_44 (by decide) hf (fun c8 hf => ?_) (fun c8 hf => ?_)
      · refine r_iconst (v := 0) dX7_isOrderOfMen_51 (by decide) ?_
        cases hf; exact key7
      · refine r_iconst (v := 1) dX7_isOrderOfMen_47 (by decide) ?_
        refine r_goto 52 dX7_isOrderOfMen_48 (by decide) ?_
        cases hf; exact key7
  · refine r_iload_n dX7_isOrderOfMen_15 rfl ?_
    refine r_iconst (v := 1) dX7_isOrderOfMen_16 (by decide) ?_
    refine r_aload_n dX7_isOrderOfMen_17 rfl ?_
    refine r_iload_n dX7_isOrderOfMen_18 rfl ?_
    refine r_iload_n dX7_isOrderOfMen_19 rfl ?_
    obtain ⟨v9, hv, hf⟩ := bnd hf
    refine r_callV (lv := 1) dX7_isOrderOfMen_20 yo_X7_manAt yi_X7_manAt ml_X7_330 ya_X7_manAt sh_0 ⟨_, rfl, rfl⟩ (Fits.vm (by decide)) rfl rfl (Nat.le_of_ble_eq_true rfl) (S_X7_manAt x1_ s1.2 h  _ hv) ?_
    refine r_ishl dX7_isOrderOfMen_23 ?_
    refine r_ior dX7_isOrderOfMen_24 ?_
    refine r_istore_n dX7_isOrderOfMen_25 (by decide) hf fun x10 hf => ?_
    refine r_iincA (v := 1) dX7_isOrderOfMen_26 rfl (by decide) (by decide) ?_
    refine r_goto 4 dX7_isOrderOfMen_29 (by decide) ?_
    exact ih3 _ hf
def f_X7_quarrelsIn (F : Nat) (x1_ : Int32) (h : Hp) : Option Int32 :=
  fix (σ := Int32 × Int32) (ρ := Int32) (fun self2 s1 =>
    (if (gI h 0 13) ≤ s1.2 then (
      some s1.1)
    else (
      fix (σ := Int32 × Int32) (ρ := Int32) (fun self5 s4 =>
        (gO h 0 11 (0, 6, 14)).bind fun y7 =>
        (if (gI h y7 5) ≤ s4.2 then (
          self2 (s4.1, (s1.2 + 1)))
        else (
          (f_X7_manAt x1_ s4.2 h).bind fun v8 =>
          (gO h 0 11 (0, 6, 14)).bind fun y9 =>
          (f_X6_secondEnd y9 s4.2 h).bind fun v10 =>
          (f_X7_manAt x1_ v10 h).bind fun v11 =>
          (ldI h 38 s1.2).bind fun v12 =>
          (Option.bind (α := Int32) (
            (if v8 = v12 then (
              (ldI h 39 s1.2).bind fun v15 =>
              (if v11 = v15 then (
                some (1 : Int32))
              else (
                some (0 : Int32))))
            else (
              some (0 : Int32)))) fun t13 =>
          (Option.bind (α := Int32) (
            (if t13 = 0 then (
              (ldI h 39 s1.2).bind fun v20 =>
              (if v8 = v20 then (
                (ldI h 38 s1.2).bind fun v21 =>
                (if v11 = v21 then (
                  some (s4.1 + 1))
                else (
                  some s4.1)))
              else (
                some s4.1)))
            else (
              some (s4.1 + 1)))) fun t18 =>
          self5 (t18, (s4.2 + 1))))))) F (s1.1, (0 : Int32))))) F ((0 : Int32), (0 : Int32))
set_option maxRecDepth 100000 in
set_option maxHeartbeats 4000000 in
theorem S_X7_quarrelsIn (F : Nat) (x1_ : Int32) (h : Hp) (r : Int32) (hf : f_X7_quarrelsIn F x1_ h = some r) : MetP Y_X7_quarrelsIn 2 [.ref 0, .int x1_] h (some (.int r), h) := by
  unfold f_X7_quarrelsIn at hf
  refine met_of yo_X7_quarrelsIn (Nat.le_of_ble_eq_true rfl) ?_
  show Run Y_X7_quarrelsIn _ 0 [some (.ref 0), some (.int x1_), none, none, none, none, none, none] [] h
  refine r_iconst (v := 0) dX7_quarrelsIn_0 (by decide) ?_
  refine r_istore_nA dX7_quarrelsIn_1 (by decide) ?_
  refine r_iconst (v := 0) dX7_quarrelsIn_2 (by decide) ?_
  refine r_istore_nA dX7_quarrelsIn_3 (by decide) ?_
  refine r_fix (σ := Int32 × Int32) (fun s1 => [some (.ref 0), some (.int x1_), some (.int s1.1), some (.int s1.2), none, none, none, none]) (fun s1 => h) (fun self2 ih3 s1 hf => ?_) F ((0 : Int32), (0 : Int32)) hf
  refine r_iload_n dX7_quarrelsIn_4 rfl ?_
  refine r_aload_n dX7_quarrelsIn_5 rfl ?_
  refine r_getI dX7_quarrelsIn_6 sh_0 ft_X7_151 rfl ?_
  refine r_icmp_ge 123 dX7_quarrelsIn_9 (by decide) hf (fun c26 hf => ?_) (fun c26 hf => ?_)
  · refine r_iload_n dX7_quarrelsIn_123 rfl ?_
    exact e_iP dX7_quarrelsIn_124 rfl hf
  · refine r_iconst (v := 0) dX7_quarrelsIn_12 (by decide) ?_
    refine r_istoreA dX7_quarrelsIn_13 (by decide) ?_
    refine r_fix (σ := Int32 × Int32) (fun s4 => [some (.ref 0), some (.int x1_), some (.int s4.1), some (.int s1.2), some (.int s4.2), none, none, none]) (fun s4 => h) (fun self5 ih6 s4 hf => ?_) F (s1.1, (0 : Int32)) hf
    refine r_iload dX7_quarrelsIn_15 rfl ?_
    refine r_aload_n dX7_quarrelsIn_17 rfl ?_
    refine r_getR (E := (0, 6, 14)) dX7_quarrelsIn_18 sh_0 ft_X7_77 rfl hf fun y7 hy7 hf => ?_
    refine r_getI dX7_quarrelsIn_21 hy7 ft_X7_348 rfl ?_
    refine r_icmp_ge 117 dX7_quarrelsIn_24 (by decide) hf (fun c25 hf => ?_) (fun c25 hf => ?_)
    · refine r_iincA (v := 1) dX7_quarrelsIn_117 rfl (by decide) (by decide) ?_
      refine r_goto 4 dX7_quarrelsIn_120 (by decide) ?_
      refine r_lt (ll_s (ll_s (ll_s (ll_s (ll_n (ll_n (ll_n (ll_n ll_0)))))))) ?_
      exact ih3 _ hf
    · refine r_aload_n dX7_quarrelsIn_27 rfl ?_
      refine r_iload_n dX7_quarrelsIn_28 rfl ?_
      refine r_iload dX7_quarrelsIn_29 rfl ?_
      obtain ⟨v8, hv, hf⟩ := bnd hf
      refine r_callV (lv := 1) dX7_quarrelsIn_31 yo_X7_manAt yi_X7_manAt ml_X7_330 ya_X7_manAt sh_0 ⟨_, rfl, rfl⟩ (Fits.vm (by decide)) rfl rfl (Nat.le_of_ble_eq_true rfl) (S_X7_manAt x1_ s4.2 h  _ hv) ?_
      refine r_istoreA dX7_quarrelsIn_34 (by decide) ?_
      refine r_aload_n dX7_quarrelsIn_36 rfl ?_
      refine r_iload_n dX7_quarrelsIn_37 rfl ?_
      refine r_aload_n dX7_quarrelsIn_38 rfl ?_
      refine r_getR (E := (0, 6, 14)) dX7_quarrelsIn_39 sh_0 ft_X7_77 rfl hf fun y9 hy9 hf => ?_
      refine r_iload dX7_quarrelsIn_42 rfl ?_
      obtain ⟨v10, hv, hf⟩ := bnd hf
      refine r_callV (lv := 1) dX7_quarrelsIn_44 yo_X6_secondEnd yi_X6_secondEnd ml_X7_405 ya_X6_secondEnd hy9 ⟨_, rfl, rfl⟩ (Fits.vm (by decide)) rfl rfl (Nat.le_of_ble_eq_true rfl) (S_X6_secondEnd y9 s4.2 hy9 h  _ hv) ?_
      obtain ⟨v11, hv, hf⟩ := bnd hf
      refine r_callV (lv := 1) dX7_quarrelsIn_47 yo_X7_manAt yi_X7_manAt ml_X7_330 ya_X7_manAt sh_0 ⟨_, rfl, rfl⟩ (Fits.vm (by decide)) rfl rfl (Nat.le_of_ble_eq_true rfl) (S_X7_manAt x1_ v10 h  _ hv) ?_
      refine r_istoreA dX7_quarrelsIn_50 (by decide) ?_
      refine r_iload dX7_quarrelsIn_52 rfl ?_
      refine r_aload_n dX7_quarrelsIn_54 rfl ?_
      refine r_getS (b := 38) dX7_quarrelsIn_55 sh_0 ft_X7_64 rfl rfl ?_
      refine r_iload_n dX7_quarrelsIn_58 rfl ?_
      refine r_iald dX7_quarrelsIn_59 sh_38 hf fun v12 hf => ?_
      refine r_reg (P := fun t13 => Run Y_X7_quarrelsIn (VM 2 (some (.int r), h)) 79 [some (.ref 0), some (.int x1_), some (.int s4.1), some (.int s1.2), some (.int s4.2), some (.int v8), some (.int v11), none] [.int t13] h) hf (fun t13 hf => ?_) (fun t13 key14 hf => ?_)
      · refine r_istoreA dX7_quarrelsIn_79 (by decide) ?_
        refine r_iload dX7_quarrelsIn_81 rfl ?_
        refine r_reg (P := fun t18 => Run Y_X7_quarrelsIn (VM 2 (some (.int r), h)) 111 [some (.ref 0), some (.int x1_), some (.int t18), some (.int s1.2), some (.int s4.2), some (.int v8), some (.int v11), some (.int t13)] [] h) hf (fun t18 hf => ?_) (fun t18 key19 hf => ?_)
        · refine r_iincA (v := 1) dX7_quarrelsIn_111 rfl (by decide) (by decide) ?_
          refine r_goto 15 dX7_quarrelsIn_114 (by decide) ?_
          refine r_lt (ll_s (ll_s (ll_s (ll_s (ll_s (ll_n (ll_n (ll_n ll_0)))))))) ?_
          exact ih6 _ hf
        · refine r_if_ne 108 dX7_quarrelsIn_83 (by decide) hf (fun c24 hf => ?_) (fun c24 hf => ?_)
          · refine r_iincA (v := 1) dX7_quarrelsIn_108 rfl (by decide) (by decide) ?_
            cases hf; exact key19
          · refine r_iload dX7_quarrelsIn_86 rfl ?_
            refine r_aload_n dX7_quarrelsIn_88 rfl ?_
            refine r_getS (b := 39) dX7_quarrelsIn_89 sh_0 ft_X7_68 rfl rfl ?_
            refine r_iload_n dX7_quarrelsIn_92 rfl ?_
            refine r_iald dX7_quarrelsIn_93 sh_39 hf fun v20 hf => ?_
            refine r_icmp_ne 111 dX7_quarrelsIn_94 (by decide) hf (fun c23 hf => ?_) (fun c23 hf => ?_)
            · cases hf; exact key19
            · refine r_iload dX7_quarrelsIn_97 rfl ?_
              refine r_aload_n dX7_quarrelsIn_99 rfl ?_
              refine r_getS (b := 38) dX7_quarrelsIn_100 sh_0 ft_X7_64 rfl rfl ?_
              refine r_iload_n dX7_quarrelsIn_103 rfl ?_
              refine r_iald dX7_quarrelsIn_104 sh_38 hf fun v21 hf => ?_
              refine r_icmp_ne 111 dX7_quarrelsIn_105 (by decide) hf (fun c22 hf => ?_) (fun c22 hf => ?_)
              · cases hf; exact key19
              · refine r_iincA (v := 1) dX7_quarrelsIn_108 rfl (by decide) (by decide) ?_
                cases hf; exact key19
      · refine r_icmp_ne 78 dX7_quarrelsIn_60 (by decide) hf (fun c17 hf => ?_) (fun c17 hf => ?_)
        · refine r_iconst (v := 0) dX7_quarrelsIn_78 (by decide) ?_
          cases hf; exact key14
        · refine r_iload dX7_quarrelsIn_63 rfl ?_
          refine r_aload_n dX7_quarrelsIn_65 rfl ?_
          refine r_getS (b := 39) dX7_quarrelsIn_66 sh_0 ft_X7_68 rfl rfl ?_
          refine r_iload_n dX7_quarrelsIn_69 rfl ?_
          refine r_iald dX7_quarrelsIn_70 sh_39 hf fun v15 hf => ?_
          refine r_icmp_ne 78 dX7_quarrelsIn_71 (by decide) hf (fun c16 hf => ?_) (fun c16 hf => ?_)
          · refine r_iconst (v := 0) dX7_quarrelsIn_78 (by decide) ?_
            cases hf; exact key14
          · refine r_iconst (v := 1) dX7_quarrelsIn_74 (by decide) ?_
            refine r_goto 79 dX7_quarrelsIn_75 (by decide) ?_
            cases hf; exact key14
