def f_X8_keysFor (F : Nat) (x1_ : Int32) (x2_ : Int32) (h : Hp) : Option (Int32 × Hp) :=
  fix (σ := Int32 × Int32) (ρ := (Int32 × Hp)) (fun self2 s1 =>
    (ldI h 68 x1_).bind fun v4 =>
    (if ((1 : Int32) <<< (v4 &&& 31)) ≤ s1.2 then (
      (Option.bind (α := Int32 × Hp) (
        (if s1.1 = (-9 : Int32) then (
          some ((-9 : Int32), h))
        else (
          (f_X8_bits F s1.1 h).bind fun v7 =>
          (f_X8_tells s1.1 v7 h).bind fun v8 =>
          some (v8.1, v8.2)))) fun t5 =>
      some (t5.1, t5.2)))
    else (
      fix (σ := Int32 × Int32) (ρ := (Int32 × Hp)) (fun self11 s10 =>
        (ldI h 68 x1_).bind fun v13 =>
        (if v13 ≤ s10.2 then (
          (Option.bind (α := Int32) (
            (if (x2_ &&& (s10.1 ^^^ (-1 : Int32))) = 0 then (
              (if s1.1 = (-9 : Int32) then (
                some s1.2)
              else (
                (f_X8_bits F s1.2 h).bind fun v16 =>
                (f_X8_bits F s1.1 h).bind fun v17 =>
                (if v17 ≤ v16 then (
                  some s1.1)
                else (
                  some s1.2)))))
            else (
              some s1.1))) fun t14 =>
          self2 (t14, (s1.2 + 1))))
        else (
          (f_X8_has s1.2 s10.2 h).bind fun v21 =>
          (Option.bind (α := Int32) (
            (if v21 = 0 then (
              some (0 : Int32))
            else (
              (f_X8_rowAt x1_ s10.2 h).bind fun v24 =>
              some v24))) fun t22 =>
          self11 ((s10.1 ||| t22), (s10.2 + 1)))))) F ((0 : Int32), (0 : Int32))))) F ((-9 : Int32), (0 : Int32))
set_option maxRecDepth 100000 in
set_option maxHeartbeats 4000000 in
theorem S_X8_keysFor (F : Nat) (x1_ : Int32) (x2_ : Int32) (h : Hp) (r : (Int32 × Hp)) (hf : f_X8_keysFor F x1_ x2_ h = some r) : MetP Y_X8_keysFor 2 [.ref 66, .int x1_, .int x2_] h (some (.int r.1), r.2) := by
  unfold f_X8_keysFor at hf
  refine met_of yo_X8_keysFor (Nat.le_of_ble_eq_true rfl) ?_
  show Run Y_X8_keysFor _ 0 [some (.ref 66), some (.int x1_), some (.int x2_), none, none, none, none] [] h
  refine r_bipush (v := -9) dX8_keysFor_0 (by decide) ?_
  refine r_istore_nA dX8_keysFor_2 (by decide) ?_
  refine r_iconst (v := 0) dX8_keysFor_3 (by decide) ?_
  refine r_istoreA dX8_keysFor_4 (by decide) ?_
  refine r_fix (σ := Int32 × Int32) (fun s1 => [some (.ref 66), some (.int x1_), some (.int x2_), some (.int s1.1), some (.int s1.2), none, none]) (fun s1 => h) (fun self2 ih3 s1 hf => ?_) F ((-9 : Int32), (0 : Int32)) hf
  refine r_iload dX8_keysFor_6 rfl ?_
  refine r_iconst (v := 1) dX8_keysFor_8 (by decide) ?_
  refine r_aload_n dX8_keysFor_9 rfl ?_
  refine r_getS (b := 68) dX8_keysFor_10 sh_66 ft_X8_13 rfl rfl ?_
  refine r_iload_n dX8_keysFor_13 rfl ?_
  refine r_iald dX8_keysFor_14 sh_68 hf fun v4 hf => ?_
  refine r_ishl dX8_keysFor_15 ?_
  refine r_icmp_ge 108 dX8_keysFor_16 (by decide) hf (fun c27 hf => ?_) (fun c27 hf => ?_)
  · refine r_iload_n dX8_keysFor_108 rfl ?_
    refine r_bipush (v := -9) dX8_keysFor_109 (by decide) ?_
    refine r_reg (P := fun t5 => Run Y_X8_keysFor (VM 2 (some (.int r.1), r.2)) 128 [some (.ref 66), some (.int x1_), some (.int x2_), some (.int s1.1), some (.int s1.2), none, none] [.int t5.1] t5.2) hf (fun t5 hf => ?_) (fun t5 key6 hf => ?_)
    · exact e_iH dX8_keysFor_128 rfl hf
    · refine r_icmp_ne 119 dX8_keysFor_111 (by decide) hf (fun c9 hf => ?_) (fun c9 hf => ?_)
      · refine r_aload_n dX8_keysFor_119 rfl ?_
        refine r_iload_n dX8_keysFor_120 rfl ?_
        refine r_iload_n dX8_keysFor_121 rfl ?_
        obtain ⟨v7, hv, hf⟩ := bnd hf
        refine r_callS (lv := 1) dX8_keysFor_122 yo_X8_bits ys_X8_bits ml_X8_308 ya_X8_bits (Fits.vm (by decide)) rfl rfl (Nat.le_of_ble_eq_true rfl) (S_X8_bits F s1.1 h  _ hv) ?_
        obtain ⟨v8, hv, hf⟩ := bnd hf
        refine r_callV (lv := 1) dX8_keysFor_125 yo_X8_tells yi_X8_tells ml_X8_152 ya_X8_tells sh_66 ⟨_, rfl, rfl⟩ (Fits.vm (by decide)) rfl rfl (Nat.le_of_ble_eq_true rfl) (S_X8_tells s1.1 v7 h  _ hv) ?_
        cases hf; exact key6
      · refine r_bipush (v := -9) dX8_keysFor_114 (by decide) ?_
        refine r_goto 128 dX8_keysFor_116 (by decide) ?_
        cases hf; exact key6
  · refine r_iconst (v := 0) dX8_keysFor_19 (by decide) ?_
    refine r_istoreA dX8_keysFor_20 (by decide) ?_
    refine r_iconst (v := 0) dX8_keysFor_22 (by decide) ?_
    refine r_istoreA dX8_keysFor_23 (by decide) ?_
    refine r_fix (σ := Int32 × Int32) (fun s10 => [some (.ref 66), some (.int x1_), some (.int x2_), some (.int s1.1), some (.int s1.2), some (.int s10.1), some (.int s10.2)]) (fun s10 => h) (fun self11 ih12 s10 hf => ?_) F ((0 : Int32), (0 : Int32)) hf
    refine r_iload dX8_keysFor_25 rfl ?_
    refine r_aload_n dX8_keysFor_27 rfl ?_
    refine r_getS (b := 68) dX8_keysFor_28 sh_66 ft_X8_13 rfl rfl ?_
    refine r_iload_n dX8_keysFor_31 rfl ?_
    refine r_iald dX8_keysFor_32 sh_68 hf fun v13 hf => ?_
    refine r_icmp_ge 68 dX8_keysFor_33 (by decide) hf (fun c26 hf => ?_) (fun c26 hf => ?_)
    · refine r_iload_n dX8_keysFor_68 rfl ?_
      refine r_iload dX8_keysFor_69 rfl ?_
      refine r_iconst (v := -1) dX8_keysFor_71 (by decide) ?_
      refine r_ixor dX8_keysFor_72 ?_
      refine r_iand dX8_keysFor_73 ?_
      refine r_reg (P := fun t14 => Run Y_X8_keysFor (VM 2 (some (.int r.1), r.2)) 101 [some (.ref 66), some (.int x1_), some (.int x2_), some (.int s1.1), some (.int s1.2), some (.int s10.1), some (.int s10.2)] [.int t14] h) hf (fun t14 hf => ?_) (fun t14 key15 hf => ?_)
      · refine r_istore_nA dX8_keysFor_101 (by decide) ?_
        refine r_iincA (v := 1) dX8_keysFor_102 rfl (by decide) (by decide) ?_
        refine r_goto 6 dX8_keysFor_105 (by decide) ?_
        refine r_lt (ll_s (ll_s (ll_s (ll_s (ll_s (ll_n (ll_n ll_0))))))) ?_
        exact ih3 _ hf
      · refine r_if_ne 100 dX8_keysFor_74 (by decide) hf (fun c20 hf => ?_) (fun c20 hf => ?_)
        · refine r_iload_n dX8_keysFor_100 rfl ?_
          cases hf; exact key15
        · refine r_iload_n dX8_keysFor_77 rfl ?_
          refine r_bipush (v := -9) dX8_keysFor_78 (by decide) ?_
          refine r_icmp_eq 95 dX8_keysFor_80 (by decide) hf (fun c19 hf => ?_) (fun c19 hf => ?_)
          · refine r_iload dX8_keysFor_95 rfl ?_
            refine r_goto 101 dX8_keysFor_97 (by decide) ?_
            cases hf; exact key15
          · refine r_iload dX8_keysFor_83 rfl ?_
            obtain ⟨v16, hv, hf⟩ := bnd hf
            refine r_callS (lv := 1) dX8_keysFor_85 yo_X8_bits ys_X8_bits ml_X8_308 ya_X8_bits (Fits.vm (by decide)) rfl rfl (Nat.le_of_ble_eq_true rfl) (S_X8_bits F s1.2 h  _ hv) ?_
            refine r_iload_n dX8_keysFor_88 rfl ?_
            obtain ⟨v17, hv, hf⟩ := bnd hf
            refine r_callS (lv := 1) dX8_keysFor_89 yo_X8_bits ys_X8_bits ml_X8_308 ya_X8_bits (Fits.vm (by decide)) rfl rfl (Nat.le_of_ble_eq_true rfl) (S_X8_bits F s1.1 h  _ hv) ?_
            refine r_icmp_ge 100 dX8_keysFor_92 (by decide) hf (fun c18 hf => ?_) (fun c18 hf => ?_)
            · refine r_iload_n dX8_keysFor_100 rfl ?_
              cases hf; exact key15
            · refine r_iload dX8_keysFor_95 rfl ?_
              refine r_goto 101 dX8_keysFor_97 (by decide) ?_
              cases hf; exact key15
    · refine r_iload dX8_keysFor_36 rfl ?_
      refine r_iload dX8_keysFor_38 rfl ?_
      refine r_iload dX8_keysFor_40 rfl ?_
      obtain ⟨v21, hv, hf⟩ := bnd hf
      refine r_callS (lv := 1) dX8_keysFor_42 yo_X8_has ys_X8_has ml_X8_358 ya_X8_has (Fits.vm (by decide)) rfl rfl (Nat.le_of_ble_eq_true rfl) (S_X8_has s1.2 s10.2 h  _ hv) ?_
      refine r_reg (P := fun t22 => Run Y_X8_keysFor (VM 2 (some (.int r.1), r.2)) 59 [some (.ref 66), some (.int x1_), some (.int x2_), some (.int s1.1), some (.int s1.2), some (.int s10.1), some (.int s10.2)] [.int t22, .int s10.1] h) hf (fun t22 hf => ?_) (fun t22 key23 hf => ?_)
      · refine r_ior dX8_keysFor_59 ?_
        refine r_istoreA dX8_keysFor_60 (by decide) ?_
        refine r_iincA (v := 1) dX8_keysFor_62 rfl (by decide) (by decide) ?_
        refine r_goto 25 dX8_keysFor_65 (by decide) ?_
        exact ih12 _ hf
      · refine r_if_eq 58 dX8_keysFor_45 (by decide) hf (fun c25 hf => ?_) (fun c25 hf => ?_)
        · refine r_iconst (v := 0) dX8_keysFor_58 (by decide) ?_
          cases hf; exact key23
        · refine r_aload_n dX8_keysFor_48 rfl ?_
          refine r_iload_n dX8_keysFor_49 rfl ?_
          refine r_iload dX8_keysFor_50 rfl ?_
          obtain ⟨v24, hv, hf⟩ := bnd hf
          refine r_callV (lv := 1) dX8_keysFor_52 yo_X8_rowAt yi_X8_rowAt ml_X8_148 ya_X8_rowAt sh_66 ⟨_, rfl, rfl⟩ (Fits.vm (by decide)) rfl rfl (Nat.le_of_ble_eq_true rfl) (S_X8_rowAt x1_ s10.2 h  _ hv) ?_
          refine r_goto 59 dX8_keysFor_55 (by decide) ?_
          cases hf; exact key23
def f_X8_shutSet (F : Nat)  (h : Hp) : Option Int32 :=
  fix (σ := Int32 × Int32) (ρ := Int32) (fun self2 s1 =>
    (if (gI h 66 11) ≤ s1.2 then (
      some s1.1)
    else (
      (ldI h 77 s1.2).bind fun v4 =>
      (Option.bind (α := Int32) (
        (if v4 = 0 then (
          some ((1 : Int32) <<< (s1.2 &&& 31)))
        else (
          some (0 : Int32)))) fun t5 =>
      self2 ((s1.1 ||| t5), (s1.2 + 1)))))) F ((0 : Int32), (0 : Int32))
set_option maxRecDepth 100000 in
set_option maxHeartbeats 4000000 in
theorem S_X8_shutSet (F : Nat)  (h : Hp) (r : Int32) (hf : f_X8_shutSet F h = some r) : MetP Y_X8_shutSet 1 [.ref 66] h (some (.int r), h) := by
  unfold f_X8_shutSet at hf
  refine met_of yo_X8_shutSet (Nat.le_of_ble_eq_true rfl) ?_
  show Run Y_X8_shutSet _ 0 [some (.ref 66), none, none] [] h
  refine r_iconst (v := 0) dX8_shutSet_0 (by decide) ?_
  refine r_istore_nA dX8_shutSet_1 (by decide) ?_
  refine r_iconst (v := 0) dX8_shutSet_2 (by decide) ?_
  refine r_istore_nA dX8_shutSet_3 (by decide) ?_
  refine r_fix (σ := Int32 × Int32) (fun s1 => [some (.ref 66), some (.int s1.1), some (.int s1.2)]) (fun s1 => h) (fun self2 ih3 s1 hf => ?_) F ((0 : Int32), (0 : Int32)) hf
  refine r_iload_n dX8_shutSet_4 rfl ?_
  refine r_aload_n dX8_shutSet_5 rfl ?_
  refine r_getI dX8_shutSet_6 sh_66 ft_X8_227 rfl ?_
  refine r_icmp_ge 37 dX8_shutSet_9 (by decide) hf (fun c8 hf => ?_) (fun c8 hf => ?_)
  · refine r_iload_n dX8_shutSet_37 rfl ?_
    exact e_iP dX8_shutSet_38 rfl hf
  · refine r_iload_n dX8_shutSet_12 rfl ?_
    refine r_aload_n dX8_shutSet_13 rfl ?_
    refine r_getS (b := 77) dX8_shutSet_14 sh_66 ft_X8_41 rfl rfl ?_
    refine r_iload_n dX8_shutSet_17 rfl ?_
    refine r_iald dX8_shutSet_18 sh_77 hf fun v4 hf => ?_
    refine r_reg (P := fun t5 => Run Y_X8_shutSet (VM 1 (some (.int r), h)) 29 [some (.ref 66), some (.int s1.1), some (.int s1.2)] [.int t5, .int s1.1] h) hf (fun t5 hf => ?_) (fun t5 key6 hf => ?_)
    · refine r_ior dX8_shutSet_29 ?_
      refine r_istore_nA dX8_shutSet_30 (by decide) ?_
      refine r_iincA (v := 1) dX8_shutSet_31 rfl (by decide) (by decide) ?_
      refine r_goto 4 dX8_shutSet_34 (by decide) ?_
      exact ih3 _ hf
    · refine r_if_ne 28 dX8_shutSet_19 (by decide) hf (fun c7 hf => ?_) (fun c7 hf => ?_)
      · refine r_iconst (v := 0) dX8_shutSet_28 (by decide) ?_
        cases hf; exact key6
      · refine r_iconst (v := 1) dX8_shutSet_22 (by decide) ?_
        refine r_iload_n dX8_shutSet_23 rfl ?_
        refine r_ishl dX8_shutSet_24 ?_
        refine r_goto 29 dX8_shutSet_25 (by decide) ?_
        cases hf; exact key6
def f_X8_keys (F : Nat) (x1_ : Int32) (h : Hp) : Option (Int32 × Hp) :=
  (f_X8_isRow x1_ h).bind fun v1 =>
  (if v1 = 0 then (
    some ((-1 : Int32), h))
  else (
    (if (gI h 66 10) = 0 then (
      some ((-4 : Int32), h))
    else (
      (f_X8_needKeys F x1_ h).bind fun v2 =>
      (Option.bind (α := Int32 × Hp) (
        (if 0 ≤ v2.1 then (
          (f_X8_shutSet F v2.2).bind fun v5 =>
          (f_X8_keysFor F x1_ v5 v2.2).bind fun v6 =>
          some (v6.1, v6.2))
        else (
          some (v2.1, v2.2)))) fun t3 =>
      some (t3.1, t3.2))))))
set_option maxRecDepth 100000 in
set_option maxHeartbeats 4000000 in
theorem S_X8_keys (F : Nat) (x1_ : Int32) (h : Hp) (r : (Int32 × Hp)) (hf : f_X8_keys F x1_ h = some r) : MetP Y_X8_keys 3 [.ref 66, .int x1_] h (some (.int r.1), r.2) := by
  unfold f_X8_keys at hf
  refine met_of yo_X8_keys (Nat.le_of_ble_eq_true rfl) ?_
  show Run Y_X8_keys _ 0 [some (.ref 66), some (.int x1_), none] [] h
  refine r_iload_n dX8_keys_0 rfl ?_
  obtain ⟨v1, hv, hf⟩ := bnd hf
  refine r_callS (lv := 2) dX8_keys_1 yo_X8_isRow ys_X8_isRow ml_X8_140 ya_X8_isRow (Fits.vm (by decide)) rfl rfl (Nat.le_of_ble_eq_true rfl) (S_X8_isRow x1_ h  _ hv) ?_
  refine r_if_ne 9 dX8_keys_4 (by decide) hf (fun c9 hf => ?_) (fun c9 hf => ?_)
  · refine r_aload_n dX8_keys_9 rfl ?_
    refine r_getI dX8_keys_10 sh_66 ft_X8_221 rfl ?_
    refine r_if_ne 19 dX8_keys_13 (by decide) hf (fun c8 hf => ?_) (fun c8 hf => ?_)
    · refine r_aload_n dX8_keys_19 rfl ?_
      refine r_iload_n dX8_keys_20 rfl ?_
      obtain ⟨v2, hv, hf⟩ := bnd hf
      refine r_callV (lv := 2) dX8_keys_21 yo_X8_needKeys yi_X8_needKeys ml_X8_384 ya_X8_needKeys sh_66 ⟨_, rfl, rfl⟩ (Fits.vm (by decide)) rfl rfl (Nat.le_of_ble_eq_true rfl) (S_X8_needKeys F x1_ h  _ hv) ?_
      refine r_istore_nA dX8_keys_24 (by decide) ?_
      refine r_iload_n dX8_keys_25 rfl ?_
      refine r_reg (P := fun t3 => Run Y_X8_keys (VM 3 (some (.int r.1), r.2)) 42 [some (.ref 66), some (.int x1_), some (.int v2.1)] [.int t3.1] t3.2) hf (fun t3 hf => ?_) (fun t3 key4 hf => ?_)
      · exact e_iH dX8_keys_42 rfl hf
      · refine r_if_ge 33 dX8_keys_26 (by decide) hf (fun c7 hf => ?_) (fun c7 hf => ?_)
        · refine r_aload_n dX8_keys_33 rfl ?_
          refine r_iload_n dX8_keys_34 rfl ?_
          refine r_aload_n dX8_keys_35 rfl ?_
          obtain ⟨v5, hv, hf⟩ := bnd hf
          refine r_callV (lv := 1) dX8_keys_36 yo_X8_shutSet yi_X8_shutSet ml_X8_387 ya_X8_shutSet sh_66 ⟨_, rfl, rfl⟩ (Fits.vm (by decide)) rfl rfl (Nat.le_of_ble_eq_true rfl) (S_X8_shutSet F v2.2  _ hv) ?_
          obtain ⟨v6, hv, hf⟩ := bnd hf
          refine r_callV (lv := 2) dX8_keys_39 yo_X8_keysFor yi_X8_keysFor ml_X8_390 ya_X8_keysFor sh_66 ⟨_, rfl, rfl⟩ (Fits.vm (by decide)) rfl rfl (Nat.le_of_ble_eq_true rfl) (S_X8_keysFor F x1_ v5 v2.2  _ hv) ?_
          cases hf; exact key4
        · refine r_iload_n dX8_keys_29 rfl ?_
          refine r_goto 42 dX8_keys_30 (by decide) ?_
          cases hf; exact key4
    · refine r_bipush (v := -4) dX8_keys_16 (by decide) ?_
      exact e_iH dX8_keys_18 rfl hf
  · refine r_iconst (v := -1) dX8_keys_7 (by decide) ?_
    exact e_iH dX8_keys_8 rfl hf
def f_X8_free (F : Nat) (x1_ : Int32) (x2_ : Int32) (h : Hp) : Option (Int32 × Hp) :=
  (f_X8_isMan x1_ h).bind fun v1 =>
  (if v1 = 0 then (
    some ((-1 : Int32), h))
  else (
    (f_X8_isRow x2_ h).bind fun v2 =>
    (if v2 = 0 then (
      some ((-1 : Int32), h))
    else (
      (f_X8_needKeys F x2_ h).bind fun v3 =>
      (if 0 ≤ v3.1 then (
        fix (σ := Int32 × Int32) (ρ := (Int32 × Hp)) (fun self5 s4 =>
          (if (gI v3.2 66 11) ≤ s4.2 then (
            (f_X8_shutSet F v3.2).bind fun v7 =>
            (f_X8_keysFor F x2_ (s4.1 &&& v7) v3.2).bind fun v8 =>
            some (v8.1, v8.2))
          else (
            (Option.bind (α := Int32) (
              (if s4.2 = x1_ then (
                some ((1 : Int32) <<< (s4.2 &&& 31)))
              else (
                (f_X8_otherEnd s4.2 v3.2).bind fun v11 =>
                (if v11 = x1_ then (
                  some ((1 : Int32) <<< (s4.2 &&& 31)))
                else (
                  some (0 : Int32)))))) fun t9 =>
            self5 ((s4.1 ||| t9), (s4.2 + 1)))))) F ((0 : Int32), (0 : Int32)))
      else (
        some (v3.1, v3.2)))))))
set_option maxRecDepth 100000 in
set_option maxHeartbeats 4000000 in
theorem S_X8_free (F : Nat) (x1_ : Int32) (x2_ : Int32) (h : Hp) (r : (Int32 × Hp)) (hf : f_X8_free F x1_ x2_ h = some r) : MetP Y_X8_free 3 [.ref 66, .int x1_, .int x2_] h (some (.int r.1), r.2) := by
  unfold f_X8_free at hf
  refine met_of yo_X8_free (Nat.le_of_ble_eq_true rfl) ?_
  show Run Y_X8_free _ 0 [some (.ref 66), some (.int x1_), some (.int x2_), none, none, none] [] h
  refine r_aload_n dX8_free_0 rfl ?_
  refine r_iload_n dX8_free_1 rfl ?_
  obtain ⟨v1, hv, hf⟩ := bnd hf
  refine r_callV (lv := 2) dX8_free_2 yo_X8_isMan yi_X8_isMan ml_X8_287 ya_X8_isMan sh_66 ⟨_, rfl, rfl⟩ (Fits.vm (by decide)) rfl rfl (Nat.le_of_ble_eq_true rfl) (S_X8_isMan x1_ h  _ hv) ?_
  refine r_if_eq 15 dX8_free_5 (by decide) hf (fun c17 hf => ?_) (fun c17 hf => ?_)
  · refine r_iconst (v := -1) dX8_free_15 (by decide) ?_
    exact e_iH dX8_free_16 rfl hf
  · refine r_iload_n dX8_free_8 rfl ?_
    obtain ⟨v2, hv, hf⟩ := bnd hf
    refine r_callS (lv := 2) dX8_free_9 yo_X8_isRow ys_X8_isRow ml_X8_140 ya_X8_isRow (Fits.vm (by decide)) rfl rfl (Nat.le_of_ble_eq_true rfl) (S_X8_isRow x2_ h  _ hv) ?_
    refine r_if_ne 17 dX8_free_12 (by decide) hf (fun c16 hf => ?_) (fun c16 hf => ?_)
    · refine r_aload_n dX8_free_17 rfl ?_
      refine r_iload_n dX8_free_18 rfl ?_
      obtain ⟨v3, hv, hf⟩ := bnd hf
      refine r_callV (lv := 2) dX8_free_19 yo_X8_needKeys yi_X8_needKeys ml_X8_384 ya_X8_needKeys sh_66 ⟨_, rfl, rfl⟩ (Fits.vm (by decide)) rfl rfl (Nat.le_of_ble_eq_true rfl) (S_X8_needKeys F x2_ h  _ hv) ?_
      refine r_istore_nA dX8_free_22 (by decide) ?_
      refine r_iload_n dX8_free_23 rfl ?_
      refine r_if_ge 29 dX8_free_24 (by decide) hf (fun c15 hf => ?_) (fun c15 hf => ?_)
      · refine r_iconst (v := 0) dX8_free_29 (by decide) ?_
        refine r_istoreA dX8_free_30 (by decide) ?_
        refine r_iconst (v := 0) dX8_free_32 (by decide) ?_
        refine r_istoreA dX8_free_33 (by decide) ?_
        refine r_fix (σ := Int32 × Int32) (fun s4 => [some (.ref 66), some (.int x1_), some (.int x2_), some (.int v3.1), some (.int s4.1), some (.int s4.2)]) (fun s4 => v3.2) (fun self5 ih6 s4 hf => ?_) F ((0 : Int32), (0 : Int32)) hf
        refine r_iload dX8_free_35 rfl ?_
        refine r_aload_n dX8_free_37 rfl ?_
        refine r_getI dX8_free_38 sh_66 ft_X8_227 rfl ?_
        refine r_icmp_ge 79 dX8_free_41 (by decide) hf (fun c14 hf => ?_) (fun c14 hf => ?_)
        · refine r_aload_n dX8_free_79 rfl ?_
          refine r_iload_n dX8_free_80 rfl ?_
          refine r_iload dX8_free_81 rfl ?_
          refine r_aload_n dX8_free_83 rfl ?_
          obtain ⟨v7, hv, hf⟩ := bnd hf
          refine r_callV (lv := 1) dX8_free_84 yo_X8_shutSet yi_X8_shutSet ml_X8_387 ya_X8_shutSet sh_66 ⟨_, rfl, rfl⟩ (Fits.vm (by decide)) rfl rfl (Nat.le_of_ble_eq_true rfl) (S_X8_shutSet F v3.2  _ hv) ?_
          refine r_iand dX8_free_87 ?_
          obtain ⟨v8, hv, hf⟩ := bnd hf
          refine r_callV (lv := 2) dX8_free_88 yo_X8_keysFor yi_X8_keysFor ml_X8_390 ya_X8_keysFor sh_66 ⟨_, rfl, rfl⟩ (Fits.vm (by decide)) rfl rfl (Nat.le_of_ble_eq_true rfl) (S_X8_keysFor F x2_ (s4.1 &&& v7) v3.2  _ hv) ?_
          exact e_iH dX8_free_91 rfl hf
        · refine r_iload dX8_free_44 rfl ?_
          refine r_iload dX8_free_46 rfl ?_
          refine r_iload_n dX8_free_48 rfl ?_
          refine r_reg (P := fun t9 => Run Y_X8_free (VM 3 (some (.int r.1), r.2)) 70 [some (.ref 66), some (.int x1_), some (.int x2_), some (.int v3.1), some (.int s4.1), some (.int s4.2)] [.int t9, .int s4.1] v3.2) hf (fun t9 hf => ?_) (fun t9 key10 hf => ?_)
          · refine r_ior dX8_free_70 ?_
            refine r_istoreA dX8_free_71 (by decide) ?_
            refine r_iincA (v := 1) dX8_free_73 rfl (by decide) (by decide) ?_
            refine r_goto 35 dX8_free_76 (by decide) ?_
            exact ih6 _ hf
          · refine r_icmp_eq 62 dX8_free_49 (by decide) hf (fun c13 hf => ?_) (fun c13 hf => ?_)
            · refine r_iconst (v := 1) dX8_free_62 (by decide) ?_
              refine r_iload dX8_free_63 rfl ?_
              refine r_ishl dX8_free_65 ?_
              refine r_goto 70 dX8_free_66 (by decide) ?_
              cases hf; exact key10
            · refine r_aload_n dX8_free_52 rfl ?_
              refine r_iload dX8_free_53 rfl ?_
              obtain ⟨v11, hv, hf⟩ := bnd hf
              refine r_callV (lv := 1) dX8_free_55 yo_X8_otherEnd yi_X8_otherEnd ml_X8_243 ya_X8_otherEnd sh_66 ⟨_, rfl, rfl⟩ (Fits.vm (by decide)) rfl rfl (Nat.le_of_ble_eq_true rfl) (S_X8_otherEnd s4.2 v3.2  _ hv) ?_
              refine r_iload_n dX8_free_58 rfl ?_
              refine r_icmp_ne 69 dX8_free_59 (by decide) hf (fun c12 hf => ?_) (fun c12 hf => ?_)
              · refine r_iconst (v := 0) dX8_free_69 (by decide) ?_
                cases hf; exact key10
              · refine r_iconst (v := 1) dX8_free_62 (by decide) ?_
                refine r_iload dX8_free_63 rfl ?_
                refine r_ishl dX8_free_65 ?_
                refine r_goto 70 dX8_free_66 (by decide) ?_
                cases hf; exact key10
      · refine r_iload_n dX8_free_27 rfl ?_
        exact e_iH dX8_free_28 rfl hf
    · refine r_iconst (v := -1) dX8_free_15 (by decide) ?_
      exact e_iH dX8_free_16 rfl hf
def f_X8_filed (F : Nat) (x1_ : Int32) (h : Hp) : Option (Int32 × Hp) :=
  (f_X8_isRow x1_ h).bind fun v1 =>
  (if v1 = 0 then (
    some ((-1 : Int32), h))
  else (
    (if (gI h 66 10) = 0 then (
      some ((-4 : Int32), h))
    else (
      (ldI h 68 x1_).bind fun v2 =>
      (if 0 ≤ v2 then (
        (ldI h 68 x1_).bind fun v3 =>
        (rmI v3 (gI h 66 10)).bind fun v4 =>
        jn (α := (Unit) → Option (Int32 × Hp)) (fun t5 =>
          (f_X8_meets (5 : Int32) h).bind fun v8 =>
          some (v8.1, v8.2)) fun j6 =>
        (if v4 = 0 then (
          (ldI h 68 x1_).bind fun v9 =>
          (dvI v9 (gI h 66 10)).bind fun v10 =>
          (if v10 ≤ (8 : Int32) then (
            fix (σ := Int32 × Int32) (ρ := (Int32 × Hp)) (fun self12 s11 =>
              (ldI h 68 x1_).bind fun v14 =>
              (if v14 ≤ s11.2 then (
                (if s11.1 = 0 then (
                  (f_X8_meets (3 : Int32) h).bind fun v48 =>
                  some (v48.1, v48.2))
                else (
                  fix (σ := Int32 × Int32 × Hp) (ρ := (Int32 × Hp)) (fun self16 s15 =>
                    (ldI s15.2.2 68 x1_).bind fun v18 =>
                    (dvI v18 (gI s15.2.2 66 10)).bind fun v19 =>
                    (if v19 ≤ s15.2.1 then (
                      fix (σ := Int32 × Int32) (ρ := (Int32 × Hp)) (fun self21 s20 =>
                        (if (gI s15.2.2 66 11) ≤ s20.2 then (
                          (Option.bind (α := Int32) (
                            (if s15.1 = 0 then (
                              some (1 : Int32))
                            else (
                              some (0 : Int32)))) fun t23 =>
                          (f_X8_tells t23 s20.1 s15.2.2).bind fun v26 =>
                          some (v26.1, v26.2)))
                        else (
                          (ldI s15.2.2 77 s20.2).bind fun v27 =>
                          (Option.bind (α := Int32) (
                            (if v27 = 0 then (
                              (if (s15.1 &&& (((1 : Int32) <<< (s20.2 &&& 31)) ^^^ (-1 : Int32))) = 0 then (
                                some ((1 : Int32) <<< (s20.2 &&& 31)))
                              else (
                                some (0 : Int32))))
                            else (
                              some (0 : Int32)))) fun t28 =>
                          self21 ((s20.1 ||| t28), (s20.2 + 1)))))) F ((0 : Int32), (0 : Int32)))
                    else (
                      fix (σ := Int32 × Hp) (ρ := (Int32 × Hp)) (fun self34 s33 =>
                        (if (gI s33.2 66 10) ≤ s33.1 then (
                          fix (σ := Int32 × Int32) (ρ := (Int32 × Hp)) (fun self37 s36 =>
                            (if (gI s33.2 66 11) ≤ s36.2 then (
                              self16 (s36.1, (s15.2.1 + 1), s33.2))
                            else (
                              (f_X8_isKeptChain s36.2 s33.2).bind fun v39 =>
                              (Option.bind (α := Int32) (
                                (if v39 = 0 then (
                                  some ((1 : Int32) <<< (s36.2 &&& 31)))
                                else (
                                  some (0 : Int32)))) fun t40 =>
                              self37 ((s36.1 ||| t40), (s36.2 + 1)))))) F (s15.1, (0 : Int32)))
                        else (
                          (f_X8_rowAt x1_ (((gI s33.2 66 10) * s15.2.1) + s33.1) s33.2).bind fun v44 =>
                          (stI s33.2 82 s33.1 v44).bind fun h45 =>
                          self34 ((s33.1 + 1), h45)))) F ((0 : Int32), s15.2.2)))) F ((0 : Int32), (0 : Int32), h))))
              else (
                (Option.bind (α := Int32) (
                  (if s11.1 = 0 then (
                    some (0 : Int32))
                  else (
                    (f_X8_rowAt x1_ s11.2 h).bind fun v52 =>
                    (f_X8_isCell v52 h).bind fun v53 =>
                    (if v53 = 0 then (
                      some (0 : Int32))
                    else (
                      some (1 : Int32)))))) fun t50 =>
                self12 (t50, (s11.2 + 1)))))) F ((1 : Int32), (0 : Int32)))
          else (
            j6 ())))
        else (
          j6 ())))
      else (
        (f_X8_meets (1 : Int32) h).bind fun v59 =>
        some (v59.1, v59.2)))))))
set_option maxRecDepth 100000 in
set_option maxHeartbeats 4000000 in
theorem S_X8_filed (F : Nat) (x1_ : Int32) (h : Hp) (r : (Int32 × Hp)) (hf : f_X8_filed F x1_ h = some r) : MetP Y_X8_filed 5 [.ref 66, .int x1_] h (some (.int r.1), r.2) := by
  unfold f_X8_filed at hf
  refine met_of yo_X8_filed (Nat.le_of_ble_eq_true rfl) ?_
  show Run Y_X8_filed _ 0 [some (.ref 66), some (.int x1_), none, none, none, none] [] h
  refine r_iload_n dX8_filed_0 rfl ?_
  obtain ⟨v1, hv, hf⟩ := bnd hf
  refine r_callS (lv := 2) dX8_filed_1 yo_X8_isRow ys_X8_isRow ml_X8_140 ya_X8_isRow (Fits.vm (by decide)) rfl rfl (Nat.le_of_ble_eq_true rfl) (S_X8_isRow x1_ h  _ hv) ?_
  refine r_if_ne 9 dX8_filed_4 (by decide) hf (fun c62 hf => ?_) (fun c62 hf => ?_)
  · refine r_aload_n dX8_filed_9 rfl ?_
    refine r_getI dX8_filed_10 sh_66 ft_X8_221 rfl ?_
    refine r_if_ne 19 dX8_filed_13 (by decide) hf (fun c61 hf => ?_) (fun c61 hf => ?_)
    · refine r_aload_n dX8_filed_19 rfl ?_
      refine r_getS (b := 68) dX8_filed_20 sh_66 ft_X8_13 rfl rfl ?_
      refine r_iload_n dX8_filed_23 rfl ?_
      refine r_iald dX8_filed_24 sh_68 hf fun v2 hf => ?_
      refine r_if_ge 34 dX8_filed_25 (by decide) hf (fun c60 hf => ?_) (fun c60 hf => ?_)
      · refine r_aload_n dX8_filed_34 rfl ?_
        refine r_getS (b := 68) dX8_filed_35 sh_66 ft_X8_13 rfl rfl ?_
        refine r_iload_n dX8_filed_38 rfl ?_
        refine r_iald dX8_filed_39 sh_68 hf fun v3 hf => ?_
        refine r_aload_n dX8_filed_40 rfl ?_
        refine r_getI dX8_filed_41 sh_66 ft_X8_221 rfl ?_
        refine r_irem dX8_filed_44 hf fun v4 hf => ?_
        refine r_jn (P := fun t5 => Run Y_X8_filed (VM 5 (some (.int r.1), r.2)) 64 [some (.ref 66), some (.int x1_), none, none, none, none] [] h) hf (fun t5 hf => ?_) (fun j6 ih7 hf => ?_)
        · refine r_aload_n dX8_filed_64 rfl ?_
          refine r_iconst (v := 5) dX8_filed_65 (by decide) ?_
          obtain ⟨v8, hv, hf⟩ := bnd hf
          refine r_callV (lv := 1) dX8_filed_66 yo_X8_meets yi_X8_meets ml_X8_144 ya_X8_meets sh_66 ⟨_, rfl, rfl⟩ (Fits.vm (by decide)) rfl rfl (Nat.le_of_ble_eq_true rfl) (S_X8_meets (5 : Int32) h  _ hv) ?_
          exact e_iH dX8_filed_69 rfl hf
        refine r_if_ne 64 dX8_filed_45 (by decide) hf (fun c58 hf => ?_) (fun c58 hf => ?_)
        · exact ih7 _ hf
        · refine r_aload_n dX8_filed_48 rfl ?_
          refine r_getS (b := 68) dX8_filed_49 sh_66 ft_X8_13 rfl rfl ?_
          refine r_iload_n dX8_filed_52 rfl ?_
          refine r_iald dX8_filed_53 sh_68 hf fun v9 hf => ?_
          refine r_aload_n dX8_filed_54 rfl ?_
          refine r_getI dX8_filed_55 sh_66 ft_X8_221 rfl ?_
          refine r_idiv dX8_filed_58 hf fun v10 hf => ?_
          refine r_bipush (v := 8) dX8_filed_59 (by decide) ?_
          refine r_icmp_le 70 dX8_filed_61 (by decide) hf (fun c57 hf => ?_) (fun c57 hf => ?_)
          · refine r_iconst (v := 1) dX8_filed_70 (by decide) ?_
            refine r_istore_nA dX8_filed_71 (by decide) ?_
            refine r_iconst (v := 0) dX8_filed_72 (by decide) ?_
            refine r_istore_nA dX8_filed_73 (by decide) ?_
            refine r_fix (σ := Int32 × Int32) (fun s11 => [some (.ref 66), some (.int x1_), some (.int s11.1), some (.int s11.2), none, none]) (fun s11 => h) (fun self12 ih13 s11 hf => ?_) F ((1 : Int32), (0 : Int32)) hf
            refine r_iload_n dX8_filed_74 rfl ?_
            refine r_aload_n dX8_filed_75 rfl ?_
            refine r_getS (b := 68) dX8_filed_76 sh_66 ft_X8_13 rfl rfl ?_
            refine r_iload_n dX8_filed_79 rfl ?_
            refine r_iald dX8_filed_80 sh_68 hf fun v14 hf => ?_
            refine r_icmp_ge 113 dX8_filed_81 (by decide) hf (fun c56 hf => ?_) (fun c56 hf => ?_)
            · refine r_iload_n dX8_filed_113 rfl ?_
              refine r_if_ne 123 dX8_filed_114 (by decide) hf (fun c49 hf => ?_) (fun c49 hf => ?_)
              · refine r_iconst (v := 0) dX8_filed_123 (by decide) ?_
                refine r_istore_nA dX8_filed_124 (by decide) ?_
                refine r_iconst (v := 0) dX8_filed_125 (by decide) ?_
                refine r_istoreA dX8_filed_126 (by decide) ?_
                refine r_fix (σ := Int32 × Int32 × Hp) (fun s15 => [some (.ref 66), some (.int x1_), some (.int s11.1), some (.int s15.1), some (.int s15.2.1), none]) (fun s15 => s15.2.2) (fun self16 ih17 s15 hf => ?_) F ((0 : Int32), (0 : Int32), h) hf
                refine r_iload dX8_filed_128 rfl ?_
                refine r_aload_n dX8_filed_130 rfl ?_
                refine r_getS (b := 68) dX8_filed_131 sh_66 ft_X8_13 rfl rfl ?_
                refine r_iload_n dX8_filed_134 rfl ?_
                refine r_iald dX8_filed_135 sh_68 hf fun v18 hf => ?_
                refine r_aload_n dX8_filed_136 rfl ?_
                refine r_getI dX8_filed_137 sh_66 ft_X8_221 rfl ?_
                refine r_idiv dX8_filed_140 hf fun v19 hf => ?_
                refine r_icmp_ge 228 dX8_filed_141 (by decide) hf (fun c47 hf => ?_) (fun c47 hf => ?_)
                · refine r_iconst (v := 0) dX8_filed_228 (by decide) ?_
                  refine r_istoreA dX8_filed_229 (by decide) ?_
                  refine r_iconst (v := 0) dX8_filed_231 (by decide) ?_
                  refine r_istoreA dX8_filed_232 (by decide) ?_
                  refine r_fix (σ := Int32 × Int32) (fun s20 => [some (.ref 66), some (.int x1_), some (.int s11.1), some (.int s15.1), some (.int s20.1), some (.int s20.2)]) (fun s20 => s15.2.2) (fun self21 ih22 s20 hf => ?_) F ((0 : Int32), (0 : Int32)) hf
                  refine r_iload dX8_filed_234 rfl ?_
                  refine r_aload_n dX8_filed_236 rfl ?_
                  refine r_getI dX8_filed_237 sh_66 ft_X8_227 rfl ?_
                  refine r_icmp_ge 283 dX8_filed_240 (by decide) hf (fun c32 hf => ?_) (fun c32 hf => ?_)
                  · refine r_aload_n dX8_filed_283 rfl ?_
                    refine r_iload_n dX8_filed_284 rfl ?_
                    refine r_reg (P := fun t23 => Run Y_X8_filed (VM 5 (some (.int r.1), r.2)) 293 [some (.ref 66), some (.int x1_), some (.int s11.1), some (.int s15.1), some (.int s20.1), some (.int s20.2)] [.int t23, .ref 66] s15.2.2) hf (fun t23 hf => ?_) (fun t23 key24 hf => ?_)
                    · refine r_iload dX8_filed_293 rfl ?_
                      obtain ⟨v26, hv, hf⟩ := bnd hf
                      refine r_callV (lv := 1) dX8_filed_295 yo_X8_tells yi_X8_tells ml_X8_152 ya_X8_tells sh_66 ⟨_, rfl, rfl⟩ (Fits.vm (by decide)) rfl rfl (Nat.le_of_ble_eq_true rfl) (S_X8_tells t23 s20.1 s15.2.2  _ hv) ?_
                      exact e_iH dX8_filed_298 rfl hf
                    · refine r_if_ne 292 dX8_filed_285 (by decide) hf (fun c25 hf => ?_) (fun c25 hf => ?_)
                      · refine r_iconst (v := 0) dX8_filed_292 (by decide) ?_
                        cases hf; exact key24
                      · refine r_iconst (v := 1) dX8_filed_288 (by decide) ?_
                        refine r_goto 293 dX8_filed_289 (by decide) ?_
                        cases hf; exact key24
                  · refine r_iload dX8_filed_243 rfl ?_
                    refine r_aload_n dX8_filed_245 rfl ?_
                    refine r_getS (b := 77) dX8_filed_246 sh_66 ft_X8_41 rfl rfl ?_
                    refine r_iload dX8_filed_249 rfl ?_
                    refine r_iald dX8_filed_251 sh_77 hf fun v27 hf => ?_
                    refine r_reg (P := fun t28 => Run Y_X8_filed (VM 5 (some (.int r.1), r.2)) 274 [some (.ref 66), some (.int x1_), some (.int s11.1), some (.int s15.1), some (.int s20.1), some (.int s20.2)] [.int t28, .int s20.1] s15.2.2) hf (fun t28 hf => ?_) (fun t28 key29 hf => ?_)
                    · refine r_ior dX8_filed_274 ?_
                      refine r_istoreA dX8_filed_275 (by decide) ?_
                      refine r_iincA (v := 1) dX8_filed_277 rfl (by decide) (by decide) ?_
                      refine r_goto 234 dX8_filed_280 (by decide) ?_
                      exact ih22 _ hf
                    · refine r_if_ne 273 dX8_filed_252 (by decide) hf (fun c31 hf => ?_) (fun c31 hf => ?_)
                      · refine r_iconst (v := 0) dX8_filed_273 (by decide) ?_
                        cases hf; exact key29
                      · refine r_iload_n dX8_filed_255 rfl ?_
                        refine r_iconst (v := 1) dX8_filed_256 (by decide) ?_
                        refine r_iload dX8_filed_257 rfl ?_
                        refine r_ishl dX8_filed_259 ?_
                        refine r_iconst (v := -1) dX8_filed_260 (by decide) ?_
                        refine r_ixor dX8_filed_261 ?_
                        refine r_iand dX8_filed_262 ?_
                        refine r_if_ne 273 dX8_filed_263 (by decide) hf (fun c30 hf => ?_) (fun c30 hf => ?_)
                        · refine r_iconst (v := 0) dX8_filed_273 (by decide) ?_
                          cases hf; exact key29
                        · refine r_iconst (v := 1) dX8_filed_266 (by decide) ?_
                          refine r_iload dX8_filed_267 rfl ?_
                          refine r_ishl dX8_filed_269 ?_
                          refine r_goto 274 dX8_filed_270 (by decide) ?_
                          cases hf; exact key29
                · refine r_iconst (v := 0) dX8_filed_144 (by decide) ?_
                  refine r_istoreA dX8_filed_145 (by decide) ?_
                  refine r_fix (σ := Int32 × Hp) (fun s33 => [some (.ref 66), some (.int x1_), some (.int s11.1), some (.int s15.1), some (.int s15.2.1), some (.int s33.1)]) (fun s33 => s33.2) (fun self34 ih35 s33 hf => ?_) F ((0 : Int32), s15.2.2) hf
                  refine r_iload dX8_filed_147 rfl ?_
                  refine r_aload_n dX8_filed_149 rfl ?_
                  refine r_getI dX8_filed_150 sh_66 ft_X8_221 rfl ?_
                  refine r_icmp_ge 184 dX8_filed_153 (by decide) hf (fun c46 hf => ?_) (fun c46 hf => ?_)
                  · refine r_iconst (v := 0) dX8_filed_184 (by decide) ?_
                    refine r_istoreA dX8_filed_185 (by decide) ?_
                    refine r_fix (σ := Int32 × Int32) (fun s36 => [some (.ref 66), some (.int x1_), some (.int s11.1), some (.int s36.1), some (.int s15.2.1), some (.int s36.2)]) (fun s36 => s33.2) (fun self37 ih38 s36 hf => ?_) F (s15.1, (0 : Int32)) hf
                    refine r_iload dX8_filed_187 rfl ?_
                    refine r_aload_n dX8_filed_189 rfl ?_
                    refine r_getI dX8_filed_190 sh_66 ft_X8_227 rfl ?_
                    refine r_icmp_ge 222 dX8_filed_193 (by decide) hf (fun c43 hf => ?_) (fun c43 hf => ?_)
                    · refine r_iincA (v := 1) dX8_filed_222 rfl (by decide) (by decide) ?_
                      refine r_goto 128 dX8_filed_225 (by decide) ?_
                      refine r_lt (ll_s (ll_s (ll_s (ll_s (ll_s (ll_n ll_0)))))) ?_
                      exact ih17 _ hf
                    · refine r_iload_n dX8_filed_196 rfl ?_
                      refine r_aload_n dX8_filed_197 rfl ?_
                      refine r_iload dX8_filed_198 rfl ?_
                      obtain ⟨v39, hv, hf⟩ := bnd hf
                      refine r_callV (lv := 4) dX8_filed_200 yo_X8_isKeptChain yi_X8_isKeptChain ml_X8_252 ya_X8_isKeptChain sh_66 ⟨_, rfl, rfl⟩ (Fits.vm (by decide)) rfl rfl (Nat.le_of_ble_eq_true rfl) (S_X8_isKeptChain s36.2 s33.2  _ hv) ?_
                      refine r_reg (P := fun t40 => Run Y_X8_filed (VM 5 (some (.int r.1), r.2)) 214 [some (.ref 66), some (.int x1_), some (.int s11.1), some (.int s36.1), some (.int s15.2.1), some (.int s36.2)] [.int t40, .int s36.1] s33.2) hf (fun t40 hf => ?_) (fun t40 key41 hf => ?_)
                      · refine r_ior dX8_filed_214 ?_
                        refine r_istore_nA dX8_filed_215 (by decide) ?_
                        refine r_iincA (v := 1) dX8_filed_216 rfl (by decide) (by decide) ?_
                        refine r_goto 187 dX8_filed_219 (by decide) ?_
                        exact ih38 _ hf
                      · refine r_if_eq 210 dX8_filed_203 (by decide) hf (fun c42 hf => ?_) (fun c42 hf => ?_)
                        · refine r_iconst (v := 1) dX8_filed_210 (by decide) ?_
                          refine r_iload dX8_filed_211 rfl ?_
                          refine r_ishl dX8_filed_213 ?_
                          cases hf; exact key41
                        · refine r_iconst (v := 0) dX8_filed_206 (by decide) ?_
                          refine r_goto 214 dX8_filed_207 (by decide) ?_
                          cases hf; exact key41
                  · refine r_aload_n dX8_filed_156 rfl ?_
                    refine r_getS (b := 82) dX8_filed_157 sh_66 ft_X8_56 rfl rfl ?_
                    refine r_iload dX8_filed_160 rfl ?_
                    refine r_aload_n dX8_filed_162 rfl ?_
                    refine r_iload_n dX8_filed_163 rfl ?_
                    refine r_aload_n dX8_filed_164 rfl ?_
                    refine r_getI dX8_filed_165 sh_66 ft_X8_221 rfl ?_
                    refine r_iload dX8_filed_168 rfl ?_
                    refine r_imul dX8_filed_170 ?_
                    refine r_iload dX8_filed_171 rfl ?_
                    refine r_iadd dX8_filed_173 ?_
                    obtain ⟨v44, hv, hf⟩ := bnd hf
                    refine r_callV (lv := 1) dX8_filed_174 yo_X8_rowAt yi_X8_rowAt ml_X8_148 ya_X8_rowAt sh_66 ⟨_, rfl, rfl⟩ (Fits.vm (by decide)) rfl rfl (Nat.le_of_ble_eq_true rfl) (S_X8_rowAt x1_ (((gI s33.2 66 10) * s15.2.1) + s33.1) s33.2  _ hv) ?_
                    refine r_iast dX8_filed_177 sh_82 hf fun h45 hf => ?_
                    refine r_iincA (v := 1) dX8_filed_178 rfl (by decide) (by decide) ?_
                    refine r_goto 147 dX8_filed_181 (by decide) ?_
                    exact ih35 _ hf
              · refine r_aload_n dX8_filed_117 rfl ?_
                refine r_iconst (v := 3) dX8_filed_118 (by decide) ?_
                obtain ⟨v48, hv, hf⟩ := bnd hf
                refine r_callV (lv := 1) dX8_filed_119 yo_X8_meets yi_X8_meets ml_X8_144 ya_X8_meets sh_66 ⟨_, rfl, rfl⟩ (Fits.vm (by decide)) rfl rfl (Nat.le_of_ble_eq_true rfl) (S_X8_meets (3 : Int32) h  _ hv) ?_
                exact e_iH dX8_filed_122 rfl hf
            · refine r_iload_n dX8_filed_84 rfl ?_
              refine r_reg (P := fun t50 => Run Y_X8_filed (VM 5 (some (.int r.1), r.2)) 106 [some (.ref 66), some (.int x1_), some (.int s11.1), some (.int s11.2), none, none] [.int t50] h) hf (fun t50 hf => ?_) (fun t50 key51 hf => ?_)
              · refine r_istore_nA dX8_filed_106 (by decide) ?_
                refine r_iincA (v := 1) dX8_filed_107 rfl (by decide) (by decide) ?_
                refine r_goto 74 dX8_filed_110 (by decide) ?_
                exact ih13 _ hf
              · refine r_if_eq 105 dX8_filed_85 (by decide) hf (fun c55 hf => ?_) (fun c55 hf => ?_)
                · refine r_iconst (v := 0) dX8_filed_105 (by decide) ?_
                  cases hf; exact key51
                · refine r_aload_n dX8_filed_88 rfl ?_
                  refine r_aload_n dX8_filed_89 rfl ?_
                  refine r_iload_n dX8_filed_90 rfl ?_
                  refine r_iload_n dX8_filed_91 rfl ?_
                  obtain ⟨v52, hv, hf⟩ := bnd hf
                  refine r_callV (lv := 1) dX8_filed_92 yo_X8_rowAt yi_X8_rowAt ml_X8_148 ya_X8_rowAt sh_66 ⟨_, rfl, rfl⟩ (Fits.vm (by decide)) rfl rfl (Nat.le_of_ble_eq_true rfl) (S_X8_rowAt x1_ s11.2 h  _ hv) ?_
                  obtain ⟨v53, hv, hf⟩ := bnd hf
                  refine r_callV (lv := 2) dX8_filed_95 yo_X8_isCell yi_X8_isCell ml_X8_323 ya_X8_isCell sh_66 ⟨_, rfl, rfl⟩ (Fits.vm (by decide)) rfl rfl (Nat.le_of_ble_eq_true rfl) (S_X8_isCell v52 h  _ hv) ?_
                  refine r_if_eq 105 dX8_filed_98 (by decide) hf (fun c54 hf => ?_) (fun c54 hf => ?_)
                  · refine r_iconst (v := 0) dX8_filed_105 (by decide) ?_
                    cases hf; exact key51
                  · refine r_iconst (v := 1) dX8_filed_101 (by decide) ?_
                    refine r_goto 106 dX8_filed_102 (by decide) ?_
                    cases hf; exact key51
          · exact ih7 _ hf
      · refine r_aload_n dX8_filed_28 rfl ?_
        refine r_iconst (v := 1) dX8_filed_29 (by decide) ?_
        obtain ⟨v59, hv, hf⟩ := bnd hf
        refine r_callV (lv := 1) dX8_filed_30 yo_X8_meets yi_X8_meets ml_X8_144 ya_X8_meets sh_66 ⟨_, rfl, rfl⟩ (Fits.vm (by decide)) rfl rfl (Nat.le_of_ble_eq_true rfl) (S_X8_meets (1 : Int32) h  _ hv) ?_
        exact e_iH dX8_filed_33 rfl hf
    · refine r_bipush (v := -4) dX8_filed_16 (by decide) ?_
      exact e_iH dX8_filed_18 rfl hf
  · refine r_iconst (v := -1) dX8_filed_7 (by decide) ?_
    exact e_iH dX8_filed_8 rfl hf
def f_X8_judge (F : Nat) (x1_ : Int32) (h : Hp) : Option (Int32 × Hp) :=
  (f_X8_isRow x1_ h).bind fun v1 =>
  (if v1 = 0 then (
    some ((-1 : Int32), h))
  else (
    (if (gI h 66 10) = 0 then (
      some ((-4 : Int32), h))
    else (
      (ldI h 68 x1_).bind fun v2 =>
      (if 0 ≤ v2 then (
        fix (σ := Int32 × Int32) (ρ := (Int32 × Hp)) (fun self4 s3 =>
          (ldI h 68 x1_).bind fun v6 =>
          (if v6 ≤ s3.2 then (
            (if s3.1 = 0 then (
              (f_X8_meets (3 : Int32) h).bind fun v26 =>
              some (v26.1, v26.2))
            else (
              (f_X8_lookAtNow F h).bind fun h7 =>
              fix (σ := Int32 × Hp) (ρ := (Int32 × Hp)) (fun self9 s8 =>
                (ldI s8.2 68 x1_).bind fun v11 =>
                jn (α := (Hp) → Option (Int32 × Hp)) (fun t12 =>
                  fix (σ := Int32 × Int32) (ρ := (Int32 × Hp)) (fun self16 s15 =>
                    (if (gI t12 66 11) ≤ s15.2 then (
                      (f_X8_tells s15.1 s8.1 t12).bind fun v18 =>
                      some (v18.1, v18.2))
                    else (
                      (f_X8_farOf s15.2 t12).bind fun v19 =>
                      self16 ((s15.1 + v19), (s15.2 + 1))))) F ((0 : Int32), (0 : Int32))) fun j13 =>
                (if v11 ≤ s8.1 then (
                  j13 s8.2)
                else (
                  (f_X8_rowAt x1_ s8.1 s8.2).bind fun v21 =>
                  (f_X8_rowAt x1_ s8.1 s8.2).bind fun v22 =>
                  (f_X8_steps F (v21 / (10 : Int32)) (rem32 v22 (10 : Int32)) s8.2).bind fun v23 =>
                  (if v23.1 = 0 then (
                    j13 v23.2)
                  else (
                    self9 ((s8.1 + 1), v23.2)))))) F ((0 : Int32), h7))))
          else (
            (f_X8_rowAt x1_ s3.2 h).bind fun v28 =>
            (Option.bind (α := Int32) (
              (if s3.1 = 0 then (
                some (0 : Int32))
              else (
                (if v28 < 0 then (
                  some (0 : Int32))
                else (
                  (f_X8_isMan (v28 / (10 : Int32)) h).bind fun v31 =>
                  (if v31 = 0 then (
                    some (0 : Int32))
                  else (
                    (if (4 : Int32) ≤ (rem32 v28 (10 : Int32)) then (
                      some (0 : Int32))
                    else (
                      some (1 : Int32)))))))))) fun t29 =>
            self4 (t29, (s3.2 + 1)))))) F ((1 : Int32), (0 : Int32)))
      else (
        (f_X8_meets (1 : Int32) h).bind fun v37 =>
        some (v37.1, v37.2)))))))
set_option maxRecDepth 100000 in
set_option maxHeartbeats 4000000 in
theorem S_X8_judge (F : Nat) (x1_ : Int32) (h : Hp) (r : (Int32 × Hp)) (hf : f_X8_judge F x1_ h = some r) : MetP Y_X8_judge 7 [.ref 66, .int x1_] h (some (.int r.1), r.2) := by
  unfold f_X8_judge at hf
  refine met_of yo_X8_judge (Nat.le_of_ble_eq_true rfl) ?_
  show Run Y_X8_judge _ 0 [some (.ref 66), some (.int x1_), none, none, none, none] [] h
  refine r_iload_n dX8_judge_0 rfl ?_
  obtain ⟨v1, hv, hf⟩ := bnd hf
  refine r_callS (lv := 2) dX8_judge_1 yo_X8_isRow ys_X8_isRow ml_X8_140 ya_X8_isRow (Fits.vm (by decide)) rfl rfl (Nat.le_of_ble_eq_true rfl) (S_X8_isRow x1_ h  _ hv) ?_
  refine r_if_ne 9 dX8_judge_4 (by decide) hf (fun c40 hf => ?_) (fun c40 hf => ?_)
  · refine r_aload_n dX8_judge_9 rfl ?_
    refine r_getI dX8_judge_10 sh_66 ft_X8_221 rfl ?_
    refine r_if_ne 19 dX8_judge_13 (by decide) hf (fun c39 hf => ?_) (fun c39 hf => ?_)
    · refine r_aload_n dX8_judge_19 rfl ?_
      refine r_getS (b := 68) dX8_judge_20 sh_66 ft_X8_13 rfl rfl ?_
      refine r_iload_n dX8_judge_23 rfl ?_
      refine r_iald dX8_judge_24 sh_68 hf fun v2 hf => ?_
      refine r_if_ge 34 dX8_judge_25 (by decide) hf (fun c38 hf => ?_) (fun c38 hf => ?_)
      · refine r_iconst (v := 1) dX8_judge_34 (by decide) ?_
        refine r_istore_nA dX8_judge_35 (by decide) ?_
        refine r_iconst (v := 0) dX8_judge_36 (by decide) ?_
        refine r_istore_nA dX8_judge_37 (by decide) ?_
        refine r_fix (σ := Int32 × Int32) (fun s3 => [some (.ref 66), some (.int x1_), some (.int s3.1), some (.int s3.2), none, none]) (fun s3 => h) (fun self4 ih5 s3 hf => ?_) F ((1 : Int32), (0 : Int32)) hf
        refine r_iload_n dX8_judge_38 rfl ?_
        refine r_aload_n dX8_judge_39 rfl ?_
        refine r_getS (b := 68) dX8_judge_40 sh_66 ft_X8_13 rfl rfl ?_
        refine r_iload_n dX8_judge_43 rfl ?_
        refine r_iald dX8_judge_44 sh_68 hf fun v6 hf => ?_
        refine r_icmp_ge 98 dX8_judge_45 (by decide) hf (fun c36 hf => ?_) (fun c36 hf => ?_)
        · refine r_iload_n dX8_judge_98 rfl ?_
          refine r_if_ne 108 dX8_judge_99 (by decide) hf (fun c27 hf => ?_) (fun c27 hf => ?_)
          · refine r_aload_n dX8_judge_108 rfl ?_
            obtain ⟨h7, hv, hf⟩ := bnd hf
            refine r_callV (lv := 1) dX8_judge_109 yo_X8_lookAtNow yi_X8_lookAtNow ml_X8_293 ya_X8_lookAtNow sh_66 ⟨_, rfl, rfl⟩ (Fits.vm (by decide)) rfl rfl (Nat.le_of_ble_eq_true rfl) (S_X8_lookAtNow F h  _ hv) ?_
            refine r_iconst (v := 0) dX8_judge_112 (by decide) ?_
            refine r_istore_nA dX8_judge_113 (by decide) ?_
            refine r_fix (σ := Int32 × Hp) (fun s8 => [some (.ref 66), some (.int x1_), some (.int s3.1), some (.int s8.1), none, none]) (fun s8 => s8.2) (fun self9 ih10 s8 hf => ?_) F ((0 : Int32), h7) hf
            refine r_iload_n dX8_judge_114 rfl ?_
            refine r_aload_n dX8_judge_115 rfl ?_
            refine r_getS (b := 68) dX8_judge_116 sh_66 ft_X8_13 rfl rfl ?_
            refine r_iload_n dX8_judge_119 rfl ?_
            refine r_iald dX8_judge_120 sh_68 hf fun v11 hf => ?_
            refine r_jn (P := fun t12 => Run Y_X8_judge (VM 7 (some (.int r.1), r.2)) 155 [some (.ref 66), some (.int x1_), some (.int s3.1), some (.int s8.1), none, none] [] t12) hf (fun t12 hf => ?_) (fun j13 ih14 hf => ?_)
            · refine r_iconst (v := 0) dX8_judge_155 (by decide) ?_
              refine r_istoreA dX8_judge_156 (by decide) ?_
              refine r_iconst (v := 0) dX8_judge_158 (by decide) ?_
              refine r_istoreA dX8_judge_159 (by decide) ?_
              refine r_fix (σ := Int32 × Int32) (fun s15 => [some (.ref 66), some (.int x1_), some (.int s3.1), some (.int s8.1), some (.int s15.1), some (.int s15.2)]) (fun s15 => t12) (fun self16 ih17 s15 hf => ?_) F ((0 : Int32), (0 : Int32)) hf
              refine r_iload dX8_judge_161 rfl ?_
              refine r_aload_n dX8_judge_163 rfl ?_
              refine r_getI dX8_judge_164 sh_66 ft_X8_227 rfl ?_
              refine r_icmp_ge 187 dX8_judge_167 (by decide) hf (fun c20 hf => ?_) (fun c20 hf => ?_)
              · refine r_aload_n dX8_judge_187 rfl ?_
                refine r_iload dX8_judge_188 rfl ?_
                refine r_iload_n dX8_judge_190 rfl ?_
                obtain ⟨v18, hv, hf⟩ := bnd hf
                refine r_callV (lv := 1) dX8_judge_191 yo_X8_tells yi_X8_tells ml_X8_152 ya_X8_tells sh_66 ⟨_, rfl, rfl⟩ (Fits.vm (by decide)) rfl rfl (Nat.le_of_ble_eq_true rfl) (S_X8_tells s15.1 s8.1 t12  _ hv) ?_
                exact e_iH dX8_judge_194 rfl hf
              · refine r_iload dX8_judge_170 rfl ?_
                refine r_aload_n dX8_judge_172 rfl ?_
                refine r_iload dX8_judge_173 rfl ?_
                obtain ⟨v19, hv, hf⟩ := bnd hf
                refine r_callV (lv := 3) dX8_judge_175 yo_X8_farOf yi_X8_farOf ml_X8_246 ya_X8_farOf sh_66 ⟨_, rfl, rfl⟩ (Fits.vm (by decide)) rfl rfl (Nat.le_of_ble_eq_true rfl) (S_X8_farOf s15.2 t12  _ hv) ?_
                refine r_iadd dX8_judge_178 ?_
                refine r_istoreA dX8_judge_179 (by decide) ?_
                refine r_iincA (v := 1) dX8_judge_181 rfl (by decide) (by decide) ?_
                refine r_goto 161 dX8_judge_184 (by decide) ?_
                exact ih17 _ hf
            refine r_icmp_ge 155 dX8_judge_121 (by decide) hf (fun c25 hf => ?_) (fun c25 hf => ?_)
            · exact ih14 _ hf
            · refine r_aload_n dX8_judge_124 rfl ?_
              refine r_aload_n dX8_judge_125 rfl ?_
              refine r_iload_n dX8_judge_126 rfl ?_
              refine r_iload_n dX8_judge_127 rfl ?_
              obtain ⟨v21, hv, hf⟩ := bnd hf
              refine r_callV (lv := 1) dX8_judge_128 yo_X8_rowAt yi_X8_rowAt ml_X8_148 ya_X8_rowAt sh_66 ⟨_, rfl, rfl⟩ (Fits.vm (by decide)) rfl rfl (Nat.le_of_ble_eq_true rfl) (S_X8_rowAt x1_ s8.1 s8.2  _ hv) ?_
              refine r_bipush (v := 10) dX8_judge_131 (by decide) ?_
              refine r_idivK dX8_judge_133 (by decide) ?_
              refine r_aload_n dX8_judge_134 rfl ?_
              refine r_iload_n dX8_judge_135 rfl ?_
              refine r_iload_n dX8_judge_136 rfl ?_
              obtain ⟨v22, hv, hf⟩ := bnd hf
              refine r_callV (lv := 1) dX8_judge_137 yo_X8_rowAt yi_X8_rowAt ml_X8_148 ya_X8_rowAt sh_66 ⟨_, rfl, rfl⟩ (Fits.vm (by decide)) rfl rfl (Nat.le_of_ble_eq_true rfl) (S_X8_rowAt x1_ s8.1 s8.2  _ hv) ?_
              refine r_bipush (v := 10) dX8_judge_140 (by decide) ?_
              refine r_iremK dX8_judge_142 (by decide) ?_
              obtain ⟨v23, hv, hf⟩ := bnd hf
              refine r_callV (lv := 6) dX8_judge_143 yo_X8_steps yi_X8_steps ml_X8_317 ya_X8_steps sh_66 ⟨_, rfl, rfl⟩ (Fits.vm (by decide)) rfl rfl (Nat.le_of_ble_eq_true rfl) (S_X8_steps F (v21 / (10 : Int32)) (rem32 v22 (10 : Int32)) s8.2  _ hv) ?_
              refine r_if_eq 155 dX8_judge_146 (by decide) hf (fun c24 hf => ?_) (fun c24 hf => ?_)
              · exact ih14 _ hf
              · refine r_iincA (v := 1) dX8_judge_149 rfl (by decide) (by decide) ?_
                refine r_goto 114 dX8_judge_152 (by decide) ?_
                exact ih10 _ hf
          · refine r_aload_n dX8_judge_102 rfl ?_
            refine r_iconst (v := 3) dX8_judge_103 (by decide) ?_
            obtain ⟨v26, hv, hf⟩ := bnd hf
            refine r_callV (lv := 1) dX8_judge_104 yo_X8_meets yi_X8_meets ml_X8_144 ya_X8_meets sh_66 ⟨_, rfl, rfl⟩ (Fits.vm (by decide)) rfl rfl (Nat.le_of_ble_eq_true rfl) (S_X8_meets (3 : Int32) h  _ hv) ?_
            exact e_iH dX8_judge_107 rfl hf
        · refine r_aload_n dX8_judge_48 rfl ?_
          refine r_iload_n dX8_judge_49 rfl ?_
          refine r_iload_n dX8_judge_50 rfl ?_
          obtain ⟨v28, hv, hf⟩ := bnd hf
          refine r_callV (lv := 1) dX8_judge_51 yo_X8_rowAt yi_X8_rowAt ml_X8_148 ya_X8_rowAt sh_66 ⟨_, rfl, rfl⟩ (Fits.vm (by decide)) rfl rfl (Nat.le_of_ble_eq_true rfl) (S_X8_rowAt x1_ s3.2 h  _ hv) ?_
          refine r_istoreA dX8_judge_54 (by decide) ?_
          refine r_iload_n dX8_judge_56 rfl ?_
          refine r_reg (P := fun t29 => Run Y_X8_judge (VM 7 (some (.int r.1), r.2)) 91 [some (.ref 66), some (.int x1_), some (.int s3.1), some (.int s3.2), some (.int v28), none] [.int t29] h) hf (fun t29 hf => ?_) (fun t29 key30 hf => ?_)
          · refine r_istore_nA dX8_judge_91 (by decide) ?_
            refine r_iincA (v := 1) dX8_judge_92 rfl (by decide) (by decide) ?_
            refine r_goto 38 dX8_judge_95 (by decide) ?_
            refine r_lt (ll_s (ll_s (ll_s (ll_s (ll_n (ll_n ll_0)))))) ?_
            exact ih5 _ hf
          · refine r_if_eq 90 dX8_judge_57 (by decide) hf (fun c35 hf => ?_) (fun c35 hf => ?_)
            · refine r_iconst (v := 0) dX8_judge_90 (by decide) ?_
              cases hf; exact key30
            · refine r_iload dX8_judge_60 rfl ?_
              refine r_if_lt 90 dX8_judge_62 (by decide) hf (fun c34 hf => ?_) (fun c34 hf => ?_)
              · refine r_iconst (v := 0) dX8_judge_90 (by decide) ?_
                cases hf; exact key30
              · refine r_aload_n dX8_judge_65 rfl ?_
                refine r_iload dX8_judge_66 rfl ?_
                refine r_bipush (v := 10) dX8_judge_68 (by decide) ?_
                refine r_idivK dX8_judge_70 (by decide) ?_
                obtain ⟨v31, hv, hf⟩ := bnd hf
                refine r_callV (lv := 2) dX8_judge_71 yo_X8_isMan yi_X8_isMan ml_X8_287 ya_X8_isMan sh_66 ⟨_, rfl, rfl⟩ (Fits.vm (by decide)) rfl rfl (Nat.le_of_ble_eq_true rfl) (S_X8_isMan (v28 / (10 : Int32)) h  _ hv) ?_
                refine r_if_eq 90 dX8_judge_74 (by decide) hf (fun c33 hf => ?_) (fun c33 hf => ?_)
                · refine r_iconst (v := 0) dX8_judge_90 (by decide) ?_
                  cases hf; exact key30
                · refine r_iload dX8_judge_77 rfl ?_
                  refine r_bipush (v := 10) dX8_judge_79 (by decide) ?_
                  refine r_iremK dX8_judge_81 (by decide) ?_
                  refine r_iconst (v := 4) dX8_judge_82 (by decide) ?_
                  refine r_icmp_ge 90 dX8_judge_83 (by decide) hf (fun c32 hf => ?_) (fun c32 hf => ?_)
                  · refine r_iconst (v := 0) dX8_judge_90 (by decide) ?_
                    cases hf; exact key30
                  · refine r_iconst (v := 1) dX8_judge_86 (by decide) ?_
                    refine r_goto 91 dX8_judge_87 (by decide) ?_
                    cases hf; exact key30
      · refine r_aload_n dX8_judge_28 rfl ?_
        refine r_iconst (v := 1) dX8_judge_29 (by decide) ?_
        obtain ⟨v37, hv, hf⟩ := bnd hf
        refine r_callV (lv := 1) dX8_judge_30 yo_X8_meets yi_X8_meets ml_X8_144 ya_X8_meets sh_66 ⟨_, rfl, rfl⟩ (Fits.vm (by decide)) rfl rfl (Nat.le_of_ble_eq_true rfl) (S_X8_meets (1 : Int32) h  _ hv) ?_
        exact e_iH dX8_judge_33 rfl hf
    · refine r_bipush (v := -4) dX8_judge_16 (by decide) ?_
      exact e_iH dX8_judge_18 rfl hf
  · refine r_iconst (v := -1) dX8_judge_7 (by decide) ?_
    exact e_iH dX8_judge_8 rfl hf
def f_X8_quarrel (x1_ : Int32) (x2_ : Int32) (h : Hp) : Option (Int32 × Hp) :=
  (f_X8_isMan x1_ h).bind fun v1 =>
  (if v1 = 0 then (
    some ((-1 : Int32), h))
  else (
    (f_X8_isMan x2_ h).bind fun v2 =>
    (if v2 = 0 then (
      some ((-1 : Int32), h))
    else (
      (if x1_ = x2_ then (
        some ((-1 : Int32), h))
      else (
        (if (gI h 66 56) = (8 : Int32) then (
          some ((-2 : Int32), h))
        else (
          (stI h 102 (gI h 66 56) x1_).bind fun h3 =>
          (stI h3 103 (gI h3 66 56) x2_).bind fun h4 =>
          nm (sI h4 66 56 ((gI h4 66 56) + (1 : Int32))) fun h5 =>
          some (((gI h5 66 56) - (1 : Int32)), h5)))))))))
set_option maxRecDepth 100000 in
set_option maxHeartbeats 4000000 in
theorem S_X8_quarrel (x1_ : Int32) (x2_ : Int32) (h : Hp) (r : (Int32 × Hp)) (hf : f_X8_quarrel x1_ x2_ h = some r) : MetP Y_X8_quarrel 3 [.ref 66, .int x1_, .int x2_] h (some (.int r.1), r.2) := by
  unfold f_X8_quarrel at hf
  refine met_of yo_X8_quarrel (Nat.le_of_ble_eq_true rfl) ?_
  show Run Y_X8_quarrel _ 0 [some (.ref 66), some (.int x1_), some (.int x2_)] [] h
  refine r_aload_n dX8_quarrel_0 rfl ?_
  refine r_iload_n dX8_quarrel_1 rfl ?_
  obtain ⟨v1, hv, hf⟩ := bnd hf
  refine r_callV (lv := 2) dX8_quarrel_2 yo_X8_isMan yi_X8_isMan ml_X8_287 ya_X8_isMan sh_66 ⟨_, rfl, rfl⟩ (Fits.vm (by decide)) rfl rfl (Nat.le_of_ble_eq_true rfl) (S_X8_isMan x1_ h  _ hv) ?_
  refine r_if_eq 21 dX8_quarrel_5 (by decide) hf (fun c9 hf => ?_) (fun c9 hf => ?_)
  · refine r_iconst (v := -1) dX8_quarrel_21 (by decide) ?_
    exact e_iH dX8_quarrel_22 rfl hf
  · refine r_aload_n dX8_quarrel_8 rfl ?_
    refine r_iload_n dX8_quarrel_9 rfl ?_
    obtain ⟨v2, hv, hf⟩ := bnd hf
    refine r_callV (lv := 2) dX8_quarrel_10 yo_X8_isMan yi_X8_isMan ml_X8_287 ya_X8_isMan sh_66 ⟨_, rfl, rfl⟩ (Fits.vm (by decide)) rfl rfl (Nat.le_of_ble_eq_true rfl) (S_X8_isMan x2_ h  _ hv) ?_
    refine r_if_eq 21 dX8_quarrel_13 (by decide) hf (fun c8 hf => ?_) (fun c8 hf => ?_)
    · refine r_iconst (v := -1) dX8_quarrel_21 (by decide) ?_
      exact e_iH dX8_quarrel_22 rfl hf
    · refine r_iload_n dX8_quarrel_16 rfl ?_
      refine r_iload_n dX8_quarrel_17 rfl ?_
      refine r_icmp_ne 23 dX8_quarrel_18 (by decide) hf (fun c7 hf => ?_) (fun c7 hf => ?_)
      · refine r_aload_n dX8_quarrel_23 rfl ?_
        refine r_getI dX8_quarrel_24 sh_66 ft_X8_236 rfl ?_
        refine r_bipush (v := 8) dX8_quarrel_27 (by decide) ?_
        refine r_icmp_ne 35 dX8_quarrel_29 (by decide) hf (fun c6 hf => ?_) (fun c6 hf => ?_)
        · refine r_aload_n dX8_quarrel_35 rfl ?_
          refine r_getS (b := 102) dX8_quarrel_36 sh_66 ft_X8_117 rfl rfl ?_
          refine r_aload_n dX8_quarrel_39 rfl ?_
          refine r_getI dX8_quarrel_40 sh_66 ft_X8_236 rfl ?_
          refine r_iload_n dX8_quarrel_43 rfl ?_
          refine r_iast dX8_quarrel_44 sh_102 hf fun h3 hf => ?_
          refine r_aload_n dX8_quarrel_45 rfl ?_
          refine r_getS (b := 103) dX8_quarrel_46 sh_66 ft_X8_120 rfl rfl ?_
          refine r_aload_n dX8_quarrel_49 rfl ?_
          refine r_getI dX8_quarrel_50 sh_66 ft_X8_236 rfl ?_
          refine r_iload_n dX8_quarrel_53 rfl ?_
          refine r_iast dX8_quarrel_54 sh_103 hf fun h4 hf => ?_
          refine r_aload_n dX8_quarrel_55 rfl ?_
          refine r_dup dX8_quarrel_56 rfl ?_
          refine r_getI dX8_quarrel_57 sh_66 ft_X8_236 rfl ?_
          refine r_iconst (v := 1) dX8_quarrel_60 (by decide) ?_
          refine r_iadd dX8_quarrel_61 ?_
          refine r_putI dX8_quarrel_62 sh_66 ft_X8_236 rfl hf fun h5 hf => ?_
          refine r_aload_n dX8_quarrel_65 rfl ?_
          refine r_getI dX8_quarrel_66 sh_66 ft_X8_236 rfl ?_
          refine r_iconst (v := 1) dX8_quarrel_69 (by decide) ?_
          refine r_isub dX8_quarrel_70 ?_
          exact e_iH dX8_quarrel_71 rfl hf
        · refine r_bipush (v := -2) dX8_quarrel_32 (by decide) ?_
          exact e_iH dX8_quarrel_34 rfl hf
      · refine r_iconst (v := -1) dX8_quarrel_21 (by decide) ?_
        exact e_iH dX8_quarrel_22 rfl hf
