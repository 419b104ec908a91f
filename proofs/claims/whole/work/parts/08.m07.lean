def f_X7_can (F : Nat) (x1_ : Int32) (h : Hp) : Option Int32 :=
  (f_X7_isMan x1_ h).bind fun v1 =>
  (Option.bind (α := Int32) (
    (if v1 = 0 then (
      some (-1 : Int32))
    else (
      (f_X7_waysOpenTo F x1_ h).bind fun v4 =>
      some v4))) fun t2 =>
  some t2)
set_option maxRecDepth 100000 in
set_option maxHeartbeats 4000000 in
theorem S_X7_can (F : Nat) (x1_ : Int32) (h : Hp) (r : Int32) (hf : f_X7_can F x1_ h = some r) : MetP Y_X7_can 4 [.ref 0, .int x1_] h (some (.int r), h) := by
  unfold f_X7_can at hf
  refine met_of yo_X7_can (Nat.le_of_ble_eq_true rfl) ?_
  show Run Y_X7_can _ 0 [some (.ref 0), some (.int x1_)] [] h
  refine r_aload_n dX7_can_0 rfl ?_
  refine r_iload_n dX7_can_1 rfl ?_
  obtain ⟨v1, hv, hf⟩ := bnd hf
  refine r_callV (lv := 1) dX7_can_2 yo_X7_isMan yi_X7_isMan ml_X7_157 ya_X7_isMan sh_0 ⟨_, rfl, rfl⟩ (Fits.vm (by decide)) rfl rfl (Nat.le_of_ble_eq_true rfl) (S_X7_isMan x1_ h  _ hv) ?_
  refine r_reg (P := fun t2 => Run Y_X7_can (VM 4 (some (.int r), h)) 17 [some (.ref 0), some (.int x1_)] [.int t2] h) hf (fun t2 hf => ?_) (fun t2 key3 hf => ?_)
  · exact e_iP dX7_can_17 rfl hf
  · refine r_if_eq 16 dX7_can_5 (by decide) hf (fun c5 hf => ?_) (fun c5 hf => ?_)
    · refine r_iconst (v := -1) dX7_can_16 (by decide) ?_
      cases hf; exact key3
    · refine r_aload_n dX7_can_8 rfl ?_
      refine r_iload_n dX7_can_9 rfl ?_
      obtain ⟨v4, hv, hf⟩ := bnd hf
      refine r_callV (lv := 3) dX7_can_10 yo_X7_waysOpenTo yi_X7_waysOpenTo ml_X7_176 ya_X7_waysOpenTo sh_0 ⟨_, rfl, rfl⟩ (Fits.vm (by decide)) rfl rfl (Nat.le_of_ble_eq_true rfl) (S_X7_waysOpenTo F x1_ h  _ hv) ?_
      refine r_goto 17 dX7_can_13 (by decide) ?_
      cases hf; exact key3
def f_X7_undo (x1_ : Int32) (h : Hp) : Option (Int32 × Hp) :=
  (if x1_ < 0 then (
    some ((-1 : Int32), h))
  else (
    (if x1_ ≤ (gI h 18 4) then (
      (f_X0_goBack 18 x1_ h).bind fun h1 =>
      some (((gI h 18 4) - x1_), h1))
    else (
      some ((-1 : Int32), h)))))
set_option maxRecDepth 100000 in
set_option maxHeartbeats 4000000 in
theorem S_X7_undo (x1_ : Int32) (h : Hp) (r : (Int32 × Hp)) (hf : f_X7_undo x1_ h = some r) : MetP Y_X7_undo 2 [.ref 0, .int x1_] h (some (.int r.1), r.2) := by
  unfold f_X7_undo at hf
  refine met_of yo_X7_undo (Nat.le_of_ble_eq_true rfl) ?_
  show Run Y_X7_undo _ 0 [some (.ref 0), some (.int x1_), none] [] h
  refine r_iload_n dX7_undo_0 rfl ?_
  refine r_if_lt 15 dX7_undo_1 (by decide) hf (fun c3 hf => ?_) (fun c3 hf => ?_)
  · refine r_iconst (v := -1) dX7_undo_15 (by decide) ?_
    exact e_iH dX7_undo_16 rfl hf
  · refine r_iload_n dX7_undo_4 rfl ?_
    refine r_aload_n dX7_undo_5 rfl ?_
    refine r_getS (b := 18) dX7_undo_6 sh_0 ft_X7_31 rfl rfl ?_
    refine r_getI dX7_undo_9 sh_18 ft_X7_206 rfl ?_
    refine r_icmp_le 17 dX7_undo_12 (by decide) hf (fun c2 hf => ?_) (fun c2 hf => ?_)
    · refine r_aload_n dX7_undo_17 rfl ?_
      refine r_getS (b := 18) dX7_undo_18 sh_0 ft_X7_31 rfl rfl ?_
      refine r_getI dX7_undo_21 sh_18 ft_X7_206 rfl ?_
      refine r_iload_n dX7_undo_24 rfl ?_
      refine r_isub dX7_undo_25 ?_
      refine r_istore_nA dX7_undo_26 (by decide) ?_
      refine r_aload_n dX7_undo_27 rfl ?_
      refine r_getS (b := 18) dX7_undo_28 sh_0 ft_X7_31 rfl rfl ?_
      refine r_iload_n dX7_undo_31 rfl ?_
      obtain ⟨h1, hv, hf⟩ := bnd hf
      refine r_callV (lv := 1) dX7_undo_32 yo_X0_goBack yi_X0_goBack ml_X7_219 ya_X0_goBack sh_18 ⟨_, rfl, rfl⟩ (Fits.vm (by decide)) rfl rfl (Nat.le_of_ble_eq_true rfl) (S_X0_goBack 18 x1_ sh_18 h  _ hv) ?_
      refine r_iload_n dX7_undo_35 rfl ?_
      exact e_iH dX7_undo_36 rfl hf
    · refine r_iconst (v := -1) dX7_undo_15 (by decide) ?_
      exact e_iH dX7_undo_16 rfl hf
def f_X7_isCell (x1_ : Int32) (h : Hp) : Option Int32 :=
  (Option.bind (α := Int32) (
    (if x1_ < 0 then (
      some (0 : Int32))
    else (
      (gO h 0 11 (0, 6, 14)).bind fun y3 =>
      (if (gI h y3 2) ≤ x1_ then (
        some (0 : Int32))
      else (
        some (1 : Int32)))))) fun t1 =>
  ckZ t1)
set_option maxRecDepth 100000 in
set_option maxHeartbeats 4000000 in
theorem S_X7_isCell (x1_ : Int32) (h : Hp) (r : Int32) (hf : f_X7_isCell x1_ h = some r) : MetP Y_X7_isCell 1 [.ref 0, .int x1_] h (some (.int r), h) := by
  unfold f_X7_isCell at hf
  refine met_of yo_X7_isCell (Nat.le_of_ble_eq_true rfl) ?_
  show Run Y_X7_isCell _ 0 [some (.ref 0), some (.int x1_)] [] h
  refine r_iload_n dX7_isCell_0 rfl ?_
  refine r_reg (P := fun t1 => Run Y_X7_isCell (VM 1 (some (.int r), h)) 20 [some (.ref 0), some (.int x1_)] [.int t1] h) hf (fun t1 hf => ?_) (fun t1 key2 hf => ?_)
  · exact e_zP dX7_isCell_20 rfl hf
  · refine r_if_lt 19 dX7_isCell_1 (by decide) hf (fun c5 hf => ?_) (fun c5 hf => ?_)
    · refine r_iconst (v := 0) dX7_isCell_19 (by decide) ?_
      cases hf; exact key2
    · refine r_iload_n dX7_isCell_4 rfl ?_
      refine r_aload_n dX7_isCell_5 rfl ?_
      refine r_getR (E := (0, 6, 14)) dX7_isCell_6 sh_0 ft_X7_77 rfl hf fun y3 hy3 hf => ?_
      refine r_getI dX7_isCell_9 hy3 ft_X7_190 rfl ?_
      refine r_icmp_ge 19 dX7_isCell_12 (by decide) hf (fun c4 hf => ?_) (fun c4 hf => ?_)
      · refine r_iconst (v := 0) dX7_isCell_19 (by decide) ?_
        cases hf; exact key2
      · refine r_iconst (v := 1) dX7_isCell_15 (by decide) ?_
        refine r_goto 20 dX7_isCell_16 (by decide) ?_
        cases hf; exact key2
def f_X7_who (F : Nat) (x1_ : Int32) (h : Hp) : Option Int32 :=
  (f_X7_isCell x1_ h).bind fun v1 =>
  (if v1 = 0 then (
    some (-1 : Int32))
  else (
    fix (σ := Int32) (ρ := Int32) (fun self3 s2 =>
      (gO h 0 11 (0, 6, 14)).bind fun y5 =>
      (if (gI h y5 4) ≤ s2 then (
        some (-9 : Int32))
      else (
        (f_X7_cellOf (gI h 18 1) s2 h).bind fun v6 =>
        (if v6 = x1_ then (
          some s2)
        else (
          self3 (s2 + 1)))))) F (0 : Int32)))
set_option maxRecDepth 100000 in
set_option maxHeartbeats 4000000 in
theorem S_X7_who (F : Nat) (x1_ : Int32) (h : Hp) (r : Int32) (hf : f_X7_who F x1_ h = some r) : MetP Y_X7_who 2 [.ref 0, .int x1_] h (some (.int r), h) := by
  unfold f_X7_who at hf
  refine met_of yo_X7_who (Nat.le_of_ble_eq_true rfl) ?_
  show Run Y_X7_who _ 0 [some (.ref 0), some (.int x1_), none] [] h
  refine r_aload_n dX7_who_0 rfl ?_
  refine r_iload_n dX7_who_1 rfl ?_
  obtain ⟨v1, hv, hf⟩ := bnd hf
  refine r_callV (lv := 1) dX7_who_2 yo_X7_isCell yi_X7_isCell ml_X7_222 ya_X7_isCell sh_0 ⟨_, rfl, rfl⟩ (Fits.vm (by decide)) rfl rfl (Nat.le_of_ble_eq_true rfl) (S_X7_isCell x1_ h  _ hv) ?_
  refine r_if_ne 10 dX7_who_5 (by decide) hf (fun c9 hf => ?_) (fun c9 hf => ?_)
  · refine r_iconst (v := 0) dX7_who_10 (by decide) ?_
    refine r_istore_nA dX7_who_11 (by decide) ?_
    refine r_fix (σ := Int32) (fun s2 => [some (.ref 0), some (.int x1_), some (.int s2)]) (fun s2 => h) (fun self3 ih4 s2 hf => ?_) F (0 : Int32) hf
    refine r_iload_n dX7_who_12 rfl ?_
    refine r_aload_n dX7_who_13 rfl ?_
    refine r_getR (E := (0, 6, 14)) dX7_who_14 sh_0 ft_X7_77 rfl hf fun y5 hy5 hf => ?_
    refine r_getI dX7_who_17 hy5 ft_X7_154 rfl ?_
    refine r_icmp_ge 46 dX7_who_20 (by decide) hf (fun c8 hf => ?_) (fun c8 hf => ?_)
    · refine r_bipush (v := -9) dX7_who_46 (by decide) ?_
      exact e_iP dX7_who_48 rfl hf
    · refine r_aload_n dX7_who_23 rfl ?_
      refine r_getS (b := 18) dX7_who_24 sh_0 ft_X7_31 rfl rfl ?_
      refine r_getI dX7_who_27 sh_18 ft_X7_199 rfl ?_
      refine r_iload_n dX7_who_30 rfl ?_
      obtain ⟨v6, hv, hf⟩ := bnd hf
      refine r_callS (lv := 1) dX7_who_31 yo_X7_cellOf ys_X7_cellOf ml_X7_216 ya_X7_cellOf (Fits.vm (by decide)) rfl rfl (Nat.le_of_ble_eq_true rfl) (S_X7_cellOf (gI h 18 1) s2 h  _ hv) ?_
      refine r_iload_n dX7_who_34 rfl ?_
      refine r_icmp_ne 40 dX7_who_35 (by decide) hf (fun c7 hf => ?_) (fun c7 hf => ?_)
      · refine r_iincA (v := 1) dX7_who_40 rfl (by decide) (by decide) ?_
        refine r_goto 12 dX7_who_43 (by decide) ?_
        exact ih4 _ hf
      · refine r_iload_n dX7_who_38 rfl ?_
        exact e_iP dX7_who_39 rfl hf
  · refine r_iconst (v := -1) dX7_who_8 (by decide) ?_
    exact e_iP dX7_who_9 rfl hf
def f_X7_keep (x1_ : Int32) (h : Hp) : Option (Int32 × Hp) :=
  (if x1_ < 0 then (
    some ((-1 : Int32), h))
  else (
    (if x1_ < (3 : Int32) then (
      (gO h 0 11 (0, 6, 14)).bind fun y1 =>
      (if (gI h y1 4) = 0 then (
        some ((-4 : Int32), h))
      else (
        (ldR 21 x1_).bind fun b2 =>
        (f_X0_become b2 18 h).bind fun h3 =>
        (ldR 21 x1_).bind fun b4 =>
        (ckZ (1 : Int32)).bind fun z6 => nm (sI h3 b4 0 z6) fun h5 =>
        some ((gI h5 18 4), h5))))
    else (
      some ((-1 : Int32), h)))))
set_option maxRecDepth 100000 in
set_option maxHeartbeats 4000000 in
theorem S_X7_keep (x1_ : Int32) (h : Hp) (r : (Int32 × Hp)) (hf : f_X7_keep x1_ h = some r) : MetP Y_X7_keep 2 [.ref 0, .int x1_] h (some (.int r.1), r.2) := by
  unfold f_X7_keep at hf
  refine met_of yo_X7_keep (Nat.le_of_ble_eq_true rfl) ?_
  show Run Y_X7_keep _ 0 [some (.ref 0), some (.int x1_)] [] h
  refine r_iload_n dX7_keep_0 rfl ?_
  refine r_if_lt 9 dX7_keep_1 (by decide) hf (fun c9 hf => ?_) (fun c9 hf => ?_)
  · refine r_iconst (v := -1) dX7_keep_9 (by decide) ?_
    exact e_iH dX7_keep_10 rfl hf
  · refine r_iload_n dX7_keep_4 rfl ?_
    refine r_iconst (v := 3) dX7_keep_5 (by decide) ?_
    refine r_icmp_lt 11 dX7_keep_6 (by decide) hf (fun c8 hf => ?_) (fun c8 hf => ?_)
    · refine r_aload_n dX7_keep_11 rfl ?_
      refine r_getR (E := (0, 6, 14)) dX7_keep_12 sh_0 ft_X7_77 rfl hf fun y1 hy1 hf => ?_
      refine r_getI dX7_keep_15 hy1 ft_X7_154 rfl ?_
      refine r_if_ne 24 dX7_keep_18 (by decide) hf (fun c7 hf => ?_) (fun c7 hf => ?_)
      · refine r_aload_n dX7_keep_24 rfl ?_
        refine r_getS (b := 21) dX7_keep_25 sh_0 ft_X7_35 rfl rfl ?_
        refine r_iload_n dX7_keep_28 rfl ?_
        refine r_aald (E := (0, 0, 7)) dX7_keep_29 sh_21 (Or.inr rfl) se_kept hf fun b2 hb2 hf => ?_
        refine r_aload_n dX7_keep_30 rfl ?_
        refine r_getS (b := 18) dX7_keep_31 sh_0 ft_X7_31 rfl rfl ?_
        obtain ⟨h3, hv, hf⟩ := bnd hf
        refine r_callV (lv := 1) dX7_keep_34 yo_X0_become yi_X0_become ml_X7_225 ya_X0_become hb2 ⟨_, rfl, rfl⟩ (Fits.vm (by decide)) rfl rfl (Nat.le_of_ble_eq_true rfl) (S_X0_become b2 18 hb2 sh_18 h  _ hv) ?_
        refine r_aload_n dX7_keep_37 rfl ?_
        refine r_getS (b := 21) dX7_keep_38 sh_0 ft_X7_35 rfl rfl ?_
        refine r_iload_n dX7_keep_41 rfl ?_
        refine r_aald (E := (0, 0, 7)) dX7_keep_42 sh_21 (Or.inr rfl) se_kept hf fun b4 hb4 hf => ?_
        refine r_iconst (v := 1) dX7_keep_43 (by decide) ?_
        refine r_putZ dX7_keep_44 hb4 ft_X7_147 rfl hf fun h5 hf => ?_
        refine r_aload_n dX7_keep_47 rfl ?_
        refine r_getS (b := 18) dX7_keep_48 sh_0 ft_X7_31 rfl rfl ?_
        refine r_getI dX7_keep_51 sh_18 ft_X7_206 rfl ?_
        exact e_iH dX7_keep_54 rfl hf
      · refine r_bipush (v := -4) dX7_keep_21 (by decide) ?_
        exact e_iH dX7_keep_23 rfl hf
    · refine r_iconst (v := -1) dX7_keep_9 (by decide) ?_
      exact e_iH dX7_keep_10 rfl hf
def f_X7_on (F : Nat) (x1_ : Int32) (h : Hp) : Option (Int32 × Hp) :=
  (if x1_ < 0 then (
    some ((-1 : Int32), h))
  else (
    (if x1_ < (3 : Int32) then (
      (ldR 21 x1_).bind fun b1 =>
      (if (gI h b1 0) = 0 then (
        (f_X7_found (1 : Int32) h).bind fun v5 =>
        some (v5.1, v5.2))
      else (
        (ldR 21 x1_).bind fun b2 =>
        (f_X0_become 18 b2 h).bind fun h3 =>
        (f_X7_changeRules F h3).bind fun h4 =>
        some ((gI h4 18 4), h4))))
    else (
      some ((-1 : Int32), h)))))
set_option maxRecDepth 100000 in
set_option maxHeartbeats 4000000 in
theorem S_X7_on (F : Nat) (x1_ : Int32) (h : Hp) (r : (Int32 × Hp)) (hf : f_X7_on F x1_ h = some r) : MetP Y_X7_on 4 [.ref 0, .int x1_] h (some (.int r.1), r.2) := by
  unfold f_X7_on at hf
  refine met_of yo_X7_on (Nat.le_of_ble_eq_true rfl) ?_
  show Run Y_X7_on _ 0 [some (.ref 0), some (.int x1_)] [] h
  refine r_iload_n dX7_on_0 rfl ?_
  refine r_if_lt 9 dX7_on_1 (by decide) hf (fun c8 hf => ?_) (fun c8 hf => ?_)
  · refine r_iconst (v := -1) dX7_on_9 (by decide) ?_
    exact e_iH dX7_on_10 rfl hf
  · refine r_iload_n dX7_on_4 rfl ?_
    refine r_iconst (v := 3) dX7_on_5 (by decide) ?_
    refine r_icmp_lt 11 dX7_on_6 (by decide) hf (fun c7 hf => ?_) (fun c7 hf => ?_)
    · refine r_aload_n dX7_on_11 rfl ?_
      refine r_getS (b := 21) dX7_on_12 sh_0 ft_X7_35 rfl rfl ?_
      refine r_iload_n dX7_on_15 rfl ?_
      refine r_aald (E := (0, 0, 7)) dX7_on_16 sh_21 (Or.inr rfl) se_kept hf fun b1 hb1 hf => ?_
      refine r_getI dX7_on_17 hb1 ft_X7_147 rfl ?_
      refine r_if_ne 29 dX7_on_20 (by decide) hf (fun c6 hf => ?_) (fun c6 hf => ?_)
      · refine r_aload_n dX7_on_29 rfl ?_
        refine r_getS (b := 18) dX7_on_30 sh_0 ft_X7_31 rfl rfl ?_
        refine r_aload_n dX7_on_33 rfl ?_
        refine r_getS (b := 21) dX7_on_34 sh_0 ft_X7_35 rfl rfl ?_
        refine r_iload_n dX7_on_37 rfl ?_
        refine r_aald (E := (0, 0, 7)) dX7_on_38 sh_21 (Or.inr rfl) se_kept hf fun b2 hb2 hf => ?_
        obtain ⟨h3, hv, hf⟩ := bnd hf
        refine r_callV (lv := 1) dX7_on_39 yo_X0_become yi_X0_become ml_X7_225 ya_X0_become sh_18 ⟨_, rfl, rfl⟩ (Fits.vm (by decide)) rfl rfl (Nat.le_of_ble_eq_true rfl) (S_X0_become 18 b2 sh_18 hb2 h  _ hv) ?_
        refine r_aload_n dX7_on_42 rfl ?_
        obtain ⟨h4, hv, hf⟩ := bnd hf
        refine r_callV (lv := 3) dX7_on_43 yo_X7_changeRules yi_X7_changeRules ml_X7_84 ya_X7_changeRules sh_0 ⟨_, rfl, rfl⟩ (Fits.vm (by decide)) rfl rfl (Nat.le_of_ble_eq_true rfl) (S_X7_changeRules F h3  _ hv) ?_
        refine r_aload_n dX7_on_46 rfl ?_
        refine r_getS (b := 18) dX7_on_47 sh_0 ft_X7_31 rfl rfl ?_
        refine r_getI dX7_on_50 sh_18 ft_X7_206 rfl ?_
        exact e_iH dX7_on_53 rfl hf
      · refine r_aload_n dX7_on_23 rfl ?_
        refine r_iconst (v := 1) dX7_on_24 (by decide) ?_
        obtain ⟨v5, hv, hf⟩ := bnd hf
        refine r_callV (lv := 1) dX7_on_25 yo_X7_found yi_X7_found ml_X7_118 ya_X7_found sh_0 ⟨_, rfl, rfl⟩ (Fits.vm (by decide)) rfl rfl (Nat.le_of_ble_eq_true rfl) (S_X7_found (1 : Int32) h  _ hv) ?_
        exact e_iH dX7_on_28 rfl hf
    · refine r_iconst (v := -1) dX7_on_9 (by decide) ?_
      exact e_iH dX7_on_10 rfl hf
def f_X7_refusedWithMen (x1_ : Int32) (x2_ : Int32) (h : Hp) : Option (Int32 × Hp) :=
  (f_X4_knows 1 x1_ h).bind fun v1 =>
  (if v1 = 0 then (
    some ((-1 : Int32), h))
  else (
    (f_X4_knows 1 x2_ h).bind fun v2 =>
    (if v2 = 0 then (
      some ((-1 : Int32), h))
    else (
      (gO h 0 11 (0, 6, 14)).bind fun y3 =>
      (if (gI h y3 4) = 0 then (
        some ((-4 : Int32), h))
      else (
        (f_X4_holds 1 x1_ h).bind fun v4 =>
        (Option.bind (α := Int32 × Hp) (
          (if v4 = 0 then (
            (f_X7_found (1 : Int32) h).bind fun v7 =>
            some (v7.1, v7.2))
          else (
            some ((0 : Int32), h)))) fun t5 =>
        some (t5.1, t5.2))))))))
set_option maxRecDepth 100000 in
set_option maxHeartbeats 4000000 in
theorem S_X7_refusedWithMen (x1_ : Int32) (x2_ : Int32) (h : Hp) (r : (Int32 × Hp)) (hf : f_X7_refusedWithMen x1_ x2_ h = some r) : MetP Y_X7_refusedWithMen 2 [.ref 0, .int x1_, .int x2_] h (some (.int r.1), r.2) := by
  unfold f_X7_refusedWithMen at hf
  refine met_of yo_X7_refusedWithMen (Nat.le_of_ble_eq_true rfl) ?_
  show Run Y_X7_refusedWithMen _ 0 [some (.ref 0), some (.int x1_), some (.int x2_)] [] h
  refine r_aload_n dX7_refusedWithMen_0 rfl ?_
  refine r_getS (b := 1) dX7_refusedWithMen_1 sh_0 ft_X7_14 rfl rfl ?_
  refine r_iload_n dX7_refusedWithMen_4 rfl ?_
  obtain ⟨v1, hv, hf⟩ := bnd hf
  refine r_callV (lv := 1) dX7_refusedWithMen_5 yo_X4_knows yi_X4_knows ml_X7_114 ya_X4_knows sh_1 ⟨_, rfl, rfl⟩ (Fits.vm (by decide)) rfl rfl (Nat.le_of_ble_eq_true rfl) (S_X4_knows 1 x1_ sh_1 h  _ hv) ?_
  refine r_if_eq 22 dX7_refusedWithMen_8 (by decide) hf (fun c11 hf => ?_) (fun c11 hf => ?_)
  · refine r_iconst (v := -1) dX7_refusedWithMen_22 (by decide) ?_
    exact e_iH dX7_refusedWithMen_23 rfl hf
  · refine r_aload_n dX7_refusedWithMen_11 rfl ?_
    refine r_getS (b := 1) dX7_refusedWithMen_12 sh_0 ft_X7_14 rfl rfl ?_
    refine r_iload_n dX7_refusedWithMen_15 rfl ?_
    obtain ⟨v2, hv, hf⟩ := bnd hf
    refine r_callV (lv := 1) dX7_refusedWithMen_16 yo_X4_knows yi_X4_knows ml_X7_114 ya_X4_knows sh_1 ⟨_, rfl, rfl⟩ (Fits.vm (by decide)) rfl rfl (Nat.le_of_ble_eq_true rfl) (S_X4_knows 1 x2_ sh_1 h  _ hv) ?_
    refine r_if_ne 24 dX7_refusedWithMen_19 (by decide) hf (fun c10 hf => ?_) (fun c10 hf => ?_)
    · refine r_aload_n dX7_refusedWithMen_24 rfl ?_
      refine r_getR (E := (0, 6, 14)) dX7_refusedWithMen_25 sh_0 ft_X7_77 rfl hf fun y3 hy3 hf => ?_
      refine r_getI dX7_refusedWithMen_28 hy3 ft_X7_154 rfl ?_
      refine r_if_ne 37 dX7_refusedWithMen_31 (by decide) hf (fun c9 hf => ?_) (fun c9 hf => ?_)
      · refine r_aload_n dX7_refusedWithMen_37 rfl ?_
        refine r_getS (b := 1) dX7_refusedWithMen_38 sh_0 ft_X7_14 rfl rfl ?_
        refine r_iload_n dX7_refusedWithMen_41 rfl ?_
        obtain ⟨v4, hv, hf⟩ := bnd hf
        refine r_callV (lv := 1) dX7_refusedWithMen_42 yo_X4_holds yi_X4_holds ml_X7_122 ya_X4_holds sh_1 ⟨_, rfl, rfl⟩ (Fits.vm (by decide)) rfl rfl (Nat.le_of_ble_eq_true rfl) (S_X4_holds 1 x1_ sh_1 h  _ hv) ?_
        refine r_reg (P := fun t5 => Run Y_X7_refusedWithMen (VM 2 (some (.int r.1), r.2)) 57 [some (.ref 0), some (.int x1_), some (.int x2_)] [.int t5.1] t5.2) hf (fun t5 hf => ?_) (fun t5 key6 hf => ?_)
        · exact e_iH dX7_refusedWithMen_57 rfl hf
        · refine r_if_eq 52 dX7_refusedWithMen_45 (by decide) hf (fun c8 hf => ?_) (fun c8 hf => ?_)
          · refine r_aload_n dX7_refusedWithMen_52 rfl ?_
            refine r_iconst (v := 1) dX7_refusedWithMen_53 (by decide) ?_
            obtain ⟨v7, hv, hf⟩ := bnd hf
            refine r_callV (lv := 1) dX7_refusedWithMen_54 yo_X7_found yi_X7_found ml_X7_118 ya_X7_found sh_0 ⟨_, rfl, rfl⟩ (Fits.vm (by decide)) rfl rfl (Nat.le_of_ble_eq_true rfl) (S_X7_found (1 : Int32) h  _ hv) ?_
            cases hf; exact key6
          · refine r_iconst (v := 0) dX7_refusedWithMen_48 (by decide) ?_
            refine r_goto 57 dX7_refusedWithMen_49 (by decide) ?_
            cases hf; exact key6
      · refine r_bipush (v := -4) dX7_refusedWithMen_34 (by decide) ?_
        exact e_iH dX7_refusedWithMen_36 rfl hf
    · refine r_iconst (v := -1) dX7_refusedWithMen_22 (by decide) ?_
      exact e_iH dX7_refusedWithMen_23 rfl hf
def f_X7_refusedAim (F : Nat) (x1_ : Int32) (x2_ : Int32) (h : Hp) : Option (Int32 × Hp) :=
  (f_X7_refusedWithMen x1_ x2_ h).bind fun v1 =>
  (if v1.1 = 0 then (
    (f_X4_size 1 x1_ v1.2).bind fun v2 =>
    (gO v1.2 0 11 (0, 6, 14)).bind fun y3 =>
    (if v2 = (gI v1.2 y3 4) then (
      fix (σ := Int32) (ρ := (Int32 × Hp)) (fun self5 s4 =>
        (gO v1.2 0 11 (0, 6, 14)).bind fun y7 =>
        (if (gI v1.2 y7 4) ≤ s4 then (
          some ((0 : Int32), v1.2))
        else (
          (f_X4_get 1 x1_ s4 v1.2).bind fun v8 =>
          (if v8 = (-9 : Int32) then (
            self5 (s4 + 1))
          else (
            (f_X4_get 1 x1_ s4 v1.2).bind fun v9 =>
            (f_X7_isCell v9 v1.2).bind fun v10 =>
            (if v10 = 0 then (
              (f_X7_found (3 : Int32) v1.2).bind fun v11 =>
              some (v11.1, v11.2))
            else (
              self5 (s4 + 1)))))))) F (0 : Int32))
    else (
      (f_X7_found (5 : Int32) v1.2).bind fun v15 =>
      some (v15.1, v15.2))))
  else (
    some (v1.1, v1.2)))
set_option maxRecDepth 100000 in
set_option maxHeartbeats 4000000 in
theorem S_X7_refusedAim (F : Nat) (x1_ : Int32) (x2_ : Int32) (h : Hp) (r : (Int32 × Hp)) (hf : f_X7_refusedAim F x1_ x2_ h = some r) : MetP Y_X7_refusedAim 4 [.ref 0, .int x1_, .int x2_] h (some (.int r.1), r.2) := by
  unfold f_X7_refusedAim at hf
  refine met_of yo_X7_refusedAim (Nat.le_of_ble_eq_true rfl) ?_
  show Run Y_X7_refusedAim _ 0 [some (.ref 0), some (.int x1_), some (.int x2_), none, none] [] h
  refine r_aload_n dX7_refusedAim_0 rfl ?_
  refine r_iload_n dX7_refusedAim_1 rfl ?_
  refine r_iload_n dX7_refusedAim_2 rfl ?_
  obtain ⟨v1, hv, hf⟩ := bnd hf
  refine r_callV (lv := 2) dX7_refusedAim_3 yo_X7_refusedWithMen yi_X7_refusedWithMen ml_X7_306 ya_X7_refusedWithMen sh_0 ⟨_, rfl, rfl⟩ (Fits.vm (by decide)) rfl rfl (Nat.le_of_ble_eq_true rfl) (S_X7_refusedWithMen x1_ x2_ h  _ hv) ?_
  refine r_istore_nA dX7_refusedAim_6 (by decide) ?_
  refine r_iload_n dX7_refusedAim_7 rfl ?_
  refine r_if_eq 13 dX7_refusedAim_8 (by decide) hf (fun c17 hf => ?_) (fun c17 hf => ?_)
  · refine r_aload_n dX7_refusedAim_13 rfl ?_
    refine r_getS (b := 1) dX7_refusedAim_14 sh_0 ft_X7_14 rfl rfl ?_
    refine r_iload_n dX7_refusedAim_17 rfl ?_
    obtain ⟨v2, hv, hf⟩ := bnd hf
    refine r_callV (lv := 2) dX7_refusedAim_18 yo_X4_size yi_X4_size ml_X7_133 ya_X4_size sh_1 ⟨_, rfl, rfl⟩ (Fits.vm (by decide)) rfl rfl (Nat.le_of_ble_eq_true rfl) (S_X4_size 1 x1_ sh_1 v1.2  _ hv) ?_
    refine r_aload_n dX7_refusedAim_21 rfl ?_
    refine r_getR (E := (0, 6, 14)) dX7_refusedAim_22 sh_0 ft_X7_77 rfl hf fun y3 hy3 hf => ?_
    refine r_getI dX7_refusedAim_25 hy3 ft_X7_154 rfl ?_
    refine r_icmp_eq 37 dX7_refusedAim_28 (by decide) hf (fun c16 hf => ?_) (fun c16 hf => ?_)
    · refine r_iconst (v := 0) dX7_refusedAim_37 (by decide) ?_
      refine r_istoreA dX7_refusedAim_38 (by decide) ?_
      refine r_fix (σ := Int32) (fun s4 => [some (.ref 0), some (.int x1_), some (.int x2_), some (.int v1.1), some (.int s4)]) (fun s4 => v1.2) (fun self5 ih6 s4 hf => ?_) F (0 : Int32) hf
      refine r_iload dX7_refusedAim_40 rfl ?_
      refine r_aload_n dX7_refusedAim_42 rfl ?_
      refine r_getR (E := (0, 6, 14)) dX7_refusedAim_43 sh_0 ft_X7_77 rfl hf fun y7 hy7 hf => ?_
      refine r_getI dX7_refusedAim_46 hy7 ft_X7_154 rfl ?_
      refine r_icmp_ge 96 dX7_refusedAim_49 (by decide) hf (fun c14 hf => ?_) (fun c14 hf => ?_)
      · refine r_iconst (v := 0) dX7_refusedAim_96 (by decide) ?_
        exact e_iH dX7_refusedAim_97 rfl hf
      · refine r_aload_n dX7_refusedAim_52 rfl ?_
        refine r_getS (b := 1) dX7_refusedAim_53 sh_0 ft_X7_14 rfl rfl ?_
        refine r_iload_n dX7_refusedAim_56 rfl ?_
        refine r_iload dX7_refusedAim_57 rfl ?_
        obtain ⟨v8, hv, hf⟩ := bnd hf
        refine r_callV (lv := 3) dX7_refusedAim_59 yo_X4_get yi_X4_get ml_X7_95 ya_X4_get sh_1 ⟨_, rfl, rfl⟩ (Fits.vm (by decide)) rfl rfl (Nat.le_of_ble_eq_true rfl) (S_X4_get 1 x1_ s4 sh_1 v1.2  _ hv) ?_
        refine r_bipush (v := -9) dX7_refusedAim_62 (by decide) ?_
        refine r_icmp_eq 90 dX7_refusedAim_64 (by decide) hf (fun c13 hf => ?_) (fun c13 hf => ?_)
        · refine r_iincA (v := 1) dX7_refusedAim_90 rfl (by decide) (by decide) ?_
          refine r_goto 40 dX7_refusedAim_93 (by decide) ?_
          exact ih6 _ hf
        · refine r_aload_n dX7_refusedAim_67 rfl ?_
          refine r_aload_n dX7_refusedAim_68 rfl ?_
          refine r_getS (b := 1) dX7_refusedAim_69 sh_0 ft_X7_14 rfl rfl ?_
          refine r_iload_n dX7_refusedAim_72 rfl ?_
          refine r_iload dX7_refusedAim_73 rfl ?_
          obtain ⟨v9, hv, hf⟩ := bnd hf
          refine r_callV (lv := 3) dX7_refusedAim_75 yo_X4_get yi_X4_get ml_X7_95 ya_X4_get sh_1 ⟨_, rfl, rfl⟩ (Fits.vm (by decide)) rfl rfl (Nat.le_of_ble_eq_true rfl) (S_X4_get 1 x1_ s4 sh_1 v1.2  _ hv) ?_
          obtain ⟨v10, hv, hf⟩ := bnd hf
          refine r_callV (lv := 1) dX7_refusedAim_78 yo_X7_isCell yi_X7_isCell ml_X7_222 ya_X7_isCell sh_0 ⟨_, rfl, rfl⟩ (Fits.vm (by decide)) rfl rfl (Nat.le_of_ble_eq_true rfl) (S_X7_isCell v9 v1.2  _ hv) ?_
          refine r_if_ne 90 dX7_refusedAim_81 (by decide) hf (fun c12 hf => ?_) (fun c12 hf => ?_)
          · refine r_iincA (v := 1) dX7_refusedAim_90 rfl (by decide) (by decide) ?_
            refine r_goto 40 dX7_refusedAim_93 (by decide) ?_
            exact ih6 _ hf
          · refine r_aload_n dX7_refusedAim_84 rfl ?_
            refine r_iconst (v := 3) dX7_refusedAim_85 (by decide) ?_
            obtain ⟨v11, hv, hf⟩ := bnd hf
            refine r_callV (lv := 1) dX7_refusedAim_86 yo_X7_found yi_X7_found ml_X7_118 ya_X7_found sh_0 ⟨_, rfl, rfl⟩ (Fits.vm (by decide)) rfl rfl (Nat.le_of_ble_eq_true rfl) (S_X7_found (3 : Int32) v1.2  _ hv) ?_
            exact e_iH dX7_refusedAim_89 rfl hf
    · refine r_aload_n dX7_refusedAim_31 rfl ?_
      refine r_iconst (v := 5) dX7_refusedAim_32 (by decide) ?_
      obtain ⟨v15, hv, hf⟩ := bnd hf
      refine r_callV (lv := 1) dX7_refusedAim_33 yo_X7_found yi_X7_found ml_X7_118 ya_X7_found sh_0 ⟨_, rfl, rfl⟩ (Fits.vm (by decide)) rfl rfl (Nat.le_of_ble_eq_true rfl) (S_X7_found (5 : Int32) v1.2  _ hv) ?_
      exact e_iH dX7_refusedAim_36 rfl hf
  · refine r_iload_n dX7_refusedAim_11 rfl ?_
    exact e_iH dX7_refusedAim_12 rfl hf
def f_X7_isLike (F : Nat) (x1_ : Int32) (x2_ : Int32) (h : Hp) : Option Int32 :=
  fix (σ := Int32) (ρ := Int32) (fun self2 s1 =>
    (gO h 0 11 (0, 6, 14)).bind fun y4 =>
    (if (gI h y4 4) ≤ s1 then (
      ckZ (1 : Int32))
    else (
      (f_X4_get 1 x2_ s1 h).bind fun v5 =>
      (if v5 = (-9 : Int32) then (
        self2 (s1 + 1))
      else (
        (f_X7_cellOf x1_ s1 h).bind fun v6 =>
        (if v5 = v6 then (
          self2 (s1 + 1))
        else (
          ckZ (0 : Int32)))))))) F (0 : Int32)
set_option maxRecDepth 100000 in
set_option maxHeartbeats 4000000 in
theorem S_X7_isLike (F : Nat) (x1_ : Int32) (x2_ : Int32) (h : Hp) (r : Int32) (hf : f_X7_isLike F x1_ x2_ h = some r) : MetP Y_X7_isLike 4 [.ref 0, .int x1_, .int x2_] h (some (.int r), h) := by
  unfold f_X7_isLike at hf
  refine met_of yo_X7_isLike (Nat.le_of_ble_eq_true rfl) ?_
  show Run Y_X7_isLike _ 0 [some (.ref 0), some (.int x1_), some (.int x2_), none, none] [] h
  refine r_iconst (v := 0) dX7_isLike_0 (by decide) ?_
  refine r_istore_nA dX7_isLike_1 (by decide) ?_
  refine r_fix (σ := Int32) (fun s1 => [some (.ref 0), some (.int x1_), some (.int x2_), some (.int s1), none]) (fun s1 => h) (fun self2 ih3 s1 hf => ?_) F (0 : Int32) hf
  refine r_iload_n dX7_isLike_2 rfl ?_
  refine r_aload_n dX7_isLike_3 rfl ?_
  refine r_getR (E := (0, 6, 14)) dX7_isLike_4 sh_0 ft_X7_77 rfl hf fun y4 hy4 hf => ?_
  refine r_getI dX7_isLike_7 hy4 ft_X7_154 rfl ?_
  refine r_icmp_ge 49 dX7_isLike_10 (by decide) hf (fun c9 hf => ?_) (fun c9 hf => ?_)
  · refine r_iconst (v := 1) dX7_isLike_49 (by decide) ?_
    exact e_zP dX7_isLike_50 rfl hf
  · refine r_aload_n dX7_isLike_13 rfl ?_
    refine r_getS (b := 1) dX7_isLike_14 sh_0 ft_X7_14 rfl rfl ?_
    refine r_iload_n dX7_isLike_17 rfl ?_
    refine r_iload_n dX7_isLike_18 rfl ?_
    obtain ⟨v5, hv, hf⟩ := bnd hf
    refine r_callV (lv := 3) dX7_isLike_19 yo_X4_get yi_X4_get ml_X7_95 ya_X4_get sh_1 ⟨_, rfl, rfl⟩ (Fits.vm (by decide)) rfl rfl (Nat.le_of_ble_eq_true rfl) (S_X4_get 1 x2_ s1 sh_1 h  _ hv) ?_
    refine r_istoreA dX7_isLike_22 (by decide) ?_
    refine r_iload dX7_isLike_24 rfl ?_
    refine r_bipush (v := -9) dX7_isLike_26 (by decide) ?_
    refine r_icmp_eq 43 dX7_isLike_28 (by decide) hf (fun c8 hf => ?_) (fun c8 hf => ?_)
    · refine r_iincA (v := 1) dX7_isLike_43 rfl (by decide) (by decide) ?_
      refine r_goto 2 dX7_isLike_46 (by decide) ?_
      refine r_lt (ll_s (ll_s (ll_s (ll_s (ll_n ll_0))))) ?_
      exact ih3 _ hf
    · refine r_iload dX7_isLike_31 rfl ?_
      refine r_iload_n dX7_isLike_33 rfl ?_
      refine r_iload_n dX7_isLike_34 rfl ?_
      obtain ⟨v6, hv, hf⟩ := bnd hf
      refine r_callS (lv := 1) dX7_isLike_35 yo_X7_cellOf ys_X7_cellOf ml_X7_216 ya_X7_cellOf (Fits.vm (by decide)) rfl rfl (Nat.le_of_ble_eq_true rfl) (S_X7_cellOf x1_ s1 h  _ hv) ?_
      refine r_icmp_eq 43 dX7_isLike_38 (by decide) hf (fun c7 hf => ?_) (fun c7 hf => ?_)
      · refine r_iincA (v := 1) dX7_isLike_43 rfl (by decide) (by decide) ?_
        refine r_goto 2 dX7_isLike_46 (by decide) ?_
        refine r_lt (ll_s (ll_s (ll_s (ll_s (ll_n ll_0))))) ?_
        exact ih3 _ hf
      · refine r_iconst (v := 0) dX7_isLike_41 (by decide) ?_
        exact e_zP dX7_isLike_42 rfl hf
def f_X7_firstLike (F : Nat) (x1_ : Int32) (h : Hp) : Option (Int32 × Hp) :=
  (f_X3_begin F (gI h 18 1) h).bind fun h1 =>
  fix (σ := Int32 × Hp) (ρ := (Int32 × Hp)) (fun self3 s2 =>
    (if (11880 : Int32) ≤ s2.1 then (
      some ((-9 : Int32), s2.2))
    else (
      (f_X3_finds F s2.1 s2.2).bind fun v5 =>
      (if v5.1 = 0 then (
        some ((-9 : Int32), v5.2))
      else (
        (f_X3_stand s2.1 v5.2).bind fun v6 =>
        (f_X7_isLike F v6 x1_ v5.2).bind fun v7 =>
        (if v7 = 0 then (
          self3 ((s2.1 + 1), v5.2))
        else (
          some (s2.1, v5.2)))))))) F ((0 : Int32), h1)
set_option maxRecDepth 100000 in
set_option maxHeartbeats 4000000 in
theorem S_X7_firstLike (F : Nat) (x1_ : Int32) (h : Hp) (r : (Int32 × Hp)) (hf : f_X7_firstLike F x1_ h = some r) : MetP Y_X7_firstLike 6 [.ref 0, .int x1_] h (some (.int r.1), r.2) := by
  unfold f_X7_firstLike at hf
  refine met_of yo_X7_firstLike (Nat.le_of_ble_eq_true rfl) ?_
  show Run Y_X7_firstLike _ 0 [some (.ref 0), some (.int x1_), none] [] h
  refine r_aload_n dX7_firstLike_0 rfl ?_
  refine r_getS (b := 23) dX7_firstLike_1 sh_0 ft_X7_51 rfl rfl ?_
  refine r_aload_n dX7_firstLike_4 rfl ?_
  refine r_getS (b := 18) dX7_firstLike_5 sh_0 ft_X7_31 rfl rfl ?_
  refine r_getI dX7_firstLike_8 sh_18 ft_X7_199 rfl ?_
  obtain ⟨h1, hv, hf⟩ := bnd hf
  refine r_callV (lv := 2) dX7_firstLike_11 yo_X3_begin yi_X3_begin ml_X7_245 ya_X3_begin sh_23 ⟨_, rfl, rfl⟩ (Fits.vm (by decide)) rfl rfl (Nat.le_of_ble_eq_true rfl) (S_X3_begin F (gI h 18 1) h  _ hv) ?_
  refine r_iconst (v := 0) dX7_firstLike_14 (by decide) ?_
  refine r_istore_nA dX7_firstLike_15 (by decide) ?_
  refine r_fix (σ := Int32 × Hp) (fun s2 => [some (.ref 0), some (.int x1_), some (.int s2.1)]) (fun s2 => s2.2) (fun self3 ih4 s2 hf => ?_) F ((0 : Int32), h1) hf
  refine r_iload_n dX7_firstLike_16 rfl ?_
  refine r_sipush (v := 11880) dX7_firstLike_17 (by decide) ?_
  refine r_icmp_ge 58 dX7_firstLike_20 (by decide) hf (fun c10 hf => ?_) (fun c10 hf => ?_)
  · refine r_bipush (v := -9) dX7_firstLike_58 (by decide) ?_
    exact e_iH dX7_firstLike_60 rfl hf
  · refine r_aload_n dX7_firstLike_23 rfl ?_
    refine r_getS (b := 23) dX7_firstLike_24 sh_0 ft_X7_51 rfl rfl ?_
    refine r_iload_n dX7_firstLike_27 rfl ?_
    obtain ⟨v5, hv, hf⟩ := bnd hf
    refine r_callV (lv := 5) dX7_firstLike_28 yo_X3_finds yi_X3_finds ml_X7_248 ya_X3_finds sh_23 ⟨_, rfl, rfl⟩ (Fits.vm (by decide)) rfl rfl (Nat.le_of_ble_eq_true rfl) (S_X3_finds F s2.1 s2.2  _ hv) ?_
    refine r_if_eq 58 dX7_firstLike_31 (by decide) hf (fun c9 hf => ?_) (fun c9 hf => ?_)
    · refine r_bipush (v := -9) dX7_firstLike_58 (by decide) ?_
      exact e_iH dX7_firstLike_60 rfl hf
    · refine r_aload_n dX7_firstLike_34 rfl ?_
      refine r_aload_n dX7_firstLike_35 rfl ?_
      refine r_getS (b := 23) dX7_firstLike_36 sh_0 ft_X7_51 rfl rfl ?_
      refine r_iload_n dX7_firstLike_39 rfl ?_
      obtain ⟨v6, hv, hf⟩ := bnd hf
      refine r_callV (lv := 1) dX7_firstLike_40 yo_X3_stand yi_X3_stand ml_X7_251 ya_X3_stand sh_23 ⟨_, rfl, rfl⟩ (Fits.vm (by decide)) rfl rfl (Nat.le_of_ble_eq_true rfl) (S_X3_stand s2.1 v5.2  _ hv) ?_
      refine r_iload_n dX7_firstLike_43 rfl ?_
      obtain ⟨v7, hv, hf⟩ := bnd hf
      refine r_callV (lv := 4) dX7_firstLike_44 yo_X7_isLike yi_X7_isLike ml_X7_411 ya_X7_isLike sh_0 ⟨_, rfl, rfl⟩ (Fits.vm (by decide)) rfl rfl (Nat.le_of_ble_eq_true rfl) (S_X7_isLike F v6 x1_ v5.2  _ hv) ?_
      refine r_if_eq 52 dX7_firstLike_47 (by decide) hf (fun c8 hf => ?_) (fun c8 hf => ?_)
      · refine r_iincA (v := 1) dX7_firstLike_52 rfl (by decide) (by decide) ?_
        refine r_goto 16 dX7_firstLike_55 (by decide) ?_
        exact ih4 _ hf
      · refine r_iload_n dX7_firstLike_50 rfl ?_
        exact e_iH dX7_firstLike_51 rfl hf
def f_X7_near (F : Nat) (x1_ : Int32) (h : Hp) : Option (Int32 × Hp) :=
  (f_X7_refusedAim F x1_ x1_ h).bind fun v1 =>
  (if v1.1 = 0 then (
    (f_X7_firstLike F x1_ v1.2).bind fun v2 =>
    (if v2.1 = (-9 : Int32) then (
      some ((-9 : Int32), v2.2))
    else (
      (f_X3_trace F v2.1 1 (-9 : Int32) v2.2).bind fun v3 =>
      nm (sI v3.2 0 14 v3.1) fun h4 =>
      (f_X3_depth v2.1 h4).bind fun v5 =>
      some (v5, h4))))
  else (
    some (v1.1, v1.2)))
set_option maxRecDepth 100000 in
set_option maxHeartbeats 4000000 in
theorem S_X7_near (F : Nat) (x1_ : Int32) (h : Hp) (r : (Int32 × Hp)) (hf : f_X7_near F x1_ h = some r) : MetP Y_X7_near 7 [.ref 0, .int x1_] h (some (.int r.1), r.2) := by
  unfold f_X7_near at hf
  refine met_of yo_X7_near (Nat.le_of_ble_eq_true rfl) ?_
  show Run Y_X7_near _ 0 [some (.ref 0), some (.int x1_), none, none] [] h
  refine r_aload_n dX7_near_0 rfl ?_
  refine r_iload_n dX7_near_1 rfl ?_
  refine r_iload_n dX7_near_2 rfl ?_
  obtain ⟨v1, hv, hf⟩ := bnd hf
  refine r_callV (lv := 4) dX7_near_3 yo_X7_refusedAim yi_X7_refusedAim ml_X7_229 ya_X7_refusedAim sh_0 ⟨_, rfl, rfl⟩ (Fits.vm (by decide)) rfl rfl (Nat.le_of_ble_eq_true rfl) (S_X7_refusedAim F x1_ x1_ h  _ hv) ?_
  refine r_istore_nA dX7_near_6 (by decide) ?_
  refine r_iload_n dX7_near_7 rfl ?_
  refine r_if_eq 13 dX7_near_8 (by decide) hf (fun c7 hf => ?_) (fun c7 hf => ?_)
  · refine r_aload_n dX7_near_13 rfl ?_
    refine r_iload_n dX7_near_14 rfl ?_
    obtain ⟨v2, hv, hf⟩ := bnd hf
    refine r_callV (lv := 6) dX7_near_15 yo_X7_firstLike yi_X7_firstLike ml_X7_232 ya_X7_firstLike sh_0 ⟨_, rfl, rfl⟩ (Fits.vm (by decide)) rfl rfl (Nat.le_of_ble_eq_true rfl) (S_X7_firstLike F x1_ v1.2  _ hv) ?_
    refine r_istore_nA dX7_near_18 (by decide) ?_
    refine r_iload_n dX7_near_19 rfl ?_
    refine r_bipush (v := -9) dX7_near_20 (by decide) ?_
    refine r_icmp_ne 28 dX7_near_22 (by decide) hf (fun c6 hf => ?_) (fun c6 hf => ?_)
    · refine r_aload_n dX7_near_28 rfl ?_
      refine r_aload_n dX7_near_29 rfl ?_
      refine r_getS (b := 23) dX7_near_30 sh_0 ft_X7_51 rfl rfl ?_
      refine r_iload_n dX7_near_33 rfl ?_
      refine r_aload_n dX7_near_34 rfl ?_
      refine r_getS (b := 1) dX7_near_35 sh_0 ft_X7_14 rfl rfl ?_
      refine r_bipush (v := -9) dX7_near_38 (by decide) ?_
      obtain ⟨v3, hv, hf⟩ := bnd hf
      refine r_callV (lv := 4) dX7_near_40 yo_X3_trace yi_X3_trace ml_X7_235 ya_X3_trace sh_23 ⟨_, rfl, rfl⟩ (Fits.vm (by decide)) rfl rfl (Nat.le_of_ble_eq_true rfl) (S_X3_trace F v2.1 1 (-9 : Int32) sh_1 v2.2  _ hv) ?_
      refine r_putI dX7_near_43 sh_0 ft_X7_99 rfl hf fun h4 hf => ?_
      refine r_aload_n dX7_near_46 rfl ?_
      refine r_getS (b := 23) dX7_near_47 sh_0 ft_X7_51 rfl rfl ?_
      refine r_iload_n dX7_near_50 rfl ?_
      obtain ⟨v5, hv, hf⟩ := bnd hf
      refine r_callV (lv := 1) dX7_near_51 yo_X3_depth yi_X3_depth ml_X7_239 ya_X3_depth sh_23 ⟨_, rfl, rfl⟩ (Fits.vm (by decide)) rfl rfl (Nat.le_of_ble_eq_true rfl) (S_X3_depth v2.1 h4  _ hv) ?_
      exact e_iH dX7_near_54 rfl hf
    · refine r_bipush (v := -9) dX7_near_25 (by decide) ?_
      exact e_iH dX7_near_27 rfl hf
  · refine r_iload_n dX7_near_11 rfl ?_
    exact e_iH dX7_near_12 rfl hf
def f_X7_path (F : Nat) (x1_ : Int32) (x2_ : Int32) (h : Hp) : Option (Int32 × Hp) :=
  (f_X7_refusedAim F x1_ x2_ h).bind fun v1 =>
  (if v1.1 = 0 then (
    (f_X7_firstLike F x1_ v1.2).bind fun v2 =>
    (if v2.1 = (-9 : Int32) then (
      some ((-9 : Int32), v2.2))
    else (
      (f_X3_depth v2.1 v2.2).bind fun v3 =>
      (if v3 ≤ (40 : Int32) then (
        (f_X3_depth v2.1 v2.2).bind fun v4 =>
        (f_X4_make F 1 x2_ v4 (0 : Int32) v2.2).bind fun h5 =>
        (f_X3_trace F v2.1 1 x2_ h5).bind fun v6 =>
        some (v4, v6.2))
      else (
        some ((-9 : Int32), v2.2))))))
  else (
    some (v1.1, v1.2)))
set_option maxRecDepth 100000 in
set_option maxHeartbeats 4000000 in
theorem S_X7_path (F : Nat) (x1_ : Int32) (x2_ : Int32) (h : Hp) (r : (Int32 × Hp)) (hf : f_X7_path F x1_ x2_ h = some r) : MetP Y_X7_path 7 [.ref 0, .int x1_, .int x2_] h (some (.int r.1), r.2) := by
  unfold f_X7_path at hf
  refine met_of yo_X7_path (Nat.le_of_ble_eq_true rfl) ?_
  show Run Y_X7_path _ 0 [some (.ref 0), some (.int x1_), some (.int x2_), none, none, none] [] h
  refine r_aload_n dX7_path_0 rfl ?_
  refine r_iload_n dX7_path_1 rfl ?_
  refine r_iload_n dX7_path_2 rfl ?_
  obtain ⟨v1, hv, hf⟩ := bnd hf
  refine r_callV (lv := 4) dX7_path_3 yo_X7_refusedAim yi_X7_refusedAim ml_X7_229 ya_X7_refusedAim sh_0 ⟨_, rfl, rfl⟩ (Fits.vm (by decide)) rfl rfl (Nat.le_of_ble_eq_true rfl) (S_X7_refusedAim F x1_ x2_ h  _ hv) ?_
  refine r_istore_nA dX7_path_6 (by decide) ?_
  refine r_iload_n dX7_path_7 rfl ?_
  refine r_if_eq 13 dX7_path_8 (by decide) hf (fun c9 hf => ?_) (fun c9 hf => ?_)
  · refine r_aload_n dX7_path_13 rfl ?_
    refine r_iload_n dX7_path_14 rfl ?_
    obtain ⟨v2, hv, hf⟩ := bnd hf
    refine r_callV (lv := 6) dX7_path_15 yo_X7_firstLike yi_X7_firstLike ml_X7_232 ya_X7_firstLike sh_0 ⟨_, rfl, rfl⟩ (Fits.vm (by decide)) rfl rfl (Nat.le_of_ble_eq_true rfl) (S_X7_firstLike F x1_ v1.2  _ hv) ?_
    refine r_istoreA dX7_path_18 (by decide) ?_
    refine r_iload dX7_path_20 rfl ?_
    refine r_bipush (v := -9) dX7_path_22 (by decide) ?_
    refine r_icmp_eq 41 dX7_path_24 (by decide) hf (fun c8 hf => ?_) (fun c8 hf => ?_)
    · refine r_bipush (v := -9) dX7_path_41 (by decide) ?_
      exact e_iH dX7_path_43 rfl hf
    · refine r_aload_n dX7_path_27 rfl ?_
      refine r_getS (b := 23) dX7_path_28 sh_0 ft_X7_51 rfl rfl ?_
      refine r_iload dX7_path_31 rfl ?_
      obtain ⟨v3, hv, hf⟩ := bnd hf
      refine r_callV (lv := 1) dX7_path_33 yo_X3_depth yi_X3_depth ml_X7_239 ya_X3_depth sh_23 ⟨_, rfl, rfl⟩ (Fits.vm (by decide)) rfl rfl (Nat.le_of_ble_eq_true rfl) (S_X3_depth v2.1 v2.2  _ hv) ?_
      refine r_bipush (v := 40) dX7_path_36 (by decide) ?_
      refine r_icmp_le 44 dX7_path_38 (by decide) hf (fun c7 hf => ?_) (fun c7 hf => ?_)
      · refine r_aload_n dX7_path_44 rfl ?_
        refine r_getS (b := 23) dX7_path_45 sh_0 ft_X7_51 rfl rfl ?_
        refine r_iload dX7_path_48 rfl ?_
        obtain ⟨v4, hv, hf⟩ := bnd hf
        refine r_callV (lv := 1) dX7_path_50 yo_X3_depth yi_X3_depth ml_X7_239 ya_X3_depth sh_23 ⟨_, rfl, rfl⟩ (Fits.vm (by decide)) rfl rfl (Nat.le_of_ble_eq_true rfl) (S_X3_depth v2.1 v2.2  _ hv) ?_
        refine r_istoreA dX7_path_53 (by decide) ?_
        refine r_aload_n dX7_path_55 rfl ?_
        refine r_getS (b := 1) dX7_path_56 sh_0 ft_X7_14 rfl rfl ?_
        refine r_iload_n dX7_path_59 rfl ?_
        refine r_iload dX7_path_60 rfl ?_
        refine r_iconst (v := 0) dX7_path_62 (by decide) ?_
        obtain ⟨h5, hv, hf⟩ := bnd hf
        refine r_callV (lv := 2) dX7_path_63 yo_X4_make yi_X4_make ml_X7_242 ya_X4_make sh_1 ⟨_, rfl, rfl⟩ (Fits.vm (by decide)) rfl rfl (Nat.le_of_ble_eq_true rfl) (S_X4_make F 1 x2_ v4 (0 : Int32) sh_1 v2.2  _ hv) ?_
        refine r_aload_n dX7_path_66 rfl ?_
        refine r_getS (b := 23) dX7_path_67 sh_0 ft_X7_51 rfl rfl ?_
        refine r_iload dX7_path_70 rfl ?_
        refine r_aload_n dX7_path_72 rfl ?_
        refine r_getS (b := 1) dX7_path_73 sh_0 ft_X7_14 rfl rfl ?_
        refine r_iload_n dX7_path_76 rfl ?_
        obtain ⟨v6, hv, hf⟩ := bnd hf
        refine r_callV (lv := 4) dX7_path_77 yo_X3_trace yi_X3_trace ml_X7_235 ya_X3_trace sh_23 ⟨_, rfl, rfl⟩ (Fits.vm (by decide)) rfl rfl (Nat.le_of_ble_eq_true rfl) (S_X3_trace F v2.1 1 x2_ sh_1 h5  _ hv) ?_
        refine r_pop dX7_path_80 rfl ?_
        refine r_iload dX7_path_81 rfl ?_
        exact e_iH dX7_path_83 rfl hf
      · refine r_bipush (v := -9) dX7_path_41 (by decide) ?_
        exact e_iH dX7_path_43 rfl hf
  · refine r_iload_n dX7_path_11 rfl ?_
    exact e_iH dX7_path_12 rfl hf
def f_X7_reach (F : Nat)  (h : Hp) : Option (Int32 × Hp) :=
  (gO h 0 11 (0, 6, 14)).bind fun y1 =>
  (if (gI h y1 4) = 0 then (
    some ((-4 : Int32), h))
  else (
    (f_X3_begin F (gI h 18 1) h).bind fun h2 =>
    fix (σ := Int32 × Int32 × Hp) (ρ := (Int32 × Hp)) (fun self4 s3 =>
      jn (α := (Hp) → Option (Int32 × Hp)) (fun t6 =>
        (f_X3_depth (s3.1 - (1 : Int32)) t6).bind fun v9 =>
        nm (sI t6 0 14 v9) fun h10 =>
        some (s3.1, h10)) fun j7 =>
      (if (11880 : Int32) ≤ s3.2.1 then (
        j7 s3.2.2)
      else (
        (f_X3_finds F s3.2.1 s3.2.2).bind fun v11 =>
        (if v11.1 = 0 then (
          j7 v11.2)
        else (
          self4 ((s3.1 + 1), (s3.2.1 + 1), v11.2)))))) F ((0 : Int32), (0 : Int32), h2)))
set_option maxRecDepth 100000 in
set_option maxHeartbeats 4000000 in
theorem S_X7_reach (F : Nat)  (h : Hp) (r : (Int32 × Hp)) (hf : f_X7_reach F h = some r) : MetP Y_X7_reach 6 [.ref 0] h (some (.int r.1), r.2) := by
  unfold f_X7_reach at hf
  refine met_of yo_X7_reach (Nat.le_of_ble_eq_true rfl) ?_
  show Run Y_X7_reach _ 0 [some (.ref 0), none, none] [] h
  refine r_aload_n dX7_reach_0 rfl ?_
  refine r_getR (E := (0, 6, 14)) dX7_reach_1 sh_0 ft_X7_77 rfl hf fun y1 hy1 hf => ?_
  refine r_getI dX7_reach_4 hy1 ft_X7_154 rfl ?_
  refine r_if_ne 13 dX7_reach_7 (by decide) hf (fun c14 hf => ?_) (fun c14 hf => ?_)
  · refine r_aload_n dX7_reach_13 rfl ?_
    refine r_getS (b := 23) dX7_reach_14 sh_0 ft_X7_51 rfl rfl ?_
    refine r_aload_n dX7_reach_17 rfl ?_
    refine r_getS (b := 18) dX7_reach_18 sh_0 ft_X7_31 rfl rfl ?_
    refine r_getI dX7_reach_21 sh_18 ft_X7_199 rfl ?_
    obtain ⟨h2, hv, hf⟩ := bnd hf
    refine r_callV (lv := 2) dX7_reach_24 yo_X3_begin yi_X3_begin ml_X7_245 ya_X3_begin sh_23 ⟨_, rfl, rfl⟩ (Fits.vm (by decide)) rfl rfl (Nat.le_of_ble_eq_true rfl) (S_X3_begin F (gI h 18 1) h  _ hv) ?_
    refine r_iconst (v := 0) dX7_reach_27 (by decide) ?_
    refine r_istore_nA dX7_reach_28 (by decide) ?_
    refine r_iconst (v := 0) dX7_reach_29 (by decide) ?_
    refine r_istore_nA dX7_reach_30 (by decide) ?_
    refine r_fix (σ := Int32 × Int32 × Hp) (fun s3 => [some (.ref 0), some (.int s3.1), some (.int s3.2.1)]) (fun s3 => s3.2.2) (fun self4 ih5 s3 hf => ?_) F ((0 : Int32), (0 : Int32), h2) hf
    refine r_iload_n dX7_reach_31 rfl ?_
    refine r_sipush (v := 11880) dX7_reach_32 (by decide) ?_
    refine r_jn (P := fun t6 => Run Y_X7_reach (VM 6 (some (.int r.1), r.2)) 58 [some (.ref 0), some (.int s3.1), some (.int s3.2.1)] [] t6) hf (fun t6 hf => ?_) (fun j7 ih8 hf => ?_)
    · refine r_aload_n dX7_reach_58 rfl ?_
      refine r_aload_n dX7_reach_59 rfl ?_
      refine r_getS (b := 23) dX7_reach_60 sh_0 ft_X7_51 rfl rfl ?_
      refine r_iload_n dX7_reach_63 rfl ?_
      refine r_iconst (v := 1) dX7_reach_64 (by decide) ?_
      refine r_isub dX7_reach_65 ?_
      obtain ⟨v9, hv, hf⟩ := bnd hf
      refine r_callV (lv := 1) dX7_reach_66 yo_X3_depth yi_X3_depth ml_X7_239 ya_X3_depth sh_23 ⟨_, rfl, rfl⟩ (Fits.vm (by decide)) rfl rfl (Nat.le_of_ble_eq_true rfl) (S_X3_depth (s3.1 - (1 : Int32)) t6  _ hv) ?_
      refine r_putI dX7_reach_69 sh_0 ft_X7_99 rfl hf fun h10 hf => ?_
      refine r_iload_n dX7_reach_72 rfl ?_
      exact e_iH dX7_reach_73 rfl hf
    refine r_icmp_ge 58 dX7_reach_35 (by decide) hf (fun c13 hf => ?_) (fun c13 hf => ?_)
    · exact ih8 _ hf
    · refine r_aload_n dX7_reach_38 rfl ?_
      refine r_getS (b := 23) dX7_reach_39 sh_0 ft_X7_51 rfl rfl ?_
      refine r_iload_n dX7_reach_42 rfl ?_
      obtain ⟨v11, hv, hf⟩ := bnd hf
      refine r_callV (lv := 5) dX7_reach_43 yo_X3_finds yi_X3_finds ml_X7_248 ya_X3_finds sh_23 ⟨_, rfl, rfl⟩ (Fits.vm (by decide)) rfl rfl (Nat.le_of_ble_eq_true rfl) (S_X3_finds F s3.2.1 s3.2.2  _ hv) ?_
      refine r_if_eq 58 dX7_reach_46 (by decide) hf (fun c12 hf => ?_) (fun c12 hf => ?_)
      · exact ih8 _ hf
      · refine r_iincA (v := 1) dX7_reach_49 rfl (by decide) (by decide) ?_
        refine r_iincA (v := 1) dX7_reach_52 rfl (by decide) (by decide) ?_
        refine r_goto 31 dX7_reach_55 (by decide) ?_
        exact ih5 _ hf
  · refine r_bipush (v := -4) dX7_reach_10 (by decide) ?_
    exact e_iH dX7_reach_12 rfl hf
def f_X7_where (F : Nat) (x1_ : Int32) (h : Hp) : Option (Int32 × Hp) :=
  (f_X7_isMan x1_ h).bind fun v1 =>
  (if v1 = 0 then (
    some ((-1 : Int32), h))
  else (
    (f_X3_begin F (gI h 18 1) h).bind fun h2 =>
    fix (σ := Int32 × Int32 × Hp) (ρ := (Int32 × Hp)) (fun self4 s3 =>
      (if (11880 : Int32) ≤ s3.2.1 then (
        some (s3.1, s3.2.2))
      else (
        (f_X3_finds F s3.2.1 s3.2.2).bind fun v6 =>
        (if v6.1 = 0 then (
          some (s3.1, v6.2))
        else (
          (f_X3_stand s3.2.1 v6.2).bind fun v7 =>
          (f_X7_cellOf v7 x1_ v6.2).bind fun v8 =>
          nm (((1 : Int32) <<< (v8 &&& 31))) fun x9 =>
          (Option.bind (α := Int32 × Hp) (
            (if (s3.1 &&& x9) = 0 then (
              (f_X3_depth s3.2.1 v6.2).bind fun v12 =>
              nm (sI v6.2 0 14 v12) fun h13 =>
              some ((s3.1 ||| x9), h13))
            else (
              some (s3.1, v6.2)))) fun t10 =>
          self4 (t10.1, (s3.2.1 + 1), t10.2))))))) F ((0 : Int32), (0 : Int32), h2)))
set_option maxRecDepth 100000 in
set_option maxHeartbeats 4000000 in
theorem S_X7_where (F : Nat) (x1_ : Int32) (h : Hp) (r : (Int32 × Hp)) (hf : f_X7_where F x1_ h = some r) : MetP Y_X7_where 6 [.ref 0, .int x1_] h (some (.int r.1), r.2) := by
  unfold f_X7_where at hf
  refine met_of yo_X7_where (Nat.le_of_ble_eq_true rfl) ?_
  show Run Y_X7_where _ 0 [some (.ref 0), some (.int x1_), none, none, none] [] h
  refine r_aload_n dX7_where_0 rfl ?_
  refine r_iload_n dX7_where_1 rfl ?_
  obtain ⟨v1, hv, hf⟩ := bnd hf
  refine r_callV (lv := 1) dX7_where_2 yo_X7_isMan yi_X7_isMan ml_X7_157 ya_X7_isMan sh_0 ⟨_, rfl, rfl⟩ (Fits.vm (by decide)) rfl rfl (Nat.le_of_ble_eq_true rfl) (S_X7_isMan x1_ h  _ hv) ?_
  refine r_if_ne 10 dX7_where_5 (by decide) hf (fun c17 hf => ?_) (fun c17 hf => ?_)
  · refine r_aload_n dX7_where_10 rfl ?_
    refine r_getS (b := 23) dX7_where_11 sh_0 ft_X7_51 rfl rfl ?_
    refine r_aload_n dX7_where_14 rfl ?_
    refine r_getS (b := 18) dX7_where_15 sh_0 ft_X7_31 rfl rfl ?_
    refine r_getI dX7_where_18 sh_18 ft_X7_199 rfl ?_
    obtain ⟨h2, hv, hf⟩ := bnd hf
    refine r_callV (lv := 2) dX7_where_21 yo_X3_begin yi_X3_begin ml_X7_245 ya_X3_begin sh_23 ⟨_, rfl, rfl⟩ (Fits.vm (by decide)) rfl rfl (Nat.le_of_ble_eq_true rfl) (S_X3_begin F (gI h 18 1) h  _ hv) ?_
    refine r_iconst (v := 0) dX7_where_24 (by decide) ?_
    refine r_istore_nA dX7_where_25 (by decide) ?_
    refine r_iconst (v := 0) dX7_where_26 (by decide) ?_
    refine r_istore_nA dX7_where_27 (by decide) ?_
    refine r_fix (σ := Int32 × Int32 × Hp) (fun s3 => [some (.ref 0), some (.int x1_), some (.int s3.1), some (.int s3.2.1), none]) (fun s3 => s3.2.2) (fun self4 ih5 s3 hf => ?_) F ((0 : Int32), (0 : Int32), h2) hf
    refine r_iload_n dX7_where_28 rfl ?_
    refine r_sipush (v := 11880) dX7_where_29 (by decide) ?_
    refine r_icmp_ge 92 dX7_where_32 (by decide) hf (fun c16 hf => ?_) (fun c16 hf => ?_)
    · refine r_iload_n dX7_where_92 rfl ?_
      exact e_iH dX7_where_93 rfl hf
    · refine r_aload_n dX7_where_35 rfl ?_
      refine r_getS (b := 23) dX7_where_36 sh_0 ft_X7_51 rfl rfl ?_
      refine r_iload_n dX7_where_39 rfl ?_
      obtain ⟨v6, hv, hf⟩ := bnd hf
      refine r_callV (lv := 5) dX7_where_40 yo_X3_finds yi_X3_finds ml_X7_248 ya_X3_finds sh_23 ⟨_, rfl, rfl⟩ (Fits.vm (by decide)) rfl rfl (Nat.le_of_ble_eq_true rfl) (S_X3_finds F s3.2.1 s3.2.2  _ hv) ?_
      refine r_if_eq 92 dX7_where_43 (by decide) hf (fun c15 hf => ?_) (fun c15 hf => ?_)
      · refine r_iload_n dX7_where_92 rfl ?_
        exact e_iH dX7_where_93 rfl hf
      · refine r_iconst (v := 1) dX7_where_46 (by decide) ?_
        refine r_aload_n dX7_where_47 rfl ?_
        refine r_getS (b := 23) dX7_where_48 sh_0 ft_X7_51 rfl rfl ?_
        refine r_iload_n dX7_where_51 rfl ?_
        obtain ⟨v7, hv, hf⟩ := bnd hf
        refine r_callV (lv := 1) dX7_where_52 yo_X3_stand yi_X3_stand ml_X7_251 ya_X3_stand sh_23 ⟨_, rfl, rfl⟩ (Fits.vm (by decide)) rfl rfl (Nat.le_of_ble_eq_true rfl) (S_X3_stand s3.2.1 v6.2  _ hv) ?_
        refine r_iload_n dX7_where_55 rfl ?_
        obtain ⟨v8, hv, hf⟩ := bnd hf
        refine r_callS (lv := 1) dX7_where_56 yo_X7_cellOf ys_X7_cellOf ml_X7_216 ya_X7_cellOf (Fits.vm (by decide)) rfl rfl (Nat.le_of_ble_eq_true rfl) (S_X7_cellOf v7 x1_ v6.2  _ hv) ?_
        refine r_ishl dX7_where_59 ?_
        refine r_istore dX7_where_60 (by decide) hf fun x9 hf => ?_
        refine r_iload_n dX7_where_62 rfl ?_
        refine r_iload dX7_where_63 rfl ?_
        refine r_iand dX7_where_65 ?_
        refine r_reg (P := fun t10 => Run Y_X7_where (VM 6 (some (.int r.1), r.2)) 86 [some (.ref 0), some (.int x1_), some (.int t10.1), some (.int s3.2.1), some (.int x9)] [] t10.2) hf (fun t10 hf => ?_) (fun t10 key11 hf => ?_)
        · refine r_iincA (v := 1) dX7_where_86 rfl (by decide) (by decide) ?_
          refine r_goto 28 dX7_where_89 (by decide) ?_
          refine r_lt (ll_s (ll_s (ll_s (ll_s (ll_n ll_0))))) ?_
          exact ih5 _ hf
        · refine r_if_ne 86 dX7_where_66 (by decide) hf (fun c14 hf => ?_) (fun c14 hf => ?_)
          · cases hf; exact key11
          · refine r_iload_n dX7_where_69 rfl ?_
            refine r_iload dX7_where_70 rfl ?_
            refine r_ior dX7_where_72 ?_
            refine r_istore_nA dX7_where_73 (by decide) ?_
            refine r_aload_n dX7_where_74 rfl ?_
            refine r_aload_n dX7_where_75 rfl ?_
            refine r_getS (b := 23) dX7_where_76 sh_0 ft_X7_51 rfl rfl ?_
            refine r_iload_n dX7_where_79 rfl ?_
            obtain ⟨v12, hv, hf⟩ := bnd hf
            refine r_callV (lv := 1) dX7_where_80 yo_X3_depth yi_X3_depth ml_X7_239 ya_X3_depth sh_23 ⟨_, rfl, rfl⟩ (Fits.vm (by decide)) rfl rfl (Nat.le_of_ble_eq_true rfl) (S_X3_depth s3.2.1 v6.2  _ hv) ?_
            refine r_putI dX7_where_83 sh_0 ft_X7_99 rfl hf fun h13 hf => ?_
            cases hf; exact key11
  · refine r_iconst (v := -1) dX7_where_8 (by decide) ?_
    exact e_iH dX7_where_9 rfl hf
def f_X7_meet (F : Nat) (x1_ : Int32) (x2_ : Int32) (h : Hp) : Option (Int32 × Hp) :=
  (f_X7_isMan x1_ h).bind fun v1 =>
  (if v1 = 0 then (
    some ((-1 : Int32), h))
  else (
    (f_X7_isMan x2_ h).bind fun v2 =>
    (if v2 = 0 then (
      some ((-1 : Int32), h))
    else (
      (if x1_ = x2_ then (
        some ((-1 : Int32), h))
      else (
        (f_X3_begin F (gI h 18 1) h).bind fun h3 =>
        fix (σ := Int32 × Hp) (ρ := (Int32 × Hp)) (fun self5 s4 =>
          (if (11880 : Int32) ≤ s4.1 then (
            some ((-9 : Int32), s4.2))
          else (
            (f_X3_finds F s4.1 s4.2).bind fun v7 =>
            (if v7.1 = 0 then (
              some ((-9 : Int32), v7.2))
            else (
              (f_X3_stand s4.1 v7.2).bind fun v8 =>
              (f_X7_apart v8 x1_ x2_ v7.2).bind fun v9 =>
              (if v9 = (1 : Int32) then (
                (f_X3_depth s4.1 v7.2).bind fun v10 =>
                some (v10, v7.2))
              else (
                self5 ((s4.1 + 1), v7.2)))))))) F ((0 : Int32), h3)))))))
set_option maxRecDepth 100000 in
set_option maxHeartbeats 4000000 in
theorem S_X7_meet (F : Nat) (x1_ : Int32) (x2_ : Int32) (h : Hp) (r : (Int32 × Hp)) (hf : f_X7_meet F x1_ x2_ h = some r) : MetP Y_X7_meet 6 [.ref 0, .int x1_, .int x2_] h (some (.int r.1), r.2) := by
  unfold f_X7_meet at hf
  refine met_of yo_X7_meet (Nat.le_of_ble_eq_true rfl) ?_
  show Run Y_X7_meet _ 0 [some (.ref 0), some (.int x1_), some (.int x2_), none] [] h
  refine r_aload_n dX7_meet_0 rfl ?_
  refine r_iload_n dX7_meet_1 rfl ?_
  obtain ⟨v1, hv, hf⟩ := bnd hf
  refine r_callV (lv := 1) dX7_meet_2 yo_X7_isMan yi_X7_isMan ml_X7_157 ya_X7_isMan sh_0 ⟨_, rfl, rfl⟩ (Fits.vm (by decide)) rfl rfl (Nat.le_of_ble_eq_true rfl) (S_X7_isMan x1_ h  _ hv) ?_
  refine r_if_eq 21 dX7_meet_5 (by decide) hf (fun c16 hf => ?_) (fun c16 hf => ?_)
  · refine r_iconst (v := -1) dX7_meet_21 (by decide) ?_
    exact e_iH dX7_meet_22 rfl hf
  · refine r_aload_n dX7_meet_8 rfl ?_
    refine r_iload_n dX7_meet_9 rfl ?_
    obtain ⟨v2, hv, hf⟩ := bnd hf
    refine r_callV (lv := 1) dX7_meet_10 yo_X7_isMan yi_X7_isMan ml_X7_157 ya_X7_isMan sh_0 ⟨_, rfl, rfl⟩ (Fits.vm (by decide)) rfl rfl (Nat.le_of_ble_eq_true rfl) (S_X7_isMan x2_ h  _ hv) ?_
    refine r_if_eq 21 dX7_meet_13 (by decide) hf (fun c15 hf => ?_) (fun c15 hf => ?_)
    · refine r_iconst (v := -1) dX7_meet_21 (by decide) ?_
      exact e_iH dX7_meet_22 rfl hf
    · refine r_iload_n dX7_meet_16 rfl ?_
      refine r_iload_n dX7_meet_17 rfl ?_
      refine r_icmp_ne 23 dX7_meet_18 (by decide) hf (fun c14 hf => ?_) (fun c14 hf => ?_)
      · refine r_aload_n dX7_meet_23 rfl ?_
        refine r_getS (b := 23) dX7_meet_24 sh_0 ft_X7_51 rfl rfl ?_
        refine r_aload_n dX7_meet_27 rfl ?_
        refine r_getS (b := 18) dX7_meet_28 sh_0 ft_X7_31 rfl rfl ?_
        refine r_getI dX7_meet_31 sh_18 ft_X7_199 rfl ?_
        obtain ⟨h3, hv, hf⟩ := bnd hf
        refine r_callV (lv := 2) dX7_meet_34 yo_X3_begin yi_X3_begin ml_X7_245 ya_X3_begin sh_23 ⟨_, rfl, rfl⟩ (Fits.vm (by decide)) rfl rfl (Nat.le_of_ble_eq_true rfl) (S_X3_begin F (gI h 18 1) h  _ hv) ?_
        refine r_iconst (v := 0) dX7_meet_37 (by decide) ?_
        refine r_istore_nA dX7_meet_38 (by decide) ?_
        refine r_fix (σ := Int32 × Hp) (fun s4 => [some (.ref 0), some (.int x1_), some (.int x2_), some (.int s4.1)]) (fun s4 => s4.2) (fun self5 ih6 s4 hf => ?_) F ((0 : Int32), h3) hf
        refine r_iload_n dX7_meet_39 rfl ?_
        refine r_sipush (v := 11880) dX7_meet_40 (by decide) ?_
        refine r_icmp_ge 90 dX7_meet_43 (by decide) hf (fun c13 hf => ?_) (fun c13 hf => ?_)
        · refine r_bipush (v := -9) dX7_meet_90 (by decide) ?_
          exact e_iH dX7_meet_92 rfl hf
        · refine r_aload_n dX7_meet_46 rfl ?_
          refine r_getS (b := 23) dX7_meet_47 sh_0 ft_X7_51 rfl rfl ?_
          refine r_iload_n dX7_meet_50 rfl ?_
          obtain ⟨v7, hv, hf⟩ := bnd hf
          refine r_callV (lv := 5) dX7_meet_51 yo_X3_finds yi_X3_finds ml_X7_248 ya_X3_finds sh_23 ⟨_, rfl, rfl⟩ (Fits.vm (by decide)) rfl rfl (Nat.le_of_ble_eq_true rfl) (S_X3_finds F s4.1 s4.2  _ hv) ?_
          refine r_if_eq 90 dX7_meet_54 (by decide) hf (fun c12 hf => ?_) (fun c12 hf => ?_)
          · refine r_bipush (v := -9) dX7_meet_90 (by decide) ?_
            exact e_iH dX7_meet_92 rfl hf
          · refine r_aload_n dX7_meet_57 rfl ?_
            refine r_aload_n dX7_meet_58 rfl ?_
            refine r_getS (b := 23) dX7_meet_59 sh_0 ft_X7_51 rfl rfl ?_
            refine r_iload_n dX7_meet_62 rfl ?_
            obtain ⟨v8, hv, hf⟩ := bnd hf
            refine r_callV (lv := 1) dX7_meet_63 yo_X3_stand yi_X3_stand ml_X7_251 ya_X3_stand sh_23 ⟨_, rfl, rfl⟩ (Fits.vm (by decide)) rfl rfl (Nat.le_of_ble_eq_true rfl) (S_X3_stand s4.1 v7.2  _ hv) ?_
            refine r_iload_n dX7_meet_66 rfl ?_
            refine r_iload_n dX7_meet_67 rfl ?_
            obtain ⟨v9, hv, hf⟩ := bnd hf
            refine r_callV (lv := 2) dX7_meet_68 yo_X7_apart yi_X7_apart ml_X7_253 ya_X7_apart sh_0 ⟨_, rfl, rfl⟩ (Fits.vm (by decide)) rfl rfl (Nat.le_of_ble_eq_true rfl) (S_X7_apart v8 x1_ x2_ v7.2  _ hv) ?_
            refine r_iconst (v := 1) dX7_meet_71 (by decide) ?_
            refine r_icmp_ne 84 dX7_meet_72 (by decide) hf (fun c11 hf => ?_) (fun c11 hf => ?_)
            · refine r_iincA (v := 1) dX7_meet_84 rfl (by decide) (by decide) ?_
              refine r_goto 39 dX7_meet_87 (by decide) ?_
              exact ih6 _ hf
            · refine r_aload_n dX7_meet_75 rfl ?_
              refine r_getS (b := 23) dX7_meet_76 sh_0 ft_X7_51 rfl rfl ?_
              refine r_iload_n dX7_meet_79 rfl ?_
              obtain ⟨v10, hv, hf⟩ := bnd hf
              refine r_callV (lv := 1) dX7_meet_80 yo_X3_depth yi_X3_depth ml_X7_239 ya_X3_depth sh_23 ⟨_, rfl, rfl⟩ (Fits.vm (by decide)) rfl rfl (Nat.le_of_ble_eq_true rfl) (S_X3_depth s4.1 v7.2  _ hv) ?_
              exact e_iH dX7_meet_83 rfl hf
      · refine r_iconst (v := -1) dX7_meet_21 (by decide) ?_
        exact e_iH dX7_meet_22 rfl hf
