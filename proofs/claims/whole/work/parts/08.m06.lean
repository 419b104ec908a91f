def f_X7_ofMan (F : Nat) (x1_ : Int32) (x2_ : Int32) (h : Hp) : Option Int32 :=
  (if x2_ = 0 then (
    (gO h 0 11 (0, 6, 14)).bind fun y2 =>
    (ldI h (rf y2 7) x1_).bind fun v3 =>
    some v3)
  else
  (if x2_ = 1 then (
    (f_X7_cellOf (gI h 18 1) x1_ h).bind fun v5 =>
    some v5)
  else
  (if x2_ = 2 then (
    (f_X7_closedChains h).bind fun v7 =>
    (gO h 0 11 (0, 6, 14)).bind fun y8 =>
    (f_X6_chainsOf F y8 x1_ h).bind fun v9 =>
    (f_J6_bitCount_0f7a4 (v7 &&& v9) h).bind fun v10 =>
    some v10)
  else
  (
    (f_X0_stepsOf F 18 x1_ h).bind fun v11 =>
    some v11))))
set_option maxRecDepth 100000 in
set_option maxHeartbeats 4000000 in
theorem S_X7_ofMan (F : Nat) (x1_ : Int32) (x2_ : Int32) (h : Hp) (r : Int32) (hf : f_X7_ofMan F x1_ x2_ h = some r) : MetP Y_X7_ofMan 2 [.ref 0, .int x1_, .int x2_] h (some (.int r), h) := by
  unfold f_X7_ofMan at hf
  refine met_of yo_X7_ofMan (Nat.le_of_ble_eq_true rfl) ?_
  show Run Y_X7_ofMan _ 0 [some (.ref 0), some (.int x1_), some (.int x2_)] [] h
  refine r_iload_n dX7_ofMan_0 rfl ?_
  refine r_ite hf (fun c1 hf => ?_) (fun c1 hf => ?_)
  · refine r_tabIn 28 dX7_ofMan_1 (by rw [c1]; decide) (by rw [c1]; decide) (off := 27) (by rw [c1]; rfl) (by decide) ?_
    refine r_aload_n dX7_ofMan_28 rfl ?_
    refine r_getR (E := (0, 6, 14)) dX7_ofMan_29 sh_0 ft_X7_77 rfl hf fun y2 hy2 hf => ?_
    refine r_getS (b := rf y2 7) dX7_ofMan_32 hy2 ft_X7_393 rfl rfl ?_
    refine r_iload_n dX7_ofMan_35 rfl ?_
    refine r_iald dX7_ofMan_36 (sf_6_7 hy2) hf fun v3 hf => ?_
    exact e_iP dX7_ofMan_37 rfl hf
  refine r_ite hf (fun c4 hf => ?_) (fun c4 hf => ?_)
  · refine r_tabIn 38 dX7_ofMan_1 (by rw [c4]; decide) (by rw [c4]; decide) (off := 37) (by rw [c4]; rfl) (by decide) ?_
    refine r_aload_n dX7_ofMan_38 rfl ?_
    refine r_getS (b := 18) dX7_ofMan_39 sh_0 ft_X7_31 rfl rfl ?_
    refine r_getI dX7_ofMan_42 sh_18 ft_X7_199 rfl ?_
    refine r_iload_n dX7_ofMan_45 rfl ?_
    obtain ⟨v5, hv, hf⟩ := bnd hf
    refine r_callS (lv := 1) dX7_ofMan_46 yo_X7_cellOf ys_X7_cellOf ml_X7_216 ya_X7_cellOf (Fits.vm (by decide)) rfl rfl (Nat.le_of_ble_eq_true rfl) (S_X7_cellOf (gI h 18 1) x1_ h  _ hv) ?_
    exact e_iP dX7_ofMan_49 rfl hf
  refine r_ite hf (fun c6 hf => ?_) (fun c6 hf => ?_)
  · refine r_tabIn 50 dX7_ofMan_1 (by rw [c6]; decide) (by rw [c6]; decide) (off := 49) (by rw [c6]; rfl) (by decide) ?_
    refine r_aload_n dX7_ofMan_50 rfl ?_
    obtain ⟨v7, hv, hf⟩ := bnd hf
    refine r_callV (lv := 1) dX7_ofMan_51 yo_X7_closedChains yi_X7_closedChains ml_X7_297 ya_X7_closedChains sh_0 ⟨_, rfl, rfl⟩ (Fits.vm (by decide)) rfl rfl (Nat.le_of_ble_eq_true rfl) (S_X7_closedChains  h  _ hv) ?_
    refine r_aload_n dX7_ofMan_54 rfl ?_
    refine r_getR (E := (0, 6, 14)) dX7_ofMan_55 sh_0 ft_X7_77 rfl hf fun y8 hy8 hf => ?_
    refine r_iload_n dX7_ofMan_58 rfl ?_
    obtain ⟨v9, hv, hf⟩ := bnd hf
    refine r_callV (lv := 1) dX7_ofMan_59 yo_X6_chainsOf yi_X6_chainsOf ml_X7_303 ya_X6_chainsOf hy8 ⟨_, rfl, rfl⟩ (Fits.vm (by decide)) rfl rfl (Nat.le_of_ble_eq_true rfl) (S_X6_chainsOf F y8 x1_ hy8 h  _ hv) ?_
    refine r_iand dX7_ofMan_62 ?_
    obtain ⟨v10, hv, hf⟩ := bnd hf
    refine r_callS (lv := 1) dX7_ofMan_63 yo_J6_bitCount_0f7a4 ys_J6_bitCount_0f7a4 ml_X7_179 ya_J6_bitCount_0f7a4 (Fits.vm (by decide)) rfl rfl (Nat.le_of_ble_eq_true rfl) (S_J6_bitCount_0f7a4 (v7 &&& v9) h  _ hv) ?_
    exact e_iP dX7_ofMan_66 rfl hf
  refine r_tabDef 67 3 dX7_ofMan_1 (by decide) (fun i hi e => ?_) (by decide) ?_
  · have a0 : ¬ (x2_).toInt = 0 := fun q => c1 (Int32.toInt_inj.mp (by rw [q]; rfl))
    have a1 : ¬ (x2_).toInt = 1 := fun q => c4 (Int32.toInt_inj.mp (by rw [q]; rfl))
    have a2 : ¬ (x2_).toInt = 2 := fun q => c6 (Int32.toInt_inj.mp (by rw [q]; rfl))
    exfalso; omega
  · refine r_aload_n dX7_ofMan_67 rfl ?_
    refine r_getS (b := 18) dX7_ofMan_68 sh_0 ft_X7_31 rfl rfl ?_
    refine r_iload_n dX7_ofMan_71 rfl ?_
    obtain ⟨v11, hv, hf⟩ := bnd hf
    refine r_callV (lv := 1) dX7_ofMan_72 yo_X0_stepsOf yi_X0_stepsOf ml_X7_396 ya_X0_stepsOf sh_18 ⟨_, rfl, rfl⟩ (Fits.vm (by decide)) rfl rfl (Nat.le_of_ble_eq_true rfl) (S_X0_stepsOf F 18 x1_ sh_18 h  _ hv) ?_
    exact e_iP dX7_ofMan_75 rfl hf
def f_X7_man (F : Nat) (x1_ : Int32) (x2_ : Int32) (h : Hp) : Option (Int32 × Hp) :=
  (f_X7_isMan x1_ h).bind fun v1 =>
  (if v1 = 0 then (
    some ((-1 : Int32), h))
  else (
    (if x2_ < 0 then (
      some ((-1 : Int32), h))
    else (
      (if x2_ ≤ (3 : Int32) then (
        (f_X7_ofMan F x1_ x2_ h).bind fun v2 =>
        nm (sI h 0 14 v2) fun h3 =>
        some ((1 : Int32), h3))
      else (
        some ((-1 : Int32), h)))))))
set_option maxRecDepth 100000 in
set_option maxHeartbeats 4000000 in
theorem S_X7_man (F : Nat) (x1_ : Int32) (x2_ : Int32) (h : Hp) (r : (Int32 × Hp)) (hf : f_X7_man F x1_ x2_ h = some r) : MetP Y_X7_man 3 [.ref 0, .int x1_, .int x2_] h (some (.int r.1), r.2) := by
  unfold f_X7_man at hf
  refine met_of yo_X7_man (Nat.le_of_ble_eq_true rfl) ?_
  show Run Y_X7_man _ 0 [some (.ref 0), some (.int x1_), some (.int x2_)] [] h
  refine r_aload_n dX7_man_0 rfl ?_
  refine r_iload_n dX7_man_1 rfl ?_
  obtain ⟨v1, hv, hf⟩ := bnd hf
  refine r_callV (lv := 1) dX7_man_2 yo_X7_isMan yi_X7_isMan ml_X7_157 ya_X7_isMan sh_0 ⟨_, rfl, rfl⟩ (Fits.vm (by decide)) rfl rfl (Nat.le_of_ble_eq_true rfl) (S_X7_isMan x1_ h  _ hv) ?_
  refine r_if_eq 17 dX7_man_5 (by decide) hf (fun c6 hf => ?_) (fun c6 hf => ?_)
  · refine r_iconst (v := -1) dX7_man_17 (by decide) ?_
    exact e_iH dX7_man_18 rfl hf
  · refine r_iload_n dX7_man_8 rfl ?_
    refine r_if_lt 17 dX7_man_9 (by decide) hf (fun c5 hf => ?_) (fun c5 hf => ?_)
    · refine r_iconst (v := -1) dX7_man_17 (by decide) ?_
      exact e_iH dX7_man_18 rfl hf
    · refine r_iload_n dX7_man_12 rfl ?_
      refine r_iconst (v := 3) dX7_man_13 (by decide) ?_
      refine r_icmp_le 19 dX7_man_14 (by decide) hf (fun c4 hf => ?_) (fun c4 hf => ?_)
      · refine r_aload_n dX7_man_19 rfl ?_
        refine r_aload_n dX7_man_20 rfl ?_
        refine r_iload_n dX7_man_21 rfl ?_
        refine r_iload_n dX7_man_22 rfl ?_
        obtain ⟨v2, hv, hf⟩ := bnd hf
        refine r_callV (lv := 2) dX7_man_23 yo_X7_ofMan yi_X7_ofMan ml_X7_160 ya_X7_ofMan sh_0 ⟨_, rfl, rfl⟩ (Fits.vm (by decide)) rfl rfl (Nat.le_of_ble_eq_true rfl) (S_X7_ofMan F x1_ x2_ h  _ hv) ?_
        refine r_putI dX7_man_26 sh_0 ft_X7_99 rfl hf fun h3 hf => ?_
        refine r_iconst (v := 1) dX7_man_29 (by decide) ?_
        exact e_iH dX7_man_30 rfl hf
      · refine r_iconst (v := -1) dX7_man_17 (by decide) ?_
        exact e_iH dX7_man_18 rfl hf
def f_X7_isChain (x1_ : Int32) (h : Hp) : Option Int32 :=
  (Option.bind (α := Int32) (
    (if x1_ < 0 then (
      some (0 : Int32))
    else (
      (gO h 0 11 (0, 6, 14)).bind fun y3 =>
      (if (gI h y3 5) ≤ x1_ then (
        some (0 : Int32))
      else (
        some (1 : Int32)))))) fun t1 =>
  ckZ t1)
set_option maxRecDepth 100000 in
set_option maxHeartbeats 4000000 in
theorem S_X7_isChain (x1_ : Int32) (h : Hp) (r : Int32) (hf : f_X7_isChain x1_ h = some r) : MetP Y_X7_isChain 1 [.ref 0, .int x1_] h (some (.int r), h) := by
  unfold f_X7_isChain at hf
  refine met_of yo_X7_isChain (Nat.le_of_ble_eq_true rfl) ?_
  show Run Y_X7_isChain _ 0 [some (.ref 0), some (.int x1_)] [] h
  refine r_iload_n dX7_isChain_0 rfl ?_
  refine r_reg (P := fun t1 => Run Y_X7_isChain (VM 1 (some (.int r), h)) 20 [some (.ref 0), some (.int x1_)] [.int t1] h) hf (fun t1 hf => ?_) (fun t1 key2 hf => ?_)
  · exact e_zP dX7_isChain_20 rfl hf
  · refine r_if_lt 19 dX7_isChain_1 (by decide) hf (fun c5 hf => ?_) (fun c5 hf => ?_)
    · refine r_iconst (v := 0) dX7_isChain_19 (by decide) ?_
      cases hf; exact key2
    · refine r_iload_n dX7_isChain_4 rfl ?_
      refine r_aload_n dX7_isChain_5 rfl ?_
      refine r_getR (E := (0, 6, 14)) dX7_isChain_6 sh_0 ft_X7_77 rfl hf fun y3 hy3 hf => ?_
      refine r_getI dX7_isChain_9 hy3 ft_X7_348 rfl ?_
      refine r_icmp_ge 19 dX7_isChain_12 (by decide) hf (fun c4 hf => ?_) (fun c4 hf => ?_)
      · refine r_iconst (v := 0) dX7_isChain_19 (by decide) ?_
        cases hf; exact key2
      · refine r_iconst (v := 1) dX7_isChain_15 (by decide) ?_
        refine r_goto 20 dX7_isChain_16 (by decide) ?_
        cases hf; exact key2
def f_X7_apart (x1_ : Int32) (x2_ : Int32) (x3_ : Int32) (h : Hp) : Option Int32 :=
  (gO h 0 11 (0, 6, 14)).bind fun y1 =>
  (f_X7_cellOf x1_ x2_ h).bind fun v2 =>
  (f_X7_cellOf x1_ x3_ h).bind fun v3 =>
  (f_X6_distance y1 v2 v3 h).bind fun v4 =>
  some v4
set_option maxRecDepth 100000 in
set_option maxHeartbeats 4000000 in
theorem S_X7_apart (x1_ : Int32) (x2_ : Int32) (x3_ : Int32) (h : Hp) (r : Int32) (hf : f_X7_apart x1_ x2_ x3_ h = some r) : MetP Y_X7_apart 2 [.ref 0, .int x1_, .int x2_, .int x3_] h (some (.int r), h) := by
  unfold f_X7_apart at hf
  refine met_of yo_X7_apart (Nat.le_of_ble_eq_true rfl) ?_
  show Run Y_X7_apart _ 0 [some (.ref 0), some (.int x1_), some (.int x2_), some (.int x3_)] [] h
  refine r_aload_n dX7_apart_0 rfl ?_
  refine r_getR (E := (0, 6, 14)) dX7_apart_1 sh_0 ft_X7_77 rfl hf fun y1 hy1 hf => ?_
  refine r_iload_n dX7_apart_4 rfl ?_
  refine r_iload_n dX7_apart_5 rfl ?_
  obtain ⟨v2, hv, hf⟩ := bnd hf
  refine r_callS (lv := 1) dX7_apart_6 yo_X7_cellOf ys_X7_cellOf ml_X7_216 ya_X7_cellOf (Fits.vm (by decide)) rfl rfl (Nat.le_of_ble_eq_true rfl) (S_X7_cellOf x1_ x2_ h  _ hv) ?_
  refine r_iload_n dX7_apart_9 rfl ?_
  refine r_iload_n dX7_apart_10 rfl ?_
  obtain ⟨v3, hv, hf⟩ := bnd hf
  refine r_callS (lv := 1) dX7_apart_11 yo_X7_cellOf ys_X7_cellOf ml_X7_216 ya_X7_cellOf (Fits.vm (by decide)) rfl rfl (Nat.le_of_ble_eq_true rfl) (S_X7_cellOf x1_ x3_ h  _ hv) ?_
  obtain ⟨v4, hv, hf⟩ := bnd hf
  refine r_callV (lv := 1) dX7_apart_14 yo_X6_distance yi_X6_distance ml_X7_390 ya_X6_distance hy1 ⟨_, rfl, rfl⟩ (Fits.vm (by decide)) rfl rfl (Nat.le_of_ble_eq_true rfl) (S_X6_distance y1 v2 v3 hy1 h  _ hv) ?_
  exact e_iP dX7_apart_17 rfl hf
def f_X7_ofChain (x1_ : Int32) (x2_ : Int32) (h : Hp) : Option Int32 :=
  (if x2_ = 0 then (
    (gO h 0 11 (0, 6, 14)).bind fun y2 =>
    (ldI h (rf y2 9) x1_).bind fun v3 =>
    some v3)
  else
  (if x2_ = 1 then (
    (gO h 0 11 (0, 6, 14)).bind fun y5 =>
    (ldI h (rf y5 10) x1_).bind fun v6 =>
    some v6)
  else
  (if x2_ = 2 then (
    (gO h 0 11 (0, 6, 14)).bind fun y8 =>
    (f_X6_secondEnd y8 x1_ h).bind fun v9 =>
    (f_X7_apart (gI h 18 1) x1_ v9 h).bind fun v10 =>
    some v10)
  else
  (
    some (((gI h 18 3) >>> (x1_ &&& 31)) &&& (1 : Int32))))))
set_option maxRecDepth 100000 in
set_option maxHeartbeats 4000000 in
theorem S_X7_ofChain (x1_ : Int32) (x2_ : Int32) (h : Hp) (r : Int32) (hf : f_X7_ofChain x1_ x2_ h = some r) : MetP Y_X7_ofChain 3 [.ref 0, .int x1_, .int x2_] h (some (.int r), h) := by
  unfold f_X7_ofChain at hf
  refine met_of yo_X7_ofChain (Nat.le_of_ble_eq_true rfl) ?_
  show Run Y_X7_ofChain _ 0 [some (.ref 0), some (.int x1_), some (.int x2_)] [] h
  refine r_iload_n dX7_ofChain_0 rfl ?_
  refine r_ite hf (fun c1 hf => ?_) (fun c1 hf => ?_)
  · refine r_tabIn 28 dX7_ofChain_1 (by rw [c1]; decide) (by rw [c1]; decide) (off := 27) (by rw [c1]; rfl) (by decide) ?_
    refine r_aload_n dX7_ofChain_28 rfl ?_
    refine r_getR (E := (0, 6, 14)) dX7_ofChain_29 sh_0 ft_X7_77 rfl hf fun y2 hy2 hf => ?_
    refine r_getS (b := rf y2 9) dX7_ofChain_32 hy2 ft_X7_399 rfl rfl ?_
    refine r_iload_n dX7_ofChain_35 rfl ?_
    refine r_iald dX7_ofChain_36 (sf_6_9 hy2) hf fun v3 hf => ?_
    exact e_iP dX7_ofChain_37 rfl hf
  refine r_ite hf (fun c4 hf => ?_) (fun c4 hf => ?_)
  · refine r_tabIn 38 dX7_ofChain_1 (by rw [c4]; decide) (by rw [c4]; decide) (off := 37) (by rw [c4]; rfl) (by decide) ?_
    refine r_aload_n dX7_ofChain_38 rfl ?_
    refine r_getR (E := (0, 6, 14)) dX7_ofChain_39 sh_0 ft_X7_77 rfl hf fun y5 hy5 hf => ?_
    refine r_getS (b := rf y5 10) dX7_ofChain_42 hy5 ft_X7_402 rfl rfl ?_
    refine r_iload_n dX7_ofChain_45 rfl ?_
    refine r_iald dX7_ofChain_46 (sf_6_10 hy5) hf fun v6 hf => ?_
    exact e_iP dX7_ofChain_47 rfl hf
  refine r_ite hf (fun c7 hf => ?_) (fun c7 hf => ?_)
  · refine r_tabIn 48 dX7_ofChain_1 (by rw [c7]; decide) (by rw [c7]; decide) (off := 47) (by rw [c7]; rfl) (by decide) ?_
    refine r_aload_n dX7_ofChain_48 rfl ?_
    refine r_aload_n dX7_ofChain_49 rfl ?_
    refine r_getS (b := 18) dX7_ofChain_50 sh_0 ft_X7_31 rfl rfl ?_
    refine r_getI dX7_ofChain_53 sh_18 ft_X7_199 rfl ?_
    refine r_iload_n dX7_ofChain_56 rfl ?_
    refine r_aload_n dX7_ofChain_57 rfl ?_
    refine r_getR (E := (0, 6, 14)) dX7_ofChain_58 sh_0 ft_X7_77 rfl hf fun y8 hy8 hf => ?_
    refine r_iload_n dX7_ofChain_61 rfl ?_
    obtain ⟨v9, hv, hf⟩ := bnd hf
    refine r_callV (lv := 1) dX7_ofChain_62 yo_X6_secondEnd yi_X6_secondEnd ml_X7_405 ya_X6_secondEnd hy8 ⟨_, rfl, rfl⟩ (Fits.vm (by decide)) rfl rfl (Nat.le_of_ble_eq_true rfl) (S_X6_secondEnd y8 x1_ hy8 h  _ hv) ?_
    obtain ⟨v10, hv, hf⟩ := bnd hf
    refine r_callV (lv := 2) dX7_ofChain_65 yo_X7_apart yi_X7_apart ml_X7_253 ya_X7_apart sh_0 ⟨_, rfl, rfl⟩ (Fits.vm (by decide)) rfl rfl (Nat.le_of_ble_eq_true rfl) (S_X7_apart (gI h 18 1) x1_ v9 h  _ hv) ?_
    exact e_iP dX7_ofChain_68 rfl hf
  refine r_tabDef 69 3 dX7_ofChain_1 (by decide) (fun i hi e => ?_) (by decide) ?_
  · have a0 : ¬ (x2_).toInt = 0 := fun q => c1 (Int32.toInt_inj.mp (by rw [q]; rfl))
    have a1 : ¬ (x2_).toInt = 1 := fun q => c4 (Int32.toInt_inj.mp (by rw [q]; rfl))
    have a2 : ¬ (x2_).toInt = 2 := fun q => c7 (Int32.toInt_inj.mp (by rw [q]; rfl))
    exfalso; omega
  · refine r_aload_n dX7_ofChain_69 rfl ?_
    refine r_getS (b := 18) dX7_ofChain_70 sh_0 ft_X7_31 rfl rfl ?_
    refine r_getI dX7_ofChain_73 sh_18 ft_X7_196 rfl ?_
    refine r_iload_n dX7_ofChain_76 rfl ?_
    refine r_ishr dX7_ofChain_77 ?_
    refine r_iconst (v := 1) dX7_ofChain_78 (by decide) ?_
    refine r_iand dX7_ofChain_79 ?_
    exact e_iP dX7_ofChain_80 rfl hf
def f_X7_chain (x1_ : Int32) (x2_ : Int32) (h : Hp) : Option (Int32 × Hp) :=
  (f_X7_isChain x1_ h).bind fun v1 =>
  (if v1 = 0 then (
    some ((-1 : Int32), h))
  else (
    (if x2_ < 0 then (
      some ((-1 : Int32), h))
    else (
      (if x2_ ≤ (3 : Int32) then (
        (f_X7_ofChain x1_ x2_ h).bind fun v2 =>
        nm (sI h 0 14 v2) fun h3 =>
        some ((1 : Int32), h3))
      else (
        some ((-1 : Int32), h)))))))
set_option maxRecDepth 100000 in
set_option maxHeartbeats 4000000 in
theorem S_X7_chain (x1_ : Int32) (x2_ : Int32) (h : Hp) (r : (Int32 × Hp)) (hf : f_X7_chain x1_ x2_ h = some r) : MetP Y_X7_chain 4 [.ref 0, .int x1_, .int x2_] h (some (.int r.1), r.2) := by
  unfold f_X7_chain at hf
  refine met_of yo_X7_chain (Nat.le_of_ble_eq_true rfl) ?_
  show Run Y_X7_chain _ 0 [some (.ref 0), some (.int x1_), some (.int x2_)] [] h
  refine r_aload_n dX7_chain_0 rfl ?_
  refine r_iload_n dX7_chain_1 rfl ?_
  obtain ⟨v1, hv, hf⟩ := bnd hf
  refine r_callV (lv := 1) dX7_chain_2 yo_X7_isChain yi_X7_isChain ml_X7_163 ya_X7_isChain sh_0 ⟨_, rfl, rfl⟩ (Fits.vm (by decide)) rfl rfl (Nat.le_of_ble_eq_true rfl) (S_X7_isChain x1_ h  _ hv) ?_
  refine r_if_eq 17 dX7_chain_5 (by decide) hf (fun c6 hf => ?_) (fun c6 hf => ?_)
  · refine r_iconst (v := -1) dX7_chain_17 (by decide) ?_
    exact e_iH dX7_chain_18 rfl hf
  · refine r_iload_n dX7_chain_8 rfl ?_
    refine r_if_lt 17 dX7_chain_9 (by decide) hf (fun c5 hf => ?_) (fun c5 hf => ?_)
    · refine r_iconst (v := -1) dX7_chain_17 (by decide) ?_
      exact e_iH dX7_chain_18 rfl hf
    · refine r_iload_n dX7_chain_12 rfl ?_
      refine r_iconst (v := 3) dX7_chain_13 (by decide) ?_
      refine r_icmp_le 19 dX7_chain_14 (by decide) hf (fun c4 hf => ?_) (fun c4 hf => ?_)
      · refine r_aload_n dX7_chain_19 rfl ?_
        refine r_aload_n dX7_chain_20 rfl ?_
        refine r_iload_n dX7_chain_21 rfl ?_
        refine r_iload_n dX7_chain_22 rfl ?_
        obtain ⟨v2, hv, hf⟩ := bnd hf
        refine r_callV (lv := 3) dX7_chain_23 yo_X7_ofChain yi_X7_ofChain ml_X7_166 ya_X7_ofChain sh_0 ⟨_, rfl, rfl⟩ (Fits.vm (by decide)) rfl rfl (Nat.le_of_ble_eq_true rfl) (S_X7_ofChain x1_ x2_ h  _ hv) ?_
        refine r_putI dX7_chain_26 sh_0 ft_X7_99 rfl hf fun h3 hf => ?_
        refine r_iconst (v := 1) dX7_chain_29 (by decide) ?_
        exact e_iH dX7_chain_30 rfl hf
      · refine r_iconst (v := -1) dX7_chain_17 (by decide) ?_
        exact e_iH dX7_chain_18 rfl hf
def f_X7_chainedTo (F : Nat) (x1_ : Int32) (x2_ : Int32) (h : Hp) : Option Int32 :=
  fix (σ := Int32 × Int32) (ρ := Int32) (fun self2 s1 =>
    (gO h 0 11 (0, 6, 14)).bind fun y4 =>
    (if (gI h y4 5) ≤ s1.2 then (
      some s1.1)
    else (
      (gO h 0 11 (0, 6, 14)).bind fun y5 =>
      (ldI h (rf y5 13) ((s1.2 * (4 : Int32)) + x1_)).bind fun v6 =>
      (Option.bind (α := Int32) (
        (if (((gI h 18 3) >>> (s1.2 &&& 31)) &&& (1 : Int32)) = 0 then (
          (if v6 = (-9 : Int32) then (
            some s1.1)
          else (
            (gO h 0 11 (0, 6, 14)).bind fun y9 =>
            (ldI h (rf y9 7) v6).bind fun v10 =>
            (if v10 = x2_ then (
              some (s1.1 + 1))
            else (
              some s1.1)))))
        else (
          some s1.1))) fun t7 =>
      self2 (t7, (s1.2 + 1)))))) F ((0 : Int32), (0 : Int32))
set_option maxRecDepth 100000 in
set_option maxHeartbeats 4000000 in
theorem S_X7_chainedTo (F : Nat) (x1_ : Int32) (x2_ : Int32) (h : Hp) (r : Int32) (hf : f_X7_chainedTo F x1_ x2_ h = some r) : MetP Y_X7_chainedTo 1 [.ref 0, .int x1_, .int x2_] h (some (.int r), h) := by
  unfold f_X7_chainedTo at hf
  refine met_of yo_X7_chainedTo (Nat.le_of_ble_eq_true rfl) ?_
  show Run Y_X7_chainedTo _ 0 [some (.ref 0), some (.int x1_), some (.int x2_), none, none, none] [] h
  refine r_iconst (v := 0) dX7_chainedTo_0 (by decide) ?_
  refine r_istore_nA dX7_chainedTo_1 (by decide) ?_
  refine r_iconst (v := 0) dX7_chainedTo_2 (by decide) ?_
  refine r_istoreA dX7_chainedTo_3 (by decide) ?_
  refine r_fix (σ := Int32 × Int32) (fun s1 => [some (.ref 0), some (.int x1_), some (.int x2_), some (.int s1.1), some (.int s1.2), none]) (fun s1 => h) (fun self2 ih3 s1 hf => ?_) F ((0 : Int32), (0 : Int32)) hf
  refine r_iload dX7_chainedTo_5 rfl ?_
  refine r_aload_n dX7_chainedTo_7 rfl ?_
  refine r_getR (E := (0, 6, 14)) dX7_chainedTo_8 sh_0 ft_X7_77 rfl hf fun y4 hy4 hf => ?_
  refine r_getI dX7_chainedTo_11 hy4 ft_X7_348 rfl ?_
  refine r_icmp_ge 78 dX7_chainedTo_14 (by decide) hf (fun c14 hf => ?_) (fun c14 hf => ?_)
  · refine r_iload_n dX7_chainedTo_78 rfl ?_
    exact e_iP dX7_chainedTo_79 rfl hf
  · refine r_aload_n dX7_chainedTo_17 rfl ?_
    refine r_getR (E := (0, 6, 14)) dX7_chainedTo_18 sh_0 ft_X7_77 rfl hf fun y5 hy5 hf => ?_
    refine r_getS (b := rf y5 13) dX7_chainedTo_21 hy5 ft_X7_408 rfl rfl ?_
    refine r_iload dX7_chainedTo_24 rfl ?_
    refine r_iconst (v := 4) dX7_chainedTo_26 (by decide) ?_
    refine r_imul dX7_chainedTo_27 ?_
    refine r_iload_n dX7_chainedTo_28 rfl ?_
    refine r_iadd dX7_chainedTo_29 ?_
    refine r_iald dX7_chainedTo_30 (sf_6_13 hy5) hf fun v6 hf => ?_
    refine r_istoreA dX7_chainedTo_31 (by decide) ?_
    refine r_aload_n dX7_chainedTo_33 rfl ?_
    refine r_getS (b := 18) dX7_chainedTo_34 sh_0 ft_X7_31 rfl rfl ?_
    refine r_getI dX7_chainedTo_37 sh_18 ft_X7_196 rfl ?_
    refine r_iload dX7_chainedTo_40 rfl ?_
    refine r_ishr dX7_chainedTo_42 ?_
    refine r_iconst (v := 1) dX7_chainedTo_43 (by decide) ?_
    refine r_iand dX7_chainedTo_44 ?_
    refine r_reg (P := fun t7 => Run Y_X7_chainedTo (VM 1 (some (.int r), h)) 72 [some (.ref 0), some (.int x1_), some (.int x2_), some (.int t7), some (.int s1.2), some (.int v6)] [] h) hf (fun t7 hf => ?_) (fun t7 key8 hf => ?_)
    · refine r_iincA (v := 1) dX7_chainedTo_72 rfl (by decide) (by decide) ?_
      refine r_goto 5 dX7_chainedTo_75 (by decide) ?_
      refine r_lt (ll_s (ll_s (ll_s (ll_s (ll_s (ll_n ll_0)))))) ?_
      exact ih3 _ hf
    · refine r_if_ne 72 dX7_chainedTo_45 (by decide) hf (fun c13 hf => ?_) (fun c13 hf => ?_)
      · cases hf; exact key8
      · refine r_iload dX7_chainedTo_48 rfl ?_
        refine r_bipush (v := -9) dX7_chainedTo_50 (by decide) ?_
        refine r_icmp_eq 72 dX7_chainedTo_52 (by decide) hf (fun c12 hf => ?_) (fun c12 hf => ?_)
        · cases hf; exact key8
        · refine r_aload_n dX7_chainedTo_55 rfl ?_
          refine r_getR (E := (0, 6, 14)) dX7_chainedTo_56 sh_0 ft_X7_77 rfl hf fun y9 hy9 hf => ?_
          refine r_getS (b := rf y9 7) dX7_chainedTo_59 hy9 ft_X7_393 rfl rfl ?_
          refine r_iload dX7_chainedTo_62 rfl ?_
          refine r_iald dX7_chainedTo_64 (sf_6_7 hy9) hf fun v10 hf => ?_
          refine r_iload_n dX7_chainedTo_65 rfl ?_
          refine r_icmp_ne 72 dX7_chainedTo_66 (by decide) hf (fun c11 hf => ?_) (fun c11 hf => ?_)
          · cases hf; exact key8
          · refine r_iincA (v := 1) dX7_chainedTo_69 rfl (by decide) (by decide) ?_
            cases hf; exact key8
def f_X7_waysOpenTo (F : Nat) (x1_ : Int32) (h : Hp) : Option Int32 :=
  fix (σ := Int32 × Int32) (ρ := Int32) (fun self2 s1 =>
    (if (4 : Int32) ≤ s1.2 then (
      some s1.1)
    else (
      (f_X2_after F (gI h 18 1) x1_ s1.2 h).bind fun v4 =>
      (Option.bind (α := Int32) (
        (if v4 = (-9 : Int32) then (
          some s1.1)
        else (
          nm ((s1.1 ||| ((1 : Int32) <<< (s1.2 &&& 31)))) fun x7 =>
          some x7))) fun t5 =>
      self2 (t5, (s1.2 + 1)))))) F ((0 : Int32), (0 : Int32))
set_option maxRecDepth 100000 in
set_option maxHeartbeats 4000000 in
theorem S_X7_waysOpenTo (F : Nat) (x1_ : Int32) (h : Hp) (r : Int32) (hf : f_X7_waysOpenTo F x1_ h = some r) : MetP Y_X7_waysOpenTo 3 [.ref 0, .int x1_] h (some (.int r), h) := by
  unfold f_X7_waysOpenTo at hf
  refine met_of yo_X7_waysOpenTo (Nat.le_of_ble_eq_true rfl) ?_
  show Run Y_X7_waysOpenTo _ 0 [some (.ref 0), some (.int x1_), none, none] [] h
  refine r_iconst (v := 0) dX7_waysOpenTo_0 (by decide) ?_
  refine r_istore_nA dX7_waysOpenTo_1 (by decide) ?_
  refine r_iconst (v := 0) dX7_waysOpenTo_2 (by decide) ?_
  refine r_istore_nA dX7_waysOpenTo_3 (by decide) ?_
  refine r_fix (σ := Int32 × Int32) (fun s1 => [some (.ref 0), some (.int x1_), some (.int s1.1), some (.int s1.2)]) (fun s1 => h) (fun self2 ih3 s1 hf => ?_) F ((0 : Int32), (0 : Int32)) hf
  refine r_iload_n dX7_waysOpenTo_4 rfl ?_
  refine r_iconst (v := 4) dX7_waysOpenTo_5 (by decide) ?_
  refine r_icmp_ge 42 dX7_waysOpenTo_6 (by decide) hf (fun c9 hf => ?_) (fun c9 hf => ?_)
  · refine r_iload_n dX7_waysOpenTo_42 rfl ?_
    exact e_iP dX7_waysOpenTo_43 rfl hf
  · refine r_aload_n dX7_waysOpenTo_9 rfl ?_
    refine r_getS (b := 22) dX7_waysOpenTo_10 sh_0 ft_X7_42 rfl rfl ?_
    refine r_aload_n dX7_waysOpenTo_13 rfl ?_
    refine r_getS (b := 18) dX7_waysOpenTo_14 sh_0 ft_X7_31 rfl rfl ?_
    refine r_getI dX7_waysOpenTo_17 sh_18 ft_X7_199 rfl ?_
    refine r_iload_n dX7_waysOpenTo_20 rfl ?_
    refine r_iload_n dX7_waysOpenTo_21 rfl ?_
    obtain ⟨v4, hv, hf⟩ := bnd hf
    refine r_callV (lv := 2) dX7_waysOpenTo_22 yo_X2_after yi_X2_after ml_X7_202 ya_X2_after sh_22 ⟨_, rfl, rfl⟩ (Fits.vm (by decide)) rfl rfl (Nat.le_of_ble_eq_true rfl) (S_X2_after F (gI h 18 1) x1_ s1.2 h  _ hv) ?_
    refine r_bipush (v := -9) dX7_waysOpenTo_25 (by decide) ?_
    refine r_reg (P := fun t5 => Run Y_X7_waysOpenTo (VM 3 (some (.int r), h)) 36 [some (.ref 0), some (.int x1_), some (.int t5), some (.int s1.2)] [] h) hf (fun t5 hf => ?_) (fun t5 key6 hf => ?_)
    · refine r_iincA (v := 1) dX7_waysOpenTo_36 rfl (by decide) (by decide) ?_
      refine r_goto 4 dX7_waysOpenTo_39 (by decide) ?_
      exact ih3 _ hf
    · refine r_icmp_eq 36 dX7_waysOpenTo_27 (by decide) hf (fun c8 hf => ?_) (fun c8 hf => ?_)
      · cases hf; exact key6
      · refine r_iload_n dX7_waysOpenTo_30 rfl ?_
        refine r_iconst (v := 1) dX7_waysOpenTo_31 (by decide) ?_
        refine r_iload_n dX7_waysOpenTo_32 rfl ?_
        refine r_ishl dX7_waysOpenTo_33 ?_
        refine r_ior dX7_waysOpenTo_34 ?_
        refine r_istore_n dX7_waysOpenTo_35 (by decide) hf fun x7 hf => ?_
        cases hf; exact key6
def f_X7_fartherThanTwo (F : Nat) (x1_ : Int32) (h : Hp) : Option Int32 :=
  fix (σ := Int32 × Int32) (ρ := Int32) (fun self2 s1 =>
    (gO h 0 11 (0, 6, 14)).bind fun y4 =>
    (if (gI h y4 4) ≤ s1.2 then (
      some s1.1)
    else (
      (f_X7_apart (gI h 18 1) x1_ s1.2 h).bind fun v5 =>
      (Option.bind (α := Int32) (
        (if v5 ≤ (2 : Int32) then (
          some s1.1)
        else (
          some (s1.1 + 1)))) fun t6 =>
      self2 (t6, (s1.2 + 1)))))) F ((0 : Int32), (0 : Int32))
set_option maxRecDepth 100000 in
set_option maxHeartbeats 4000000 in
theorem S_X7_fartherThanTwo (F : Nat) (x1_ : Int32) (h : Hp) (r : Int32) (hf : f_X7_fartherThanTwo F x1_ h = some r) : MetP Y_X7_fartherThanTwo 3 [.ref 0, .int x1_] h (some (.int r), h) := by
  unfold f_X7_fartherThanTwo at hf
  refine met_of yo_X7_fartherThanTwo (Nat.le_of_ble_eq_true rfl) ?_
  show Run Y_X7_fartherThanTwo _ 0 [some (.ref 0), some (.int x1_), none, none] [] h
  refine r_iconst (v := 0) dX7_fartherThanTwo_0 (by decide) ?_
  refine r_istore_nA dX7_fartherThanTwo_1 (by decide) ?_
  refine r_iconst (v := 0) dX7_fartherThanTwo_2 (by decide) ?_
  refine r_istore_nA dX7_fartherThanTwo_3 (by decide) ?_
  refine r_fix (σ := Int32 × Int32) (fun s1 => [some (.ref 0), some (.int x1_), some (.int s1.1), some (.int s1.2)]) (fun s1 => h) (fun self2 ih3 s1 hf => ?_) F ((0 : Int32), (0 : Int32)) hf
  refine r_iload_n dX7_fartherThanTwo_4 rfl ?_
  refine r_aload_n dX7_fartherThanTwo_5 rfl ?_
  refine r_getR (E := (0, 6, 14)) dX7_fartherThanTwo_6 sh_0 ft_X7_77 rfl hf fun y4 hy4 hf => ?_
  refine r_getI dX7_fartherThanTwo_9 hy4 ft_X7_154 rfl ?_
  refine r_icmp_ge 41 dX7_fartherThanTwo_12 (by decide) hf (fun c9 hf => ?_) (fun c9 hf => ?_)
  · refine r_iload_n dX7_fartherThanTwo_41 rfl ?_
    exact e_iP dX7_fartherThanTwo_42 rfl hf
  · refine r_aload_n dX7_fartherThanTwo_15 rfl ?_
    refine r_aload_n dX7_fartherThanTwo_16 rfl ?_
    refine r_getS (b := 18) dX7_fartherThanTwo_17 sh_0 ft_X7_31 rfl rfl ?_
    refine r_getI dX7_fartherThanTwo_20 sh_18 ft_X7_199 rfl ?_
    refine r_iload_n dX7_fartherThanTwo_23 rfl ?_
    refine r_iload_n dX7_fartherThanTwo_24 rfl ?_
    obtain ⟨v5, hv, hf⟩ := bnd hf
    refine r_callV (lv := 2) dX7_fartherThanTwo_25 yo_X7_apart yi_X7_apart ml_X7_253 ya_X7_apart sh_0 ⟨_, rfl, rfl⟩ (Fits.vm (by decide)) rfl rfl (Nat.le_of_ble_eq_true rfl) (S_X7_apart (gI h 18 1) x1_ s1.2 h  _ hv) ?_
    refine r_iconst (v := 2) dX7_fartherThanTwo_28 (by decide) ?_
    refine r_reg (P := fun t6 => Run Y_X7_fartherThanTwo (VM 3 (some (.int r), h)) 35 [some (.ref 0), some (.int x1_), some (.int t6), some (.int s1.2)] [] h) hf (fun t6 hf => ?_) (fun t6 key7 hf => ?_)
    · refine r_iincA (v := 1) dX7_fartherThanTwo_35 rfl (by decide) (by decide) ?_
      refine r_goto 4 dX7_fartherThanTwo_38 (by decide) ?_
      exact ih3 _ hf
    · refine r_icmp_le 35 dX7_fartherThanTwo_29 (by decide) hf (fun c8 hf => ?_) (fun c8 hf => ?_)
      · cases hf; exact key7
      · refine r_iincA (v := 1) dX7_fartherThanTwo_32 rfl (by decide) (by decide) ?_
        cases hf; exact key7
def f_X7_leastReach (F : Nat) (x1_ : Int32) (h : Hp) : Option Int32 :=
  fix (σ := Int32 × Int32) (ρ := Int32) (fun self2 s1 =>
    (gO h 0 11 (0, 6, 14)).bind fun y4 =>
    (if (gI h y4 5) ≤ s1.2 then (
      some s1.1)
    else (
      (gO h 0 11 (0, 6, 14)).bind fun y5 =>
      (ldI h (rf y5 13) ((s1.2 * (4 : Int32)) + x1_)).bind fun v6 =>
      (Option.bind (α := Int32) (
        (if v6 = (-9 : Int32) then (
          some s1.1)
        else (
          (if s1.1 = (-9 : Int32) then (
            (gO h 0 11 (0, 6, 14)).bind fun y9 =>
            (ldI h (rf y9 10) s1.2).bind fun v10 =>
            some v10)
          else (
            (gO h 0 11 (0, 6, 14)).bind fun y11 =>
            (ldI h (rf y11 10) s1.2).bind fun v12 =>
            (if s1.1 ≤ v12 then (
              some s1.1)
            else (
              (gO h 0 11 (0, 6, 14)).bind fun y13 =>
              (ldI h (rf y13 10) s1.2).bind fun v14 =>
              some v14))))))) fun t7 =>
      self2 (t7, (s1.2 + 1)))))) F ((-9 : Int32), (0 : Int32))
set_option maxRecDepth 100000 in
set_option maxHeartbeats 4000000 in
theorem S_X7_leastReach (F : Nat) (x1_ : Int32) (h : Hp) (r : Int32) (hf : f_X7_leastReach F x1_ h = some r) : MetP Y_X7_leastReach 1 [.ref 0, .int x1_] h (some (.int r), h) := by
  unfold f_X7_leastReach at hf
  refine met_of yo_X7_leastReach (Nat.le_of_ble_eq_true rfl) ?_
  show Run Y_X7_leastReach _ 0 [some (.ref 0), some (.int x1_), none, none] [] h
  refine r_bipush (v := -9) dX7_leastReach_0 (by decide) ?_
  refine r_istore_nA dX7_leastReach_2 (by decide) ?_
  refine r_iconst (v := 0) dX7_leastReach_3 (by decide) ?_
  refine r_istore_nA dX7_leastReach_4 (by decide) ?_
  refine r_fix (σ := Int32 × Int32) (fun s1 => [some (.ref 0), some (.int x1_), some (.int s1.1), some (.int s1.2)]) (fun s1 => h) (fun self2 ih3 s1 hf => ?_) F ((-9 : Int32), (0 : Int32)) hf
  refine r_iload_n dX7_leastReach_5 rfl ?_
  refine r_aload_n dX7_leastReach_6 rfl ?_
  refine r_getR (E := (0, 6, 14)) dX7_leastReach_7 sh_0 ft_X7_77 rfl hf fun y4 hy4 hf => ?_
  refine r_getI dX7_leastReach_10 hy4 ft_X7_348 rfl ?_
  refine r_icmp_ge 69 dX7_leastReach_13 (by decide) hf (fun c18 hf => ?_) (fun c18 hf => ?_)
  · refine r_iload_n dX7_leastReach_69 rfl ?_
    exact e_iP dX7_leastReach_70 rfl hf
  · refine r_aload_n dX7_leastReach_16 rfl ?_
    refine r_getR (E := (0, 6, 14)) dX7_leastReach_17 sh_0 ft_X7_77 rfl hf fun y5 hy5 hf => ?_
    refine r_getS (b := rf y5 13) dX7_leastReach_20 hy5 ft_X7_408 rfl rfl ?_
    refine r_iload_n dX7_leastReach_23 rfl ?_
    refine r_iconst (v := 4) dX7_leastReach_24 (by decide) ?_
    refine r_imul dX7_leastReach_25 ?_
    refine r_iload_n dX7_leastReach_26 rfl ?_
    refine r_iadd dX7_leastReach_27 ?_
    refine r_iald dX7_leastReach_28 (sf_6_13 hy5) hf fun v6 hf => ?_
    refine r_bipush (v := -9) dX7_leastReach_29 (by decide) ?_
    refine r_reg (P := fun t7 => Run Y_X7_leastReach (VM 1 (some (.int r), h)) 63 [some (.ref 0), some (.int x1_), some (.int t7), some (.int s1.2)] [] h) hf (fun t7 hf => ?_) (fun t7 key8 hf => ?_)
    · refine r_iincA (v := 1) dX7_leastReach_63 rfl (by decide) (by decide) ?_
      refine r_goto 5 dX7_leastReach_66 (by decide) ?_
      exact ih3 _ hf
    · refine r_icmp_eq 63 dX7_leastReach_31 (by decide) hf (fun c17 hf => ?_) (fun c17 hf => ?_)
      · cases hf; exact key8
      · refine r_iload_n dX7_leastReach_34 rfl ?_
        refine r_bipush (v := -9) dX7_leastReach_35 (by decide) ?_
        refine r_icmp_eq 53 dX7_leastReach_37 (by decide) hf (fun c16 hf => ?_) (fun c16 hf => ?_)
        · refine r_aload_n dX7_leastReach_53 rfl ?_
          refine r_getR (E := (0, 6, 14)) dX7_leastReach_54 sh_0 ft_X7_77 rfl hf fun y9 hy9 hf => ?_
          refine r_getS (b := rf y9 10) dX7_leastReach_57 hy9 ft_X7_402 rfl rfl ?_
          refine r_iload_n dX7_leastReach_60 rfl ?_
          refine r_iald dX7_leastReach_61 (sf_6_10 hy9) hf fun v10 hf => ?_
          refine r_istore_nA dX7_leastReach_62 (by decide) ?_
          cases hf; exact key8
        · refine r_aload_n dX7_leastReach_40 rfl ?_
          refine r_getR (E := (0, 6, 14)) dX7_leastReach_41 sh_0 ft_X7_77 rfl hf fun y11 hy11 hf => ?_
          refine r_getS (b := rf y11 10) dX7_leastReach_44 hy11 ft_X7_402 rfl rfl ?_
          refine r_iload_n dX7_leastReach_47 rfl ?_
          refine r_iald dX7_leastReach_48 (sf_6_10 hy11) hf fun v12 hf => ?_
          refine r_iload_n dX7_leastReach_49 rfl ?_
          refine r_icmp_ge 63 dX7_leastReach_50 (by decide) hf (fun c15 hf => ?_) (fun c15 hf => ?_)
          · cases hf; exact key8
          · refine r_aload_n dX7_leastReach_53 rfl ?_
            refine r_getR (E := (0, 6, 14)) dX7_leastReach_54 sh_0 ft_X7_77 rfl hf fun y13 hy13 hf => ?_
            refine r_getS (b := rf y13 10) dX7_leastReach_57 hy13 ft_X7_402 rfl rfl ?_
            refine r_iload_n dX7_leastReach_60 rfl ?_
            refine r_iald dX7_leastReach_61 (sf_6_10 hy13) hf fun v14 hf => ?_
            refine r_istore_nA dX7_leastReach_62 (by decide) ?_
            cases hf; exact key8
def f_X7_mark (F : Nat) (x1_ : Int32) (x2_ : Int32) (h : Hp) : Option (Int32 × Hp) :=
  (f_X7_isMan x1_ h).bind fun v1 =>
  (if v1 = 0 then (
    some ((-1 : Int32), h))
  else (
    (if x2_ ≤ 0 then (
      some ((-1 : Int32), h))
    else (
      (if x2_ < (6 : Int32) then (
        (gO h 0 11 (0, 6, 14)).bind fun y2 =>
        (f_X6_is F y2 x1_ x2_ h).bind fun v3 =>
        (if v3 = 0 then (
          (f_X7_found (3 : Int32) h).bind fun v14 =>
          some (v14.1, v14.2))
        else (
          (if x2_ = 1 then (
            (f_X7_chainedTo F x1_ (2 : Int32) h).bind fun v5 =>
            some (v5, h))
          else
          (if x2_ = 2 then (
            (f_X7_chainedTo F x1_ (1 : Int32) h).bind fun v7 =>
            some (v7, h))
          else
          (if x2_ = 3 then (
            (f_X7_waysOpenTo F x1_ h).bind fun v9 =>
            (f_J6_bitCount_0f7a4 v9 h).bind fun v10 =>
            some (v10, h))
          else
          (if x2_ = 4 then (
            (f_X7_fartherThanTwo F x1_ h).bind fun v12 =>
            some (v12, h))
          else
          (
            (f_X7_leastReach F x1_ h).bind fun v13 =>
            some (v13, h)))))))))
      else (
        some ((-1 : Int32), h)))))))
set_option maxRecDepth 100000 in
set_option maxHeartbeats 4000000 in
theorem S_X7_mark (F : Nat) (x1_ : Int32) (x2_ : Int32) (h : Hp) (r : (Int32 × Hp)) (hf : f_X7_mark F x1_ x2_ h = some r) : MetP Y_X7_mark 4 [.ref 0, .int x1_, .int x2_] h (some (.int r.1), r.2) := by
  unfold f_X7_mark at hf
  refine met_of yo_X7_mark (Nat.le_of_ble_eq_true rfl) ?_
  show Run Y_X7_mark _ 0 [some (.ref 0), some (.int x1_), some (.int x2_)] [] h
  refine r_aload_n dX7_mark_0 rfl ?_
  refine r_iload_n dX7_mark_1 rfl ?_
  obtain ⟨v1, hv, hf⟩ := bnd hf
  refine r_callV (lv := 1) dX7_mark_2 yo_X7_isMan yi_X7_isMan ml_X7_157 ya_X7_isMan sh_0 ⟨_, rfl, rfl⟩ (Fits.vm (by decide)) rfl rfl (Nat.le_of_ble_eq_true rfl) (S_X7_isMan x1_ h  _ hv) ?_
  refine r_if_eq 18 dX7_mark_5 (by decide) hf (fun c18 hf => ?_) (fun c18 hf => ?_)
  · refine r_iconst (v := -1) dX7_mark_18 (by decide) ?_
    exact e_iH dX7_mark_19 rfl hf
  · refine r_iload_n dX7_mark_8 rfl ?_
    refine r_if_le 18 dX7_mark_9 (by decide) hf (fun c17 hf => ?_) (fun c17 hf => ?_)
    · refine r_iconst (v := -1) dX7_mark_18 (by decide) ?_
      exact e_iH dX7_mark_19 rfl hf
    · refine r_iload_n dX7_mark_12 rfl ?_
      refine r_bipush (v := 6) dX7_mark_13 (by decide) ?_
      refine r_icmp_lt 20 dX7_mark_15 (by decide) hf (fun c16 hf => ?_) (fun c16 hf => ?_)
      · refine r_aload_n dX7_mark_20 rfl ?_
        refine r_getR (E := (0, 6, 14)) dX7_mark_21 sh_0 ft_X7_77 rfl hf fun y2 hy2 hf => ?_
        refine r_iload_n dX7_mark_24 rfl ?_
        refine r_iload_n dX7_mark_25 rfl ?_
        obtain ⟨v3, hv, hf⟩ := bnd hf
        refine r_callV (lv := 1) dX7_mark_26 yo_X6_is yi_X6_is ml_X7_169 ya_X6_is hy2 ⟨_, rfl, rfl⟩ (Fits.vm (by decide)) rfl rfl (Nat.le_of_ble_eq_true rfl) (S_X6_is F y2 x1_ x2_ hy2 h  _ hv) ?_
        refine r_if_ne 38 dX7_mark_29 (by decide) hf (fun c15 hf => ?_) (fun c15 hf => ?_)
        · refine r_iload_n dX7_mark_38 rfl ?_
          refine r_ite hf (fun c4 hf => ?_) (fun c4 hf => ?_)
          · refine r_tabIn 68 dX7_mark_39 (by rw [c4]; decide) (by rw [c4]; decide) (off := 29) (by rw [c4]; rfl) (by decide) ?_
            refine r_aload_n dX7_mark_68 rfl ?_
            refine r_iload_n dX7_mark_69 rfl ?_
            refine r_iconst (v := 2) dX7_mark_70 (by decide) ?_
            obtain ⟨v5, hv, hf⟩ := bnd hf
            refine r_callV (lv := 1) dX7_mark_71 yo_X7_chainedTo yi_X7_chainedTo ml_X7_173 ya_X7_chainedTo sh_0 ⟨_, rfl, rfl⟩ (Fits.vm (by decide)) rfl rfl (Nat.le_of_ble_eq_true rfl) (S_X7_chainedTo F x1_ (2 : Int32) h  _ hv) ?_
            exact e_iH dX7_mark_74 rfl hf
          refine r_ite hf (fun c6 hf => ?_) (fun c6 hf => ?_)
          · refine r_tabIn 75 dX7_mark_39 (by rw [c6]; decide) (by rw [c6]; decide) (off := 36) (by rw [c6]; rfl) (by decide) ?_
            refine r_aload_n dX7_mark_75 rfl ?_
            refine r_iload_n dX7_mark_76 rfl ?_
            refine r_iconst (v := 1) dX7_mark_77 (by decide) ?_
            obtain ⟨v7, hv, hf⟩ := bnd hf
            refine r_callV (lv := 1) dX7_mark_78 yo_X7_chainedTo yi_X7_chainedTo ml_X7_173 ya_X7_chainedTo sh_0 ⟨_, rfl, rfl⟩ (Fits.vm (by decide)) rfl rfl (Nat.le_of_ble_eq_true rfl) (S_X7_chainedTo F x1_ (1 : Int32) h  _ hv) ?_
            exact e_iH dX7_mark_81 rfl hf
          refine r_ite hf (fun c8 hf => ?_) (fun c8 hf => ?_)
          · refine r_tabIn 82 dX7_mark_39 (by rw [c8]; decide) (by rw [c8]; decide) (off := 43) (by rw [c8]; rfl) (by decide) ?_
            refine r_aload_n dX7_mark_82 rfl ?_
            refine r_iload_n dX7_mark_83 rfl ?_
            obtain ⟨v9, hv, hf⟩ := bnd hf
            refine r_callV (lv := 3) dX7_mark_84 yo_X7_waysOpenTo yi_X7_waysOpenTo ml_X7_176 ya_X7_waysOpenTo sh_0 ⟨_, rfl, rfl⟩ (Fits.vm (by decide)) rfl rfl (Nat.le_of_ble_eq_true rfl) (S_X7_waysOpenTo F x1_ h  _ hv) ?_
            obtain ⟨v10, hv, hf⟩ := bnd hf
            refine r_callS (lv := 1) dX7_mark_87 yo_J6_bitCount_0f7a4 ys_J6_bitCount_0f7a4 ml_X7_179 ya_J6_bitCount_0f7a4 (Fits.vm (by decide)) rfl rfl (Nat.le_of_ble_eq_true rfl) (S_J6_bitCount_0f7a4 v9 h  _ hv) ?_
            exact e_iH dX7_mark_90 rfl hf
          refine r_ite hf (fun c11 hf => ?_) (fun c11 hf => ?_)
          · refine r_tabIn 91 dX7_mark_39 (by rw [c11]; decide) (by rw [c11]; decide) (off := 52) (by rw [c11]; rfl) (by decide) ?_
            refine r_aload_n dX7_mark_91 rfl ?_
            refine r_iload_n dX7_mark_92 rfl ?_
            obtain ⟨v12, hv, hf⟩ := bnd hf
            refine r_callV (lv := 3) dX7_mark_93 yo_X7_fartherThanTwo yi_X7_fartherThanTwo ml_X7_184 ya_X7_fartherThanTwo sh_0 ⟨_, rfl, rfl⟩ (Fits.vm (by decide)) rfl rfl (Nat.le_of_ble_eq_true rfl) (S_X7_fartherThanTwo F x1_ h  _ hv) ?_
            exact e_iH dX7_mark_96 rfl hf
          refine r_tabDef 97 4 dX7_mark_39 (by decide) (fun i hi e => ?_) (by decide) ?_
          · have a0 : ¬ (x2_).toInt = 1 := fun q => c4 (Int32.toInt_inj.mp (by rw [q]; rfl))
            have a1 : ¬ (x2_).toInt = 2 := fun q => c6 (Int32.toInt_inj.mp (by rw [q]; rfl))
            have a2 : ¬ (x2_).toInt = 3 := fun q => c8 (Int32.toInt_inj.mp (by rw [q]; rfl))
            have a3 : ¬ (x2_).toInt = 4 := fun q => c11 (Int32.toInt_inj.mp (by rw [q]; rfl))
            exfalso; omega
          · refine r_aload_n dX7_mark_97 rfl ?_
            refine r_iload_n dX7_mark_98 rfl ?_
            obtain ⟨v13, hv, hf⟩ := bnd hf
            refine r_callV (lv := 1) dX7_mark_99 yo_X7_leastReach yi_X7_leastReach ml_X7_187 ya_X7_leastReach sh_0 ⟨_, rfl, rfl⟩ (Fits.vm (by decide)) rfl rfl (Nat.le_of_ble_eq_true rfl) (S_X7_leastReach F x1_ h  _ hv) ?_
            exact e_iH dX7_mark_102 rfl hf
        · refine r_aload_n dX7_mark_32 rfl ?_
          refine r_iconst (v := 3) dX7_mark_33 (by decide) ?_
          obtain ⟨v14, hv, hf⟩ := bnd hf
          refine r_callV (lv := 1) dX7_mark_34 yo_X7_found yi_X7_found ml_X7_118 ya_X7_found sh_0 ⟨_, rfl, rfl⟩ (Fits.vm (by decide)) rfl rfl (Nat.le_of_ble_eq_true rfl) (S_X7_found (3 : Int32) h  _ hv) ?_
          exact e_iH dX7_mark_37 rfl hf
      · refine r_iconst (v := -1) dX7_mark_18 (by decide) ?_
        exact e_iH dX7_mark_19 rfl hf
def f_X7_tide (F : Nat) (x1_ : Int32) (h : Hp) : Option (Int32 × Hp) :=
  (if x1_ < 0 then (
    some ((-1 : Int32), h))
  else (
    (if x1_ ≤ (3 : Int32) then (
      (gO h 0 11 (0, 6, 14)).bind fun y1 =>
      (if (gI h y1 2) = 0 then (
        some ((-4 : Int32), h))
      else (
        nm (sI h 18 2 x1_) fun h2 =>
        (f_X7_changeRules F h2).bind fun h3 =>
        some ((gI h 18 2), h3))))
    else (
      some ((-1 : Int32), h)))))
set_option maxRecDepth 100000 in
set_option maxHeartbeats 4000000 in
theorem S_X7_tide (F : Nat) (x1_ : Int32) (h : Hp) (r : (Int32 × Hp)) (hf : f_X7_tide F x1_ h = some r) : MetP Y_X7_tide 4 [.ref 0, .int x1_] h (some (.int r.1), r.2) := by
  unfold f_X7_tide at hf
  refine met_of yo_X7_tide (Nat.le_of_ble_eq_true rfl) ?_
  show Run Y_X7_tide _ 0 [some (.ref 0), some (.int x1_), none] [] h
  refine r_iload_n dX7_tide_0 rfl ?_
  refine r_if_lt 9 dX7_tide_1 (by decide) hf (fun c6 hf => ?_) (fun c6 hf => ?_)
  · refine r_iconst (v := -1) dX7_tide_9 (by decide) ?_
    exact e_iH dX7_tide_10 rfl hf
  · refine r_iload_n dX7_tide_4 rfl ?_
    refine r_iconst (v := 3) dX7_tide_5 (by decide) ?_
    refine r_icmp_le 11 dX7_tide_6 (by decide) hf (fun c5 hf => ?_) (fun c5 hf => ?_)
    · refine r_aload_n dX7_tide_11 rfl ?_
      refine r_getR (E := (0, 6, 14)) dX7_tide_12 sh_0 ft_X7_77 rfl hf fun y1 hy1 hf => ?_
      refine r_getI dX7_tide_15 hy1 ft_X7_190 rfl ?_
      refine r_if_ne 24 dX7_tide_18 (by decide) hf (fun c4 hf => ?_) (fun c4 hf => ?_)
      · refine r_aload_n dX7_tide_24 rfl ?_
        refine r_getS (b := 18) dX7_tide_25 sh_0 ft_X7_31 rfl rfl ?_
        refine r_getI dX7_tide_28 sh_18 ft_X7_193 rfl ?_
        refine r_istore_nA dX7_tide_31 (by decide) ?_
        refine r_aload_n dX7_tide_32 rfl ?_
        refine r_getS (b := 18) dX7_tide_33 sh_0 ft_X7_31 rfl rfl ?_
        refine r_iload_n dX7_tide_36 rfl ?_
        refine r_putI dX7_tide_37 sh_18 ft_X7_193 rfl hf fun h2 hf => ?_
        refine r_aload_n dX7_tide_40 rfl ?_
        obtain ⟨h3, hv, hf⟩ := bnd hf
        refine r_callV (lv := 3) dX7_tide_41 yo_X7_changeRules yi_X7_changeRules ml_X7_84 ya_X7_changeRules sh_0 ⟨_, rfl, rfl⟩ (Fits.vm (by decide)) rfl rfl (Nat.le_of_ble_eq_true rfl) (S_X7_changeRules F h2  _ hv) ?_
        refine r_iload_n dX7_tide_44 rfl ?_
        exact e_iH dX7_tide_45 rfl hf
      · refine r_bipush (v := -4) dX7_tide_21 (by decide) ?_
        exact e_iH dX7_tide_23 rfl hf
    · refine r_iconst (v := -1) dX7_tide_9 (by decide) ?_
      exact e_iH dX7_tide_10 rfl hf
def f_X7_open (F : Nat) (x1_ : Int32) (x2_ : Int32) (h : Hp) : Option (Int32 × Hp) :=
  (f_X7_isChain x1_ h).bind fun v1 =>
  (if v1 = 0 then (
    some ((-1 : Int32), h))
  else (
    (if x2_ < 0 then (
      some ((-1 : Int32), h))
    else (
      (if x2_ ≤ (1 : Int32) then (
        jn (α := (Unit) → Option (Int32 × Hp)) (fun t2 =>
          nm ((((gI h 18 3) >>> (x1_ &&& 31)) &&& (1 : Int32))) fun x5 =>
          nm (sI h 18 3 (((gI h 18 3) &&& (((1 : Int32) <<< (x1_ &&& 31)) ^^^ (-1 : Int32))) ||| (x2_ <<< (x1_ &&& 31)))) fun h6 =>
          (f_X7_changeRules F h6).bind fun h7 =>
          some (x5, h7)) fun j3 =>
        (if x2_ = 0 then (
          (f_X7_ofChain x1_ (2 : Int32) h).bind fun v8 =>
          (f_X7_ofChain x1_ (1 : Int32) h).bind fun v9 =>
          (if v8 ≤ v9 then (
            j3 ())
          else (
            some ((-4 : Int32), h))))
        else (
          j3 ())))
      else (
        some ((-1 : Int32), h)))))))
set_option maxRecDepth 100000 in
set_option maxHeartbeats 4000000 in
theorem S_X7_open (F : Nat) (x1_ : Int32) (x2_ : Int32) (h : Hp) (r : (Int32 × Hp)) (hf : f_X7_open F x1_ x2_ h = some r) : MetP Y_X7_open 4 [.ref 0, .int x1_, .int x2_] h (some (.int r.1), r.2) := by
  unfold f_X7_open at hf
  refine met_of yo_X7_open (Nat.le_of_ble_eq_true rfl) ?_
  show Run Y_X7_open _ 0 [some (.ref 0), some (.int x1_), some (.int x2_), none] [] h
  refine r_aload_n dX7_open_0 rfl ?_
  refine r_iload_n dX7_open_1 rfl ?_
  obtain ⟨v1, hv, hf⟩ := bnd hf
  refine r_callV (lv := 1) dX7_open_2 yo_X7_isChain yi_X7_isChain ml_X7_163 ya_X7_isChain sh_0 ⟨_, rfl, rfl⟩ (Fits.vm (by decide)) rfl rfl (Nat.le_of_ble_eq_true rfl) (S_X7_isChain x1_ h  _ hv) ?_
  refine r_if_eq 17 dX7_open_5 (by decide) hf (fun c14 hf => ?_) (fun c14 hf => ?_)
  · refine r_iconst (v := -1) dX7_open_17 (by decide) ?_
    exact e_iH dX7_open_18 rfl hf
  · refine r_iload_n dX7_open_8 rfl ?_
    refine r_if_lt 17 dX7_open_9 (by decide) hf (fun c13 hf => ?_) (fun c13 hf => ?_)
    · refine r_iconst (v := -1) dX7_open_17 (by decide) ?_
      exact e_iH dX7_open_18 rfl hf
    · refine r_iload_n dX7_open_12 rfl ?_
      refine r_iconst (v := 1) dX7_open_13 (by decide) ?_
      refine r_icmp_le 19 dX7_open_14 (by decide) hf (fun c12 hf => ?_) (fun c12 hf => ?_)
      · refine r_iload_n dX7_open_19 rfl ?_
        refine r_jn (P := fun t2 => Run Y_X7_open (VM 4 (some (.int r.1), r.2)) 41 [some (.ref 0), some (.int x1_), some (.int x2_), none] [] h) hf (fun t2 hf => ?_) (fun j3 ih4 hf => ?_)
        · refine r_aload_n dX7_open_41 rfl ?_
          refine r_getS (b := 18) dX7_open_42 sh_0 ft_X7_31 rfl rfl ?_
          refine r_getI dX7_open_45 sh_18 ft_X7_196 rfl ?_
          refine r_iload_n dX7_open_48 rfl ?_
          refine r_ishr dX7_open_49 ?_
          refine r_iconst (v := 1) dX7_open_50 (by decide) ?_
          refine r_iand dX7_open_51 ?_
          refine r_istore_n dX7_open_52 (by decide) hf fun x5 hf => ?_
          refine r_aload_n dX7_open_53 rfl ?_
          refine r_getS (b := 18) dX7_open_54 sh_0 ft_X7_31 rfl rfl ?_
          refine r_aload_n dX7_open_57 rfl ?_
          refine r_getS (b := 18) dX7_open_58 sh_0 ft_X7_31 rfl rfl ?_
          refine r_getI dX7_open_61 sh_18 ft_X7_196 rfl ?_
          refine r_iconst (v := 1) dX7_open_64 (by decide) ?_
          refine r_iload_n dX7_open_65 rfl ?_
          refine r_ishl dX7_open_66 ?_
          refine r_iconst (v := -1) dX7_open_67 (by decide) ?_
          refine r_ixor dX7_open_68 ?_
          refine r_iand dX7_open_69 ?_
          refine r_iload_n dX7_open_70 rfl ?_
          refine r_iload_n dX7_open_71 rfl ?_
          refine r_ishl dX7_open_72 ?_
          refine r_ior dX7_open_73 ?_
          refine r_putI dX7_open_74 sh_18 ft_X7_196 rfl hf fun h6 hf => ?_
          refine r_aload_n dX7_open_77 rfl ?_
          obtain ⟨h7, hv, hf⟩ := bnd hf
          refine r_callV (lv := 3) dX7_open_78 yo_X7_changeRules yi_X7_changeRules ml_X7_84 ya_X7_changeRules sh_0 ⟨_, rfl, rfl⟩ (Fits.vm (by decide)) rfl rfl (Nat.le_of_ble_eq_true rfl) (S_X7_changeRules F h6  _ hv) ?_
          refine r_iload_n dX7_open_81 rfl ?_
          exact e_iH dX7_open_82 rfl hf
        refine r_if_ne 41 dX7_open_20 (by decide) hf (fun c11 hf => ?_) (fun c11 hf => ?_)
        · exact ih4 _ hf
        · refine r_aload_n dX7_open_23 rfl ?_
          refine r_iload_n dX7_open_24 rfl ?_
          refine r_iconst (v := 2) dX7_open_25 (by decide) ?_
          obtain ⟨v8, hv, hf⟩ := bnd hf
          refine r_callV (lv := 3) dX7_open_26 yo_X7_ofChain yi_X7_ofChain ml_X7_166 ya_X7_ofChain sh_0 ⟨_, rfl, rfl⟩ (Fits.vm (by decide)) rfl rfl (Nat.le_of_ble_eq_true rfl) (S_X7_ofChain x1_ (2 : Int32) h  _ hv) ?_
          refine r_aload_n dX7_open_29 rfl ?_
          refine r_iload_n dX7_open_30 rfl ?_
          refine r_iconst (v := 1) dX7_open_31 (by decide) ?_
          obtain ⟨v9, hv, hf⟩ := bnd hf
          refine r_callV (lv := 3) dX7_open_32 yo_X7_ofChain yi_X7_ofChain ml_X7_166 ya_X7_ofChain sh_0 ⟨_, rfl, rfl⟩ (Fits.vm (by decide)) rfl rfl (Nat.le_of_ble_eq_true rfl) (S_X7_ofChain x1_ (1 : Int32) h  _ hv) ?_
          refine r_icmp_le 41 dX7_open_35 (by decide) hf (fun c10 hf => ?_) (fun c10 hf => ?_)
          · exact ih4 _ hf
          · refine r_bipush (v := -4) dX7_open_38 (by decide) ?_
            exact e_iH dX7_open_40 rfl hf
      · refine r_iconst (v := -1) dX7_open_17 (by decide) ?_
        exact e_iH dX7_open_18 rfl hf
def f_X7_stepOf (x0_ : Int32) (x1_ : Int32) (h : Hp) : Option Int32 :=
  some (((10 : Int32) * x0_) + x1_)
set_option maxRecDepth 100000 in
set_option maxHeartbeats 4000000 in
theorem S_X7_stepOf (x0_ : Int32) (x1_ : Int32) (h : Hp) (r : Int32) (hf : f_X7_stepOf x0_ x1_ h = some r) : MetP Y_X7_stepOf 1 [.int x0_, .int x1_] h (some (.int r), h) := by
  unfold f_X7_stepOf at hf
  refine met_of yo_X7_stepOf (Nat.le_of_ble_eq_true rfl) ?_
  show Run Y_X7_stepOf _ 0 [some (.int x0_), some (.int x1_)] [] h
  refine r_bipush (v := 10) dX7_stepOf_0 (by decide) ?_
  refine r_iload_n dX7_stepOf_2 rfl ?_
  refine r_imul dX7_stepOf_3 ?_
  refine r_iload_n dX7_stepOf_4 rfl ?_
  refine r_iadd dX7_stepOf_5 ?_
  exact e_iP dX7_stepOf_6 rfl hf
def f_X7_step (F : Nat) (x1_ : Int32) (x2_ : Int32) (h : Hp) : Option (Int32 × Hp) :=
  (f_X7_isMan x1_ h).bind fun v1 =>
  (if v1 = 0 then (
    some ((-1 : Int32), h))
  else (
    (if x2_ < 0 then (
      some ((-1 : Int32), h))
    else (
      (if x2_ < (4 : Int32) then (
        (f_X2_after F (gI h 18 1) x1_ x2_ h).bind fun v2 =>
        (if v2 = (-9 : Int32) then (
          some ((-4 : Int32), h))
        else (
          (if (gI h 18 4) < (60 : Int32) then (
            (f_X7_stepOf x1_ x2_ h).bind fun v3 =>
            (f_X0_go 18 v3 v2 h).bind fun h4 =>
            (f_X7_cellOf (gI h4 18 1) x1_ h4).bind fun v5 =>
            some (v5, h4))
          else (
            some ((-2 : Int32), h))))))
      else (
        some ((-1 : Int32), h)))))))
set_option maxRecDepth 100000 in
set_option maxHeartbeats 4000000 in
theorem S_X7_step (F : Nat) (x1_ : Int32) (x2_ : Int32) (h : Hp) (r : (Int32 × Hp)) (hf : f_X7_step F x1_ x2_ h = some r) : MetP Y_X7_step 3 [.ref 0, .int x1_, .int x2_] h (some (.int r.1), r.2) := by
  unfold f_X7_step at hf
  refine met_of yo_X7_step (Nat.le_of_ble_eq_true rfl) ?_
  show Run Y_X7_step _ 0 [some (.ref 0), some (.int x1_), some (.int x2_), none] [] h
  refine r_aload_n dX7_step_0 rfl ?_
  refine r_iload_n dX7_step_1 rfl ?_
  obtain ⟨v1, hv, hf⟩ := bnd hf
  refine r_callV (lv := 1) dX7_step_2 yo_X7_isMan yi_X7_isMan ml_X7_157 ya_X7_isMan sh_0 ⟨_, rfl, rfl⟩ (Fits.vm (by decide)) rfl rfl (Nat.le_of_ble_eq_true rfl) (S_X7_isMan x1_ h  _ hv) ?_
  refine r_if_eq 17 dX7_step_5 (by decide) hf (fun c10 hf => ?_) (fun c10 hf => ?_)
  · refine r_iconst (v := -1) dX7_step_17 (by decide) ?_
    exact e_iH dX7_step_18 rfl hf
  · refine r_iload_n dX7_step_8 rfl ?_
    refine r_if_lt 17 dX7_step_9 (by decide) hf (fun c9 hf => ?_) (fun c9 hf => ?_)
    · refine r_iconst (v := -1) dX7_step_17 (by decide) ?_
      exact e_iH dX7_step_18 rfl hf
    · refine r_iload_n dX7_step_12 rfl ?_
      refine r_iconst (v := 4) dX7_step_13 (by decide) ?_
      refine r_icmp_lt 19 dX7_step_14 (by decide) hf (fun c8 hf => ?_) (fun c8 hf => ?_)
      · refine r_aload_n dX7_step_19 rfl ?_
        refine r_getS (b := 22) dX7_step_20 sh_0 ft_X7_42 rfl rfl ?_
        refine r_aload_n dX7_step_23 rfl ?_
        refine r_getS (b := 18) dX7_step_24 sh_0 ft_X7_31 rfl rfl ?_
        refine r_getI dX7_step_27 sh_18 ft_X7_199 rfl ?_
        refine r_iload_n dX7_step_30 rfl ?_
        refine r_iload_n dX7_step_31 rfl ?_
        obtain ⟨v2, hv, hf⟩ := bnd hf
        refine r_callV (lv := 2) dX7_step_32 yo_X2_after yi_X2_after ml_X7_202 ya_X2_after sh_22 ⟨_, rfl, rfl⟩ (Fits.vm (by decide)) rfl rfl (Nat.le_of_ble_eq_true rfl) (S_X2_after F (gI h 18 1) x1_ x2_ h  _ hv) ?_
        refine r_istore_nA dX7_step_35 (by decide) ?_
        refine r_iload_n dX7_step_36 rfl ?_
        refine r_bipush (v := -9) dX7_step_37 (by decide) ?_
        refine r_icmp_ne 45 dX7_step_39 (by decide) hf (fun c7 hf => ?_) (fun c7 hf => ?_)
        · refine r_aload_n dX7_step_45 rfl ?_
          refine r_getS (b := 18) dX7_step_46 sh_0 ft_X7_31 rfl rfl ?_
          refine r_getI dX7_step_49 sh_18 ft_X7_206 rfl ?_
          refine r_bipush (v := 60) dX7_step_52 (by decide) ?_
          refine r_icmp_lt 60 dX7_step_54 (by decide) hf (fun c6 hf => ?_) (fun c6 hf => ?_)
          · refine r_aload_n dX7_step_60 rfl ?_
            refine r_getS (b := 18) dX7_step_61 sh_0 ft_X7_31 rfl rfl ?_
            refine r_iload_n dX7_step_64 rfl ?_
            refine r_iload_n dX7_step_65 rfl ?_
            obtain ⟨v3, hv, hf⟩ := bnd hf
            refine r_callS (lv := 1) dX7_step_66 yo_X7_stepOf ys_X7_stepOf ml_X7_209 ya_X7_stepOf (Fits.vm (by decide)) rfl rfl (Nat.le_of_ble_eq_true rfl) (S_X7_stepOf x1_ x2_ h  _ hv) ?_
            refine r_iload_n dX7_step_69 rfl ?_
            obtain ⟨h4, hv, hf⟩ := bnd hf
            refine r_callV (lv := 1) dX7_step_70 yo_X0_go yi_X0_go ml_X7_212 ya_X0_go sh_18 ⟨_, rfl, rfl⟩ (Fits.vm (by decide)) rfl rfl (Nat.le_of_ble_eq_true rfl) (S_X0_go 18 v3 v2 sh_18 h  _ hv) ?_
            refine r_aload_n dX7_step_73 rfl ?_
            refine r_getS (b := 18) dX7_step_74 sh_0 ft_X7_31 rfl rfl ?_
            refine r_getI dX7_step_77 sh_18 ft_X7_199 rfl ?_
            refine r_iload_n dX7_step_80 rfl ?_
            obtain ⟨v5, hv, hf⟩ := bnd hf
            refine r_callS (lv := 1) dX7_step_81 yo_X7_cellOf ys_X7_cellOf ml_X7_216 ya_X7_cellOf (Fits.vm (by decide)) rfl rfl (Nat.le_of_ble_eq_true rfl) (S_X7_cellOf (gI h4 18 1) x1_ h4  _ hv) ?_
            exact e_iH dX7_step_84 rfl hf
          · refine r_bipush (v := -2) dX7_step_57 (by decide) ?_
            exact e_iH dX7_step_59 rfl hf
        · refine r_bipush (v := -4) dX7_step_42 (by decide) ?_
          exact e_iH dX7_step_44 rfl hf
      · refine r_iconst (v := -1) dX7_step_17 (by decide) ?_
        exact e_iH dX7_step_18 rfl hf
