def f_X8_byteAt (x1_ : Int32) (x2_ : Int32) (h : Hp) : Option Int32 :=
  (ldI h 71 x1_).bind fun v1 =>
  (Option.bind (α := Int32) (
    (if v1 ≤ x2_ then (
      some (0 : Int32))
    else (
      (ldI h 72 (((40 : Int32) * x1_) + x2_)).bind fun v4 =>
      some v4))) fun t2 =>
  some t2)
set_option maxRecDepth 100000 in
set_option maxHeartbeats 4000000 in
theorem S_X8_byteAt (x1_ : Int32) (x2_ : Int32) (h : Hp) (r : Int32) (hf : f_X8_byteAt x1_ x2_ h = some r) : MetP Y_X8_byteAt 1 [.ref 66, .int x1_, .int x2_] h (some (.int r), h) := by
  unfold f_X8_byteAt at hf
  refine met_of yo_X8_byteAt (Nat.le_of_ble_eq_true rfl) ?_
  show Run Y_X8_byteAt _ 0 [some (.ref 66), some (.int x1_), some (.int x2_)] [] h
  refine r_iload_n dX8_byteAt_0 rfl ?_
  refine r_aload_n dX8_byteAt_1 rfl ?_
  refine r_getS (b := 71) dX8_byteAt_2 sh_66 ft_X8_22 rfl rfl ?_
  refine r_iload_n dX8_byteAt_5 rfl ?_
  refine r_iald dX8_byteAt_6 sh_71 hf fun v1 hf => ?_
  refine r_reg (P := fun t2 => Run Y_X8_byteAt (VM 1 (some (.int r), h)) 25 [some (.ref 66), some (.int x1_), some (.int x2_)] [.int t2] h) hf (fun t2 hf => ?_) (fun t2 key3 hf => ?_)
  · exact e_iP dX8_byteAt_25 rfl hf
  · refine r_icmp_ge 24 dX8_byteAt_7 (by decide) hf (fun c5 hf => ?_) (fun c5 hf => ?_)
    · refine r_iconst (v := 0) dX8_byteAt_24 (by decide) ?_
      cases hf; exact key3
    · refine r_aload_n dX8_byteAt_10 rfl ?_
      refine r_getS (b := 72) dX8_byteAt_11 sh_66 ft_X8_25 rfl rfl ?_
      refine r_bipush (v := 40) dX8_byteAt_14 (by decide) ?_
      refine r_iload_n dX8_byteAt_16 rfl ?_
      refine r_imul dX8_byteAt_17 ?_
      refine r_iload_n dX8_byteAt_18 rfl ?_
      refine r_iadd dX8_byteAt_19 ?_
      refine r_bald dX8_byteAt_20 sh_72 hf fun v4 hf => ?_
      refine r_goto 25 dX8_byteAt_21 (by decide) ?_
      cases hf; exact key3
def f_X8_kindOf (x0_ : Int32) (h : Hp) : Option Int32 :=
  (if x0_ = 97 then (
    some (2 : Int32))
  else
  (if x0_ = 100 then (
    some (4 : Int32))
  else
  (if x0_ = 108 then (
    some (3 : Int32))
  else
  (if x0_ = 109 then (
    some (0 : Int32))
  else
  (if x0_ = 115 then (
    some (5 : Int32))
  else
  (if x0_ = 116 then (
    some (1 : Int32))
  else
  (
    some (-9 : Int32))))))))
set_option maxRecDepth 100000 in
set_option maxHeartbeats 4000000 in
theorem S_X8_kindOf (x0_ : Int32) (h : Hp) (r : Int32) (hf : f_X8_kindOf x0_ h = some r) : MetP Y_X8_kindOf 1 [.int x0_] h (some (.int r), h) := by
  unfold f_X8_kindOf at hf
  refine met_of yo_X8_kindOf (Nat.le_of_ble_eq_true rfl) ?_
  show Run Y_X8_kindOf _ 0 [some (.int x0_)] [] h
  refine r_iload_n dX8_kindOf_0 rfl ?_
  refine r_ite hf (fun c1 hf => ?_) (fun c1 hf => ?_)
  · refine r_tabIn 100 dX8_kindOf_1 (by rw [c1]; decide) (by rw [c1]; decide) (off := 99) (by rw [c1]; rfl) (by decide) ?_
    refine r_iconst (v := 2) dX8_kindOf_100 (by decide) ?_
    exact e_iP dX8_kindOf_101 rfl hf
  refine r_ite hf (fun c2 hf => ?_) (fun c2 hf => ?_)
  · refine r_tabIn 104 dX8_kindOf_1 (by rw [c2]; decide) (by rw [c2]; decide) (off := 103) (by rw [c2]; rfl) (by decide) ?_
    refine r_iconst (v := 4) dX8_kindOf_104 (by decide) ?_
    exact e_iP dX8_kindOf_105 rfl hf
  refine r_ite hf (fun c3 hf => ?_) (fun c3 hf => ?_)
  · refine r_tabIn 102 dX8_kindOf_1 (by rw [c3]; decide) (by rw [c3]; decide) (off := 101) (by rw [c3]; rfl) (by decide) ?_
    refine r_iconst (v := 3) dX8_kindOf_102 (by decide) ?_
    exact e_iP dX8_kindOf_103 rfl hf
  refine r_ite hf (fun c4 hf => ?_) (fun c4 hf => ?_)
  · refine r_tabIn 96 dX8_kindOf_1 (by rw [c4]; decide) (by rw [c4]; decide) (off := 95) (by rw [c4]; rfl) (by decide) ?_
    refine r_iconst (v := 0) dX8_kindOf_96 (by decide) ?_
    exact e_iP dX8_kindOf_97 rfl hf
  refine r_ite hf (fun c5 hf => ?_) (fun c5 hf => ?_)
  · refine r_tabIn 106 dX8_kindOf_1 (by rw [c5]; decide) (by rw [c5]; decide) (off := 105) (by rw [c5]; rfl) (by decide) ?_
    refine r_iconst (v := 5) dX8_kindOf_106 (by decide) ?_
    exact e_iP dX8_kindOf_107 rfl hf
  refine r_ite hf (fun c6 hf => ?_) (fun c6 hf => ?_)
  · refine r_tabIn 98 dX8_kindOf_1 (by rw [c6]; decide) (by rw [c6]; decide) (off := 97) (by rw [c6]; rfl) (by decide) ?_
    refine r_iconst (v := 1) dX8_kindOf_98 (by decide) ?_
    exact e_iP dX8_kindOf_99 rfl hf
  refine r_tabDef 108 20 dX8_kindOf_1 (by decide) (fun i hi e => ?_) (by decide) ?_
  · have a0 : ¬ (x0_).toInt = 97 := fun q => c1 (Int32.toInt_inj.mp (by rw [q]; rfl))
    have a3 : ¬ (x0_).toInt = 100 := fun q => c2 (Int32.toInt_inj.mp (by rw [q]; rfl))
    have a11 : ¬ (x0_).toInt = 108 := fun q => c3 (Int32.toInt_inj.mp (by rw [q]; rfl))
    have a12 : ¬ (x0_).toInt = 109 := fun q => c4 (Int32.toInt_inj.mp (by rw [q]; rfl))
    have a18 : ¬ (x0_).toInt = 115 := fun q => c5 (Int32.toInt_inj.mp (by rw [q]; rfl))
    have a19 : ¬ (x0_).toInt = 116 := fun q => c6 (Int32.toInt_inj.mp (by rw [q]; rfl))
    have b : i = 1 ∨ i = 2 ∨ i = 4 ∨ i = 5 ∨ i = 6 ∨ i = 7 ∨ i = 8 ∨ i = 9 ∨ i = 10 ∨ i = 13 ∨ i = 14 ∨ i = 15 ∨ i = 16 ∨ i = 17 := by omega
    rcases b with rfl | rfl | rfl | rfl | rfl | rfl | rfl | rfl | rfl | rfl | rfl | rfl | rfl | rfl <;> rfl
  · refine r_bipush (v := -9) dX8_kindOf_108 (by decide) ?_
    exact e_iP dX8_kindOf_110 rfl hf
def f_X8_readsCell (x1_ : Int32) (h : Hp) : Option (Int32 × Hp) :=
  (f_X8_kindOf x1_ h).bind fun v1 =>
  (Option.bind (α := Int32) (
    (if (gI h 66 20) = (1 : Int32) then (
      some (4 : Int32))
    else (
      some (gI h 66 22)))) fun t2 =>
  (if (gI h 66 21) = t2 then (
    (ckZ (0 : Int32)).bind fun z => some (z, h))
  else (
    jn (α := (Unit) → Option (Int32 × Hp)) (fun t5 =>
      nm ((((4 : Int32) * ((gI h 66 20) - (1 : Int32))) + (gI h 66 21))) fun x8 =>
      (Option.bind (α := Int32) (
        (if x1_ = (35 : Int32) then (
          some (1 : Int32))
        else (
          some (0 : Int32)))) fun t9 =>
      (stI h 78 x8 t9).bind fun h12 =>
      (Option.bind (α := Hp) (
        (if v1 = (-9 : Int32) then (
          some h12)
        else (
          (stI h12 79 (gI h12 66 23) v1).bind fun h15 =>
          (stI h15 80 (gI h15 66 23) x8).bind fun h16 =>
          nm (sI h16 66 23 ((gI h16 66 23) + (1 : Int32))) fun h17 =>
          some h17))) fun t13 =>
      nm (sI t13 66 21 ((gI t13 66 21) + (1 : Int32))) fun h19 =>
      (ckZ (1 : Int32)).bind fun z => some (z, h19)))) fun j6 =>
    (if v1 = (-9 : Int32) then (
      j6 ())
    else (
      (if (gI h 66 23) = (4 : Int32) then (
        (ckZ (0 : Int32)).bind fun z => some (z, h))
      else (
        j6 ())))))))
set_option maxRecDepth 100000 in
set_option maxHeartbeats 4000000 in
theorem S_X8_readsCell (x1_ : Int32) (h : Hp) (r : (Int32 × Hp)) (hf : f_X8_readsCell x1_ h = some r) : MetP Y_X8_readsCell 2 [.ref 66, .int x1_] h (some (.int r.1), r.2) := by
  unfold f_X8_readsCell at hf
  refine met_of yo_X8_readsCell (Nat.le_of_ble_eq_true rfl) ?_
  show Run Y_X8_readsCell _ 0 [some (.ref 66), some (.int x1_), none, none, none] [] h
  refine r_iload_n dX8_readsCell_0 rfl ?_
  obtain ⟨v1, hv, hf⟩ := bnd hf
  refine r_callS (lv := 1) dX8_readsCell_1 yo_X8_kindOf ys_X8_kindOf ml_X8_158 ya_X8_kindOf (Fits.vm (by decide)) rfl rfl (Nat.le_of_ble_eq_true rfl) (S_X8_kindOf x1_ h  _ hv) ?_
  refine r_istore_nA dX8_readsCell_4 (by decide) ?_
  refine r_aload_n dX8_readsCell_5 rfl ?_
  refine r_getI dX8_readsCell_6 sh_66 ft_X8_161 rfl ?_
  refine r_iconst (v := 1) dX8_readsCell_9 (by decide) ?_
  refine r_reg (P := fun t2 => Run Y_X8_readsCell (VM 2 (some (.int r.1), r.2)) 21 [some (.ref 66), some (.int x1_), some (.int v1), none, none] [.int t2] h) hf (fun t2 hf => ?_) (fun t2 key3 hf => ?_)
  · refine r_istore_nA dX8_readsCell_21 (by decide) ?_
    refine r_aload_n dX8_readsCell_22 rfl ?_
    refine r_getI dX8_readsCell_23 sh_66 ft_X8_167 rfl ?_
    refine r_iload_n dX8_readsCell_26 rfl ?_
    refine r_icmp_eq 44 dX8_readsCell_27 (by decide) hf (fun c22 hf => ?_) (fun c22 hf => ?_)
    · refine r_iconst (v := 0) dX8_readsCell_44 (by decide) ?_
      exact e_zH dX8_readsCell_45 rfl hf
    · refine r_iload_n dX8_readsCell_30 rfl ?_
      refine r_bipush (v := -9) dX8_readsCell_31 (by decide) ?_
      refine r_jn (P := fun t5 => Run Y_X8_readsCell (VM 2 (some (.int r.1), r.2)) 46 [some (.ref 66), some (.int x1_), some (.int v1), some (.int t2), none] [] h) hf (fun t5 hf => ?_) (fun j6 ih7 hf => ?_)
      · refine r_iconst (v := 4) dX8_readsCell_46 (by decide) ?_
        refine r_aload_n dX8_readsCell_47 rfl ?_
        refine r_getI dX8_readsCell_48 sh_66 ft_X8_161 rfl ?_
        refine r_iconst (v := 1) dX8_readsCell_51 (by decide) ?_
        refine r_isub dX8_readsCell_52 ?_
        refine r_imul dX8_readsCell_53 ?_
        refine r_aload_n dX8_readsCell_54 rfl ?_
        refine r_getI dX8_readsCell_55 sh_66 ft_X8_167 rfl ?_
        refine r_iadd dX8_readsCell_58 ?_
        refine r_istore dX8_readsCell_59 (by decide) hf fun x8 hf => ?_
        refine r_aload_n dX8_readsCell_61 rfl ?_
        refine r_getS (b := 78) dX8_readsCell_62 sh_66 ft_X8_44 rfl rfl ?_
        refine r_iload dX8_readsCell_65 rfl ?_
        refine r_iload_n dX8_readsCell_67 rfl ?_
        refine r_bipush (v := 35) dX8_readsCell_68 (by decide) ?_
        refine r_reg (P := fun t9 => Run Y_X8_readsCell (VM 2 (some (.int r.1), r.2)) 78 [some (.ref 66), some (.int x1_), some (.int v1), some (.int t2), some (.int x8)] [.int t9, .int x8, .ref 78] h) hf (fun t9 hf => ?_) (fun t9 key10 hf => ?_)
        · refine r_iast dX8_readsCell_78 sh_78 hf fun h12 hf => ?_
          refine r_iload_n dX8_readsCell_79 rfl ?_
          refine r_bipush (v := -9) dX8_readsCell_80 (by decide) ?_
          refine r_reg (P := fun t13 => Run Y_X8_readsCell (VM 2 (some (.int r.1), r.2)) 116 [some (.ref 66), some (.int x1_), some (.int v1), some (.int t2), some (.int x8)] [] t13) hf (fun t13 hf => ?_) (fun t13 key14 hf => ?_)
          · refine r_aload_n dX8_readsCell_116 rfl ?_
            refine r_dup dX8_readsCell_117 rfl ?_
            refine r_getI dX8_readsCell_118 sh_66 ft_X8_167 rfl ?_
            refine r_iconst (v := 1) dX8_readsCell_121 (by decide) ?_
            refine r_iadd dX8_readsCell_122 ?_
            refine r_putI dX8_readsCell_123 sh_66 ft_X8_167 rfl hf fun h19 hf => ?_
            refine r_iconst (v := 1) dX8_readsCell_126 (by decide) ?_
            exact e_zH dX8_readsCell_127 rfl hf
          · refine r_icmp_eq 116 dX8_readsCell_82 (by decide) hf (fun c18 hf => ?_) (fun c18 hf => ?_)
            · cases hf; exact key14
            · refine r_aload_n dX8_readsCell_85 rfl ?_
              refine r_getS (b := 79) dX8_readsCell_86 sh_66 ft_X8_47 rfl rfl ?_
              refine r_aload_n dX8_readsCell_89 rfl ?_
              refine r_getI dX8_readsCell_90 sh_66 ft_X8_170 rfl ?_
              refine r_iload_n dX8_readsCell_93 rfl ?_
              refine r_iast dX8_readsCell_94 sh_79 hf fun h15 hf => ?_
              refine r_aload_n dX8_readsCell_95 rfl ?_
              refine r_getS (b := 80) dX8_readsCell_96 sh_66 ft_X8_50 rfl rfl ?_
              refine r_aload_n dX8_readsCell_99 rfl ?_
              refine r_getI dX8_readsCell_100 sh_66 ft_X8_170 rfl ?_
              refine r_iload dX8_readsCell_103 rfl ?_
              refine r_iast dX8_readsCell_105 sh_80 hf fun h16 hf => ?_
              refine r_aload_n dX8_readsCell_106 rfl ?_
              refine r_dup dX8_readsCell_107 rfl ?_
              refine r_getI dX8_readsCell_108 sh_66 ft_X8_170 rfl ?_
              refine r_iconst (v := 1) dX8_readsCell_111 (by decide) ?_
              refine r_iadd dX8_readsCell_112 ?_
              refine r_putI dX8_readsCell_113 sh_66 ft_X8_170 rfl hf fun h17 hf => ?_
              cases hf; exact key14
        · refine r_icmp_ne 77 dX8_readsCell_70 (by decide) hf (fun c11 hf => ?_) (fun c11 hf => ?_)
          · refine r_iconst (v := 0) dX8_readsCell_77 (by decide) ?_
            cases hf; exact key10
          · refine r_iconst (v := 1) dX8_readsCell_73 (by decide) ?_
            refine r_goto 78 dX8_readsCell_74 (by decide) ?_
            cases hf; exact key10
      refine r_icmp_eq 46 dX8_readsCell_33 (by decide) hf (fun c21 hf => ?_) (fun c21 hf => ?_)
      · exact ih7 _ hf
      · refine r_aload_n dX8_readsCell_36 rfl ?_
        refine r_getI dX8_readsCell_37 sh_66 ft_X8_170 rfl ?_
        refine r_iconst (v := 4) dX8_readsCell_40 (by decide) ?_
        refine r_icmp_ne 46 dX8_readsCell_41 (by decide) hf (fun c20 hf => ?_) (fun c20 hf => ?_)
        · exact ih7 _ hf
        · refine r_iconst (v := 0) dX8_readsCell_44 (by decide) ?_
          exact e_zH dX8_readsCell_45 rfl hf
  · refine r_icmp_ne 17 dX8_readsCell_10 (by decide) hf (fun c4 hf => ?_) (fun c4 hf => ?_)
    · refine r_aload_n dX8_readsCell_17 rfl ?_
      refine r_getI dX8_readsCell_18 sh_66 ft_X8_164 rfl ?_
      cases hf; exact key3
    · refine r_iconst (v := 4) dX8_readsCell_13 (by decide) ?_
      refine r_goto 21 dX8_readsCell_14 (by decide) ?_
      cases hf; exact key3
def f_X8_lineEnds  (h : Hp) : Option Int32 :=
  (Option.bind (α := Int32) (
    (if (gI h 66 20) = (1 : Int32) then (
      (if (gI h 66 21) ≤ 0 then (
        some (0 : Int32))
      else (
        some (1 : Int32))))
    else (
      (if (gI h 66 21) = (gI h 66 22) then (
        some (1 : Int32))
      else (
        some (0 : Int32)))))) fun t1 =>
  ckZ t1)
set_option maxRecDepth 100000 in
set_option maxHeartbeats 4000000 in
theorem S_X8_lineEnds  (h : Hp) (r : Int32) (hf : f_X8_lineEnds h = some r) : MetP Y_X8_lineEnds 1 [.ref 66] h (some (.int r), h) := by
  unfold f_X8_lineEnds at hf
  refine met_of yo_X8_lineEnds (Nat.le_of_ble_eq_true rfl) ?_
  show Run Y_X8_lineEnds _ 0 [some (.ref 66)] [] h
  refine r_aload_n dX8_lineEnds_0 rfl ?_
  refine r_getI dX8_lineEnds_1 sh_66 ft_X8_161 rfl ?_
  refine r_iconst (v := 1) dX8_lineEnds_4 (by decide) ?_
  refine r_reg (P := fun t1 => Run Y_X8_lineEnds (VM 1 (some (.int r), h)) 39 [some (.ref 66)] [.int t1] h) hf (fun t1 hf => ?_) (fun t1 key2 hf => ?_)
  · exact e_zP dX8_lineEnds_39 rfl hf
  · refine r_icmp_ne 23 dX8_lineEnds_5 (by decide) hf (fun c5 hf => ?_) (fun c5 hf => ?_)
    · refine r_aload_n dX8_lineEnds_23 rfl ?_
      refine r_getI dX8_lineEnds_24 sh_66 ft_X8_167 rfl ?_
      refine r_aload_n dX8_lineEnds_27 rfl ?_
      refine r_getI dX8_lineEnds_28 sh_66 ft_X8_164 rfl ?_
      refine r_icmp_ne 38 dX8_lineEnds_31 (by decide) hf (fun c3 hf => ?_) (fun c3 hf => ?_)
      · refine r_iconst (v := 0) dX8_lineEnds_38 (by decide) ?_
        cases hf; exact key2
      · refine r_iconst (v := 1) dX8_lineEnds_34 (by decide) ?_
        refine r_goto 39 dX8_lineEnds_35 (by decide) ?_
        cases hf; exact key2
    · refine r_aload_n dX8_lineEnds_8 rfl ?_
      refine r_getI dX8_lineEnds_9 sh_66 ft_X8_167 rfl ?_
      refine r_if_le 19 dX8_lineEnds_12 (by decide) hf (fun c4 hf => ?_) (fun c4 hf => ?_)
      · refine r_iconst (v := 0) dX8_lineEnds_19 (by decide) ?_
        refine r_goto 39 dX8_lineEnds_20 (by decide) ?_
        cases hf; exact key2
      · refine r_iconst (v := 1) dX8_lineEnds_15 (by decide) ?_
        refine r_goto 39 dX8_lineEnds_16 (by decide) ?_
        cases hf; exact key2
def f_X8_readsLines (F : Nat) (x1_ : Int32) (h : Hp) : Option (Int32 × Hp) :=
  nm (sI h 66 20 (1 : Int32)) fun h1 =>
  nm (sI h1 66 21 (0 : Int32)) fun h2 =>
  nm (sI h2 66 23 (0 : Int32)) fun h3 =>
  fix (σ := Hp) (ρ := (Int32 × Hp)) (fun self5 s4 =>
    (ldI s4 71 x1_).bind fun v7 =>
    (if v7 ≤ (gI s4 66 19) then (
      (ckZ (0 : Int32)).bind fun z => some (z, s4))
    else (
      (f_X8_byteAt x1_ (gI s4 66 19) s4).bind fun v8 =>
      (Option.bind (α := Int32) (
        (if v8 = (46 : Int32) then (
          some (1 : Int32))
        else (
          (if v8 = (35 : Int32) then (
            some (1 : Int32))
          else (
            (f_X8_kindOf v8 s4).bind fun v11 =>
            (if v11 = (-9 : Int32) then (
              some (0 : Int32))
            else (
              some (1 : Int32)))))))) fun t9 =>
      jn (α := (Unit) → Option (Int32 × Hp)) (fun t15 =>
        jn (α := (Hp) → Option (Int32 × Hp)) (fun t18 =>
          jn (α := (Unit) → Option (Int32 × Hp)) (fun t21 =>
            jn (α := (Unit) → Option (Int32 × Hp)) (fun t24 =>
              (Option.bind (α := Hp) (
                (if t9 = 0 then (
                  (Option.bind (α := Int32) (
                    (if (gI t18 66 20) = (1 : Int32) then (
                      some (gI t18 66 21))
                    else (
                      some (gI t18 66 22)))) fun t29 =>
                  nm (sI t18 66 22 t29) fun h32 =>
                  some h32))
                else (
                  some t18))) fun t27 =>
              nm (sI t27 66 19 ((gI t27 66 19) + (1 : Int32))) fun h34 =>
              (if v8 = (61 : Int32) then (
                (ckZ (1 : Int32)).bind fun z => some (z, h34))
              else (
                (Option.bind (α := Int32) (
                  (if t9 = 0 then (
                    some (1 : Int32))
                  else (
                    some (0 : Int32)))) fun t35 =>
                nm (sI h34 66 20 ((gI h34 66 20) + t35)) fun h38 =>
                (Option.bind (α := Int32) (
                  (if t9 = 0 then (
                    some (0 : Int32))
                  else (
                    some (gI h38 66 21)))) fun t39 =>
                nm (sI h38 66 21 t39) fun h42 =>
                self5 h42)))))) fun j25 =>
            (if v8 = (47 : Int32) then (
              (if (gI t18 66 20) = (3 : Int32) then (
                (ckZ (0 : Int32)).bind fun z => some (z, t18))
              else (
                j25 ())))
            else (
              j25 ()))) fun j22 =>
          (if t9 = 0 then (
            (f_X8_lineEnds t18).bind fun v46 =>
            (if v46 = 0 then (
              (ckZ (0 : Int32)).bind fun z => some (z, t18))
            else (
              j22 ())))
          else (
            j22 ()))) fun j19 =>
        (if t9 = 0 then (
          j19 s4)
        else (
          (f_X8_readsCell v8 s4).bind fun v49 =>
          (if v49.1 = 0 then (
            (ckZ (0 : Int32)).bind fun z => some (z, v49.2))
          else (
            j19 v49.2))))) fun j16 =>
      (if t9 = 0 then (
        (if v8 = (47 : Int32) then (
          j16 ())
        else (
          (if v8 = (61 : Int32) then (
            j16 ())
          else (
            (ckZ (0 : Int32)).bind fun z => some (z, s4))))))
      else (
        j16 ())))))) F h3
set_option maxRecDepth 100000 in
set_option maxHeartbeats 4000000 in
theorem S_X8_readsLines (F : Nat) (x1_ : Int32) (h : Hp) (r : (Int32 × Hp)) (hf : f_X8_readsLines F x1_ h = some r) : MetP Y_X8_readsLines 3 [.ref 66, .int x1_] h (some (.int r.1), r.2) := by
  unfold f_X8_readsLines at hf
  refine met_of yo_X8_readsLines (Nat.le_of_ble_eq_true rfl) ?_
  show Run Y_X8_readsLines _ 0 [some (.ref 66), some (.int x1_), none, none] [] h
  refine r_aload_n dX8_readsLines_0 rfl ?_
  refine r_iconst (v := 1) dX8_readsLines_1 (by decide) ?_
  refine r_putI dX8_readsLines_2 sh_66 ft_X8_161 rfl hf fun h1 hf => ?_
  refine r_aload_n dX8_readsLines_5 rfl ?_
  refine r_iconst (v := 0) dX8_readsLines_6 (by decide) ?_
  refine r_putI dX8_readsLines_7 sh_66 ft_X8_167 rfl hf fun h2 hf => ?_
  refine r_aload_n dX8_readsLines_10 rfl ?_
  refine r_iconst (v := 0) dX8_readsLines_11 (by decide) ?_
  refine r_putI dX8_readsLines_12 sh_66 ft_X8_170 rfl hf fun h3 hf => ?_
  refine r_fix (σ := Hp) (fun s4 => [some (.ref 66), some (.int x1_), none, none]) (fun s4 => s4) (fun self5 ih6 s4 hf => ?_) F h3 hf
  refine r_aload_n dX8_readsLines_15 rfl ?_
  refine r_getI dX8_readsLines_16 sh_66 ft_X8_173 rfl ?_
  refine r_aload_n dX8_readsLines_19 rfl ?_
  refine r_getS (b := 71) dX8_readsLines_20 sh_66 ft_X8_22 rfl rfl ?_
  refine r_iload_n dX8_readsLines_23 rfl ?_
  refine r_iald dX8_readsLines_24 sh_71 hf fun v7 hf => ?_
  refine r_icmp_ge 202 dX8_readsLines_25 (by decide) hf (fun c55 hf => ?_) (fun c55 hf => ?_)
  · refine r_iconst (v := 0) dX8_readsLines_202 (by decide) ?_
    exact e_zH dX8_readsLines_203 rfl hf
  · refine r_aload_n dX8_readsLines_28 rfl ?_
    refine r_iload_n dX8_readsLines_29 rfl ?_
    refine r_aload_n dX8_readsLines_30 rfl ?_
    refine r_getI dX8_readsLines_31 sh_66 ft_X8_173 rfl ?_
    obtain ⟨v8, hv, hf⟩ := bnd hf
    refine r_callV (lv := 1) dX8_readsLines_34 yo_X8_byteAt yi_X8_byteAt ml_X8_176 ya_X8_byteAt sh_66 ⟨_, rfl, rfl⟩ (Fits.vm (by decide)) rfl rfl (Nat.le_of_ble_eq_true rfl) (S_X8_byteAt x1_ (gI s4 66 19) s4  _ hv) ?_
    refine r_istore_nA dX8_readsLines_37 (by decide) ?_
    refine r_iload_n dX8_readsLines_38 rfl ?_
    refine r_bipush (v := 46) dX8_readsLines_39 (by decide) ?_
    refine r_reg (P := fun t9 => Run Y_X8_readsLines (VM 3 (some (.int r.1), r.2)) 64 [some (.ref 66), some (.int x1_), some (.int v8), none] [.int t9] s4) hf (fun t9 hf => ?_) (fun t9 key10 hf => ?_)
    · refine r_istore_nA dX8_readsLines_64 (by decide) ?_
      refine r_iload_n dX8_readsLines_65 rfl ?_
      refine r_jn (P := fun t15 => Run Y_X8_readsLines (VM 3 (some (.int r.1), r.2)) 81 [some (.ref 66), some (.int x1_), some (.int v8), some (.int t9)] [] s4) hf (fun t15 hf => ?_) (fun j16 ih17 hf => ?_)
      · refine r_iload_n dX8_readsLines_81 rfl ?_
        refine r_jn (P := fun t18 => Run Y_X8_readsLines (VM 3 (some (.int r.1), r.2)) 93 [some (.ref 66), some (.int x1_), some (.int v8), some (.int t9)] [] t18) hf (fun t18 hf => ?_) (fun j19 ih20 hf => ?_)
        · refine r_iload_n dX8_readsLines_93 rfl ?_
          refine r_jn (P := fun t21 => Run Y_X8_readsLines (VM 3 (some (.int r.1), r.2)) 104 [some (.ref 66), some (.int x1_), some (.int v8), some (.int t9)] [] t18) hf (fun t21 hf => ?_) (fun j22 ih23 hf => ?_)
          · refine r_iload_n dX8_readsLines_104 rfl ?_
            refine r_bipush (v := 47) dX8_readsLines_105 (by decide) ?_
            refine r_jn (P := fun t24 => Run Y_X8_readsLines (VM 3 (some (.int r.1), r.2)) 120 [some (.ref 66), some (.int x1_), some (.int v8), some (.int t9)] [] t18) hf (fun t24 hf => ?_) (fun j25 ih26 hf => ?_)
            · refine r_iload_n dX8_readsLines_120 rfl ?_
              refine r_reg (P := fun t27 => Run Y_X8_readsLines (VM 3 (some (.int r.1), r.2)) 147 [some (.ref 66), some (.int x1_), some (.int v8), some (.int t9)] [] t27) hf (fun t27 hf => ?_) (fun t27 key28 hf => ?_)
              · refine r_aload_n dX8_readsLines_147 rfl ?_
                refine r_dup dX8_readsLines_148 rfl ?_
                refine r_getI dX8_readsLines_149 sh_66 ft_X8_173 rfl ?_
                refine r_iconst (v := 1) dX8_readsLines_152 (by decide) ?_
                refine r_iadd dX8_readsLines_153 ?_
                refine r_putI dX8_readsLines_154 sh_66 ft_X8_173 rfl hf fun h34 hf => ?_
                refine r_iload_n dX8_readsLines_157 rfl ?_
                refine r_bipush (v := 61) dX8_readsLines_158 (by decide) ?_
                refine r_icmp_ne 165 dX8_readsLines_160 (by decide) hf (fun c43 hf => ?_) (fun c43 hf => ?_)
                · refine r_aload_n dX8_readsLines_165 rfl ?_
                  refine r_dup dX8_readsLines_166 rfl ?_
                  refine r_getI dX8_readsLines_167 sh_66 ft_X8_161 rfl ?_
                  refine r_iload_n dX8_readsLines_170 rfl ?_
                  refine r_reg (P := fun t35 => Run Y_X8_readsLines (VM 3 (some (.int r.1), r.2)) 179 [some (.ref 66), some (.int x1_), some (.int v8), some (.int t9)] [.int t35, .int (gI h34 66 20), .ref 66] h34) hf (fun t35 hf => ?_) (fun t35 key36 hf => ?_)
                  · refine r_iadd dX8_readsLines_179 ?_
                    refine r_putI dX8_readsLines_180 sh_66 ft_X8_161 rfl hf fun h38 hf => ?_
                    refine r_aload_n dX8_readsLines_183 rfl ?_
                    refine r_iload_n dX8_readsLines_184 rfl ?_
                    refine r_reg (P := fun t39 => Run Y_X8_readsLines (VM 3 (some (.int r.1), r.2)) 196 [some (.ref 66), some (.int x1_), some (.int v8), some (.int t9)] [.int t39, .ref 66] h38) hf (fun t39 hf => ?_) (fun t39 key40 hf => ?_)
                    · refine r_putI dX8_readsLines_196 sh_66 ft_X8_167 rfl hf fun h42 hf => ?_
                      refine r_goto 15 dX8_readsLines_199 (by decide) ?_
                      refine r_lt (ll_s (ll_s (ll_n (ll_n ll_0)))) ?_
                      exact ih6 _ hf
                    · refine r_if_eq 195 dX8_readsLines_185 (by decide) hf (fun c41 hf => ?_) (fun c41 hf => ?_)
                      · refine r_iconst (v := 0) dX8_readsLines_195 (by decide) ?_
                        cases hf; exact key40
                      · refine r_aload_n dX8_readsLines_188 rfl ?_
                        refine r_getI dX8_readsLines_189 sh_66 ft_X8_167 rfl ?_
                        refine r_goto 196 dX8_readsLines_192 (by decide) ?_
                        cases hf; exact key40
                  · refine r_if_eq 178 dX8_readsLines_171 (by decide) hf (fun c37 hf => ?_) (fun c37 hf => ?_)
                    · refine r_iconst (v := 1) dX8_readsLines_178 (by decide) ?_
                      cases hf; exact key36
                    · refine r_iconst (v := 0) dX8_readsLines_174 (by decide) ?_
                      refine r_goto 179 dX8_readsLines_175 (by decide) ?_
                      cases hf; exact key36
                · refine r_iconst (v := 1) dX8_readsLines_163 (by decide) ?_
                  exact e_zH dX8_readsLines_164 rfl hf
              · refine r_if_ne 147 dX8_readsLines_121 (by decide) hf (fun c33 hf => ?_) (fun c33 hf => ?_)
                · cases hf; exact key28
                · refine r_aload_n dX8_readsLines_124 rfl ?_
                  refine r_aload_n dX8_readsLines_125 rfl ?_
                  refine r_getI dX8_readsLines_126 sh_66 ft_X8_161 rfl ?_
                  refine r_iconst (v := 1) dX8_readsLines_129 (by decide) ?_
                  refine r_reg (P := fun t29 => Run Y_X8_readsLines (VM 3 (some (.int r.1), r.2)) 144 [some (.ref 66), some (.int x1_), some (.int v8), some (.int t9)] [.int t29, .ref 66] t18) hf (fun t29 hf => ?_) (fun t29 key30 hf => ?_)
                  · refine r_putI dX8_readsLines_144 sh_66 ft_X8_164 rfl hf fun h32 hf => ?_
                    cases hf; exact key28
                  · refine r_icmp_ne 140 dX8_readsLines_130 (by decide) hf (fun c31 hf => ?_) (fun c31 hf => ?_)
                    · refine r_aload_n dX8_readsLines_140 rfl ?_
                      refine r_getI dX8_readsLines_141 sh_66 ft_X8_164 rfl ?_
                      cases hf; exact key30
                    · refine r_aload_n dX8_readsLines_133 rfl ?_
                      refine r_getI dX8_readsLines_134 sh_66 ft_X8_167 rfl ?_
                      refine r_goto 144 dX8_readsLines_137 (by decide) ?_
                      cases hf; exact key30
            refine r_icmp_ne 120 dX8_readsLines_107 (by decide) hf (fun c45 hf => ?_) (fun c45 hf => ?_)
            · exact ih26 _ hf
            · refine r_aload_n dX8_readsLines_110 rfl ?_
              refine r_getI dX8_readsLines_111 sh_66 ft_X8_161 rfl ?_
              refine r_iconst (v := 3) dX8_readsLines_114 (by decide) ?_
              refine r_icmp_ne 120 dX8_readsLines_115 (by decide) hf (fun c44 hf => ?_) (fun c44 hf => ?_)
              · exact ih26 _ hf
              · refine r_iconst (v := 0) dX8_readsLines_118 (by decide) ?_
                exact e_zH dX8_readsLines_119 rfl hf
          refine r_if_ne 104 dX8_readsLines_94 (by decide) hf (fun c48 hf => ?_) (fun c48 hf => ?_)
          · exact ih23 _ hf
          · refine r_aload_n dX8_readsLines_97 rfl ?_
            obtain ⟨v46, hv, hf⟩ := bnd hf
            refine r_callV (lv := 1) dX8_readsLines_98 yo_X8_lineEnds yi_X8_lineEnds ml_X8_182 ya_X8_lineEnds sh_66 ⟨_, rfl, rfl⟩ (Fits.vm (by decide)) rfl rfl (Nat.le_of_ble_eq_true rfl) (S_X8_lineEnds  t18  _ hv) ?_
            refine r_if_eq 118 dX8_readsLines_101 (by decide) hf (fun c47 hf => ?_) (fun c47 hf => ?_)
            · refine r_iconst (v := 0) dX8_readsLines_118 (by decide) ?_
              exact e_zH dX8_readsLines_119 rfl hf
            · exact ih23 _ hf
        refine r_if_eq 93 dX8_readsLines_82 (by decide) hf (fun c51 hf => ?_) (fun c51 hf => ?_)
        · exact ih20 _ hf
        · refine r_aload_n dX8_readsLines_85 rfl ?_
          refine r_iload_n dX8_readsLines_86 rfl ?_
          obtain ⟨v49, hv, hf⟩ := bnd hf
          refine r_callV (lv := 2) dX8_readsLines_87 yo_X8_readsCell yi_X8_readsCell ml_X8_179 ya_X8_readsCell sh_66 ⟨_, rfl, rfl⟩ (Fits.vm (by decide)) rfl rfl (Nat.le_of_ble_eq_true rfl) (S_X8_readsCell v8 s4  _ hv) ?_
          refine r_if_eq 118 dX8_readsLines_90 (by decide) hf (fun c50 hf => ?_) (fun c50 hf => ?_)
          · refine r_iconst (v := 0) dX8_readsLines_118 (by decide) ?_
            exact e_zH dX8_readsLines_119 rfl hf
          · exact ih20 _ hf
      refine r_if_ne 81 dX8_readsLines_66 (by decide) hf (fun c54 hf => ?_) (fun c54 hf => ?_)
      · exact ih17 _ hf
      · refine r_iload_n dX8_readsLines_69 rfl ?_
        refine r_bipush (v := 47) dX8_readsLines_70 (by decide) ?_
        refine r_icmp_eq 81 dX8_readsLines_72 (by decide) hf (fun c53 hf => ?_) (fun c53 hf => ?_)
        · exact ih17 _ hf
        · refine r_iload_n dX8_readsLines_75 rfl ?_
          refine r_bipush (v := 61) dX8_readsLines_76 (by decide) ?_
          refine r_icmp_ne 118 dX8_readsLines_78 (by decide) hf (fun c52 hf => ?_) (fun c52 hf => ?_)
          · refine r_iconst (v := 0) dX8_readsLines_118 (by decide) ?_
            exact e_zH dX8_readsLines_119 rfl hf
          · exact ih17 _ hf
    · refine r_icmp_eq 59 dX8_readsLines_41 (by decide) hf (fun c14 hf => ?_) (fun c14 hf => ?_)
      · refine r_iconst (v := 1) dX8_readsLines_59 (by decide) ?_
        refine r_goto 64 dX8_readsLines_60 (by decide) ?_
        cases hf; exact key10
      · refine r_iload_n dX8_readsLines_44 rfl ?_
        refine r_bipush (v := 35) dX8_readsLines_45 (by decide) ?_
        refine r_icmp_eq 59 dX8_readsLines_47 (by decide) hf (fun c13 hf => ?_) (fun c13 hf => ?_)
        · refine r_iconst (v := 1) dX8_readsLines_59 (by decide) ?_
          refine r_goto 64 dX8_readsLines_60 (by decide) ?_
          cases hf; exact key10
        · refine r_iload_n dX8_readsLines_50 rfl ?_
          obtain ⟨v11, hv, hf⟩ := bnd hf
          refine r_callS (lv := 1) dX8_readsLines_51 yo_X8_kindOf ys_X8_kindOf ml_X8_158 ya_X8_kindOf (Fits.vm (by decide)) rfl rfl (Nat.le_of_ble_eq_true rfl) (S_X8_kindOf v8 s4  _ hv) ?_
          refine r_bipush (v := -9) dX8_readsLines_54 (by decide) ?_
          refine r_icmp_eq 63 dX8_readsLines_56 (by decide) hf (fun c12 hf => ?_) (fun c12 hf => ?_)
          · refine r_iconst (v := 0) dX8_readsLines_63 (by decide) ?_
            cases hf; exact key10
          · refine r_iconst (v := 1) dX8_readsLines_59 (by decide) ?_
            refine r_goto 64 dX8_readsLines_60 (by decide) ?_
            cases hf; exact key10
def f_X8_farIn (x0_ : Int32) (x1_ : Int32) (x2_ : Int32) (h : Hp) : Option Int32 :=
  (dvI x0_ x2_).bind fun v1 =>
  (dvI x1_ x2_).bind fun v2 =>
  (f_X8_sizeOf (v1 - v2) h).bind fun v3 =>
  (rmI x0_ x2_).bind fun v4 =>
  (rmI x1_ x2_).bind fun v5 =>
  (f_X8_sizeOf (v4 - v5) h).bind fun v6 =>
  some (v3 + v6)
set_option maxRecDepth 100000 in
set_option maxHeartbeats 4000000 in
theorem S_X8_farIn (x0_ : Int32) (x1_ : Int32) (x2_ : Int32) (h : Hp) (r : Int32) (hf : f_X8_farIn x0_ x1_ x2_ h = some r) : MetP Y_X8_farIn 2 [.int x0_, .int x1_, .int x2_] h (some (.int r), h) := by
  unfold f_X8_farIn at hf
  refine met_of yo_X8_farIn (Nat.le_of_ble_eq_true rfl) ?_
  show Run Y_X8_farIn _ 0 [some (.int x0_), some (.int x1_), some (.int x2_)] [] h
  refine r_iload_n dX8_farIn_0 rfl ?_
  refine r_iload_n dX8_farIn_1 rfl ?_
  refine r_idiv dX8_farIn_2 hf fun v1 hf => ?_
  refine r_iload_n dX8_farIn_3 rfl ?_
  refine r_iload_n dX8_farIn_4 rfl ?_
  refine r_idiv dX8_farIn_5 hf fun v2 hf => ?_
  refine r_isub dX8_farIn_6 ?_
  obtain ⟨v3, hv, hf⟩ := bnd hf
  refine r_callS (lv := 1) dX8_farIn_7 yo_X8_sizeOf ys_X8_sizeOf ml_X8_186 ya_X8_sizeOf (Fits.vm (by decide)) rfl rfl (Nat.le_of_ble_eq_true rfl) (S_X8_sizeOf (v1 - v2) h  _ hv) ?_
  refine r_iload_n dX8_farIn_10 rfl ?_
  refine r_iload_n dX8_farIn_11 rfl ?_
  refine r_irem dX8_farIn_12 hf fun v4 hf => ?_
  refine r_iload_n dX8_farIn_13 rfl ?_
  refine r_iload_n dX8_farIn_14 rfl ?_
  refine r_irem dX8_farIn_15 hf fun v5 hf => ?_
  refine r_isub dX8_farIn_16 ?_
  obtain ⟨v6, hv, hf⟩ := bnd hf
  refine r_callS (lv := 1) dX8_farIn_17 yo_X8_sizeOf ys_X8_sizeOf ml_X8_186 ya_X8_sizeOf (Fits.vm (by decide)) rfl rfl (Nat.le_of_ble_eq_true rfl) (S_X8_sizeOf (v4 - v5) h  _ hv) ?_
  refine r_iadd dX8_farIn_20 ?_
  exact e_iP dX8_farIn_21 rfl hf
def f_X8_reachBy (x0_ : Int32) (x1_ : Int32) (x2_ : Int32) (h : Hp) : Option Int32 :=
  (Option.bind (α := Int32) (
    (if x1_ = (1 : Int32) then (
      some (1 : Int32))
    else (
      some (0 : Int32)))) fun t1 =>
  (Option.bind (α := Int32) (
    (if x2_ = (1 : Int32) then (
      some (1 : Int32))
    else (
      some (0 : Int32)))) fun t4 =>
  (Option.bind (α := Int32) (
    (if x1_ = (5 : Int32) then (
      some (1 : Int32))
    else (
      some (0 : Int32)))) fun t7 =>
  (Option.bind (α := Int32) (
    (if x2_ = (5 : Int32) then (
      some (1 : Int32))
    else (
      some (0 : Int32)))) fun t10 =>
  nm (((((x0_ + t1) + t4) - t7) - t10)) fun x13 =>
  (f_X8_greater (1 : Int32) x13 h).bind fun v14 =>
  some v14))))
set_option maxRecDepth 100000 in
set_option maxHeartbeats 4000000 in
theorem S_X8_reachBy (x0_ : Int32) (x1_ : Int32) (x2_ : Int32) (h : Hp) (r : Int32) (hf : f_X8_reachBy x0_ x1_ x2_ h = some r) : MetP Y_X8_reachBy 2 [.int x0_, .int x1_, .int x2_] h (some (.int r), h) := by
  unfold f_X8_reachBy at hf
  refine met_of yo_X8_reachBy (Nat.le_of_ble_eq_true rfl) ?_
  show Run Y_X8_reachBy _ 0 [some (.int x0_), some (.int x1_), some (.int x2_), none] [] h
  refine r_iload_n dX8_reachBy_0 rfl ?_
  refine r_iload_n dX8_reachBy_1 rfl ?_
  refine r_iconst (v := 1) dX8_reachBy_2 (by decide) ?_
  refine r_reg (P := fun t1 => Run Y_X8_reachBy (VM 2 (some (.int r), h)) 11 [some (.int x0_), some (.int x1_), some (.int x2_), none] [.int t1, .int x0_] h) hf (fun t1 hf => ?_) (fun t1 key2 hf => ?_)
  · refine r_iadd dX8_reachBy_11 ?_
    refine r_iload_n dX8_reachBy_12 rfl ?_
    refine r_iconst (v := 1) dX8_reachBy_13 (by decide) ?_
    refine r_reg (P := fun t4 => Run Y_X8_reachBy (VM 2 (some (.int r), h)) 22 [some (.int x0_), some (.int x1_), some (.int x2_), none] [.int t4, .int (x0_ + t1)] h) hf (fun t4 hf => ?_) (fun t4 key5 hf => ?_)
    · refine r_iadd dX8_reachBy_22 ?_
      refine r_iload_n dX8_reachBy_23 rfl ?_
      refine r_iconst (v := 5) dX8_reachBy_24 (by decide) ?_
      refine r_reg (P := fun t7 => Run Y_X8_reachBy (VM 2 (some (.int r), h)) 33 [some (.int x0_), some (.int x1_), some (.int x2_), none] [.int t7, .int ((x0_ + t1) + t4)] h) hf (fun t7 hf => ?_) (fun t7 key8 hf => ?_)
      · refine r_isub dX8_reachBy_33 ?_
        refine r_iload_n dX8_reachBy_34 rfl ?_
        refine r_iconst (v := 5) dX8_reachBy_35 (by decide) ?_
        refine r_reg (P := fun t10 => Run Y_X8_reachBy (VM 2 (some (.int r), h)) 44 [some (.int x0_), some (.int x1_), some (.int x2_), none] [.int t10, .int (((x0_ + t1) + t4) - t7)] h) hf (fun t10 hf => ?_) (fun t10 key11 hf => ?_)
        · refine r_isub dX8_reachBy_44 ?_
          refine r_istore_n dX8_reachBy_45 (by decide) hf fun x13 hf => ?_
          refine r_iconst (v := 1) dX8_reachBy_46 (by decide) ?_
          refine r_iload_n dX8_reachBy_47 rfl ?_
          obtain ⟨v14, hv, hf⟩ := bnd hf
          refine r_callS (lv := 1) dX8_reachBy_48 yo_X8_greater ys_X8_greater ml_X8_189 ya_X8_greater (Fits.vm (by decide)) rfl rfl (Nat.le_of_ble_eq_true rfl) (S_X8_greater (1 : Int32) x13 h  _ hv) ?_
          exact e_iP dX8_reachBy_51 rfl hf
        · refine r_icmp_ne 43 dX8_reachBy_36 (by decide) hf (fun c12 hf => ?_) (fun c12 hf => ?_)
          · refine r_iconst (v := 0) dX8_reachBy_43 (by decide) ?_
            cases hf; exact key11
          · refine r_iconst (v := 1) dX8_reachBy_39 (by decide) ?_
            refine r_goto 44 dX8_reachBy_40 (by decide) ?_
            cases hf; exact key11
      · refine r_icmp_ne 32 dX8_reachBy_25 (by decide) hf (fun c9 hf => ?_) (fun c9 hf => ?_)
        · refine r_iconst (v := 0) dX8_reachBy_32 (by decide) ?_
          cases hf; exact key8
        · refine r_iconst (v := 1) dX8_reachBy_28 (by decide) ?_
          refine r_goto 33 dX8_reachBy_29 (by decide) ?_
          cases hf; exact key8
    · refine r_icmp_ne 21 dX8_reachBy_14 (by decide) hf (fun c6 hf => ?_) (fun c6 hf => ?_)
      · refine r_iconst (v := 0) dX8_reachBy_21 (by decide) ?_
        cases hf; exact key5
      · refine r_iconst (v := 1) dX8_reachBy_17 (by decide) ?_
        refine r_goto 22 dX8_reachBy_18 (by decide) ?_
        cases hf; exact key5
  · refine r_icmp_ne 10 dX8_reachBy_3 (by decide) hf (fun c3 hf => ?_) (fun c3 hf => ?_)
    · refine r_iconst (v := 0) dX8_reachBy_10 (by decide) ?_
      cases hf; exact key2
    · refine r_iconst (v := 1) dX8_reachBy_6 (by decide) ?_
      refine r_goto 11 dX8_reachBy_7 (by decide) ?_
      cases hf; exact key2
def f_X8_readsChains (F : Nat) (x1_ : Int32) (h : Hp) : Option (Int32 × Hp) :=
  (f_X8_byteAt x1_ (gI h 66 19) h).bind fun v1 =>
  jn (α := (Unit) → Option (Int32 × Hp)) (fun t2 =>
    nm (sI h 66 19 ((gI h 66 19) + (1 : Int32))) fun h5 =>
    (Option.bind (α := Int32) (
      (if v1 = (114 : Int32) then (
        some (1 : Int32))
      else (
        some (0 : Int32)))) fun t6 =>
    (ckZ t6).bind fun z10 => nm (sI h5 66 25 z10) fun h9 =>
    (Option.bind (α := Int32) (
      (if (2 : Int32) ≤ (gI h9 66 23) then (
        (if (gI h9 66 25) = 0 then (
          some ((gI h9 66 23) - (1 : Int32)))
        else (
          (if (gI h9 66 23) ≤ (2 : Int32) then (
            some ((gI h9 66 23) - (1 : Int32)))
          else (
            some (gI h9 66 23))))))
      else (
        some (0 : Int32)))) fun t11 =>
    nm (sI h9 66 24 t11) fun h16 =>
    fix (σ := Int32 × Hp) (ρ := (Int32 × Hp)) (fun self18 s17 =>
      (if (gI s17.2 66 24) ≤ s17.1 then (
        (ckZ (1 : Int32)).bind fun z => some (z, s17.2))
      else (
        (f_X8_byteAt x1_ (gI s17.2 66 19) s17.2).bind fun v20 =>
        (rmI (s17.1 + (1 : Int32)) (gI s17.2 66 23)).bind fun v21 =>
        (f_X8_in (v20 - (48 : Int32)) (1 : Int32) (9 : Int32) s17.2).bind fun v22 =>
        (if v22 = 0 then (
          (ckZ (0 : Int32)).bind fun z => some (z, s17.2))
        else (
          (ldI s17.2 80 s17.1).bind fun v23 =>
          (ldI s17.2 80 v21).bind fun v24 =>
          (f_X8_farIn v23 v24 (4 : Int32) s17.2).bind fun v25 =>
          (ldI s17.2 79 s17.1).bind fun v26 =>
          (ldI s17.2 79 v21).bind fun v27 =>
          (f_X8_reachBy (v20 - (48 : Int32)) v26 v27 s17.2).bind fun v28 =>
          (if v25 ≤ v28 then (
            (stI s17.2 81 s17.1 (v20 - (48 : Int32))).bind fun h29 =>
            nm (sI h29 66 19 ((gI h29 66 19) + (1 : Int32))) fun h30 =>
            self18 ((s17.1 + 1), h30))
          else (
            (ckZ (0 : Int32)).bind fun z => some (z, s17.2)))))))) F ((0 : Int32), h16)))) fun j3 =>
  (if v1 = (119 : Int32) then (
    j3 ())
  else (
    (if v1 = (114 : Int32) then (
      j3 ())
    else (
      (ckZ (0 : Int32)).bind fun z => some (z, h)))))
set_option maxRecDepth 100000 in
set_option maxHeartbeats 4000000 in
theorem S_X8_readsChains (F : Nat) (x1_ : Int32) (h : Hp) (r : (Int32 × Hp)) (hf : f_X8_readsChains F x1_ h = some r) : MetP Y_X8_readsChains 3 [.ref 66, .int x1_] h (some (.int r.1), r.2) := by
  unfold f_X8_readsChains at hf
  refine met_of yo_X8_readsChains (Nat.le_of_ble_eq_true rfl) ?_
  show Run Y_X8_readsChains _ 0 [some (.ref 66), some (.int x1_), none, none, none, none] [] h
  refine r_aload_n dX8_readsChains_0 rfl ?_
  refine r_iload_n dX8_readsChains_1 rfl ?_
  refine r_aload_n dX8_readsChains_2 rfl ?_
  refine r_getI dX8_readsChains_3 sh_66 ft_X8_173 rfl ?_
  obtain ⟨v1, hv, hf⟩ := bnd hf
  refine r_callV (lv := 1) dX8_readsChains_6 yo_X8_byteAt yi_X8_byteAt ml_X8_176 ya_X8_byteAt sh_66 ⟨_, rfl, rfl⟩ (Fits.vm (by decide)) rfl rfl (Nat.le_of_ble_eq_true rfl) (S_X8_byteAt x1_ (gI h 66 19) h  _ hv) ?_
  refine r_istore_nA dX8_readsChains_9 (by decide) ?_
  refine r_iload_n dX8_readsChains_10 rfl ?_
  refine r_bipush (v := 119) dX8_readsChains_11 (by decide) ?_
  refine r_jn (P := fun t2 => Run Y_X8_readsChains (VM 3 (some (.int r.1), r.2)) 24 [some (.ref 66), some (.int x1_), some (.int v1), none, none, none] [] h) hf (fun t2 hf => ?_) (fun j3 ih4 hf => ?_)
  · refine r_aload_n dX8_readsChains_24 rfl ?_
    refine r_dup dX8_readsChains_25 rfl ?_
    refine r_getI dX8_readsChains_26 sh_66 ft_X8_173 rfl ?_
    refine r_iconst (v := 1) dX8_readsChains_29 (by decide) ?_
    refine r_iadd dX8_readsChains_30 ?_
    refine r_putI dX8_readsChains_31 sh_66 ft_X8_173 rfl hf fun h5 hf => ?_
    refine r_aload_n dX8_readsChains_34 rfl ?_
    refine r_iload_n dX8_readsChains_35 rfl ?_
    refine r_bipush (v := 114) dX8_readsChains_36 (by decide) ?_
    refine r_reg (P := fun t6 => Run Y_X8_readsChains (VM 3 (some (.int r.1), r.2)) 46 [some (.ref 66), some (.int x1_), some (.int v1), none, none, none] [.int t6, .ref 66] h5) hf (fun t6 hf => ?_) (fun t6 key7 hf => ?_)
    · refine r_putZ dX8_readsChains_46 sh_66 ft_X8_192 rfl hf fun h9 hf => ?_
      refine r_aload_n dX8_readsChains_49 rfl ?_
      refine r_aload_n dX8_readsChains_50 rfl ?_
      refine r_getI dX8_readsChains_51 sh_66 ft_X8_170 rfl ?_
      refine r_iconst (v := 2) dX8_readsChains_54 (by decide) ?_
      refine r_reg (P := fun t11 => Run Y_X8_readsChains (VM 3 (some (.int r.1), r.2)) 90 [some (.ref 66), some (.int x1_), some (.int v1), none, none, none] [.int t11, .ref 66] h9) hf (fun t11 hf => ?_) (fun t11 key12 hf => ?_)
      · refine r_putI dX8_readsChains_90 sh_66 ft_X8_196 rfl hf fun h16 hf => ?_
        refine r_iconst (v := 0) dX8_readsChains_93 (by decide) ?_
        refine r_istore_nA dX8_readsChains_94 (by decide) ?_
        refine r_fix (σ := Int32 × Hp) (fun s17 => [some (.ref 66), some (.int x1_), some (.int v1), some (.int s17.1), none, none]) (fun s17 => s17.2) (fun self18 ih19 s17 hf => ?_) F ((0 : Int32), h16) hf
        refine r_iload_n dX8_readsChains_95 rfl ?_
        refine r_aload_n dX8_readsChains_96 rfl ?_
        refine r_getI dX8_readsChains_97 sh_66 ft_X8_196 rfl ?_
        refine r_icmp_ge 202 dX8_readsChains_100 (by decide) hf (fun c33 hf => ?_) (fun c33 hf => ?_)
        · refine r_iconst (v := 1) dX8_readsChains_202 (by decide) ?_
          exact e_zH dX8_readsChains_203 rfl hf
        · refine r_aload_n dX8_readsChains_103 rfl ?_
          refine r_iload_n dX8_readsChains_104 rfl ?_
          refine r_aload_n dX8_readsChains_105 rfl ?_
          refine r_getI dX8_readsChains_106 sh_66 ft_X8_173 rfl ?_
          obtain ⟨v20, hv, hf⟩ := bnd hf
          refine r_callV (lv := 1) dX8_readsChains_109 yo_X8_byteAt yi_X8_byteAt ml_X8_176 ya_X8_byteAt sh_66 ⟨_, rfl, rfl⟩ (Fits.vm (by decide)) rfl rfl (Nat.le_of_ble_eq_true rfl) (S_X8_byteAt x1_ (gI s17.2 66 19) s17.2  _ hv) ?_
          refine r_bipush (v := 48) dX8_readsChains_112 (by decide) ?_
          refine r_isub dX8_readsChains_114 ?_
          refine r_istoreA dX8_readsChains_115 (by decide) ?_
          refine r_iload_n dX8_readsChains_117 rfl ?_
          refine r_iconst (v := 1) dX8_readsChains_118 (by decide) ?_
          refine r_iadd dX8_readsChains_119 ?_
          refine r_aload_n dX8_readsChains_120 rfl ?_
          refine r_getI dX8_readsChains_121 sh_66 ft_X8_170 rfl ?_
          refine r_irem dX8_readsChains_124 hf fun v21 hf => ?_
          refine r_istoreA dX8_readsChains_125 (by decide) ?_
          refine r_iload dX8_readsChains_127 rfl ?_
          refine r_iconst (v := 1) dX8_readsChains_129 (by decide) ?_
          refine r_bipush (v := 9) dX8_readsChains_130 (by decide) ?_
          obtain ⟨v22, hv, hf⟩ := bnd hf
          refine r_callS (lv := 1) dX8_readsChains_132 yo_X8_in ys_X8_in ml_X8_133 ya_X8_in (Fits.vm (by decide)) rfl rfl (Nat.le_of_ble_eq_true rfl) (S_X8_in (v20 - (48 : Int32)) (1 : Int32) (9 : Int32) s17.2  _ hv) ?_
          refine r_if_eq 176 dX8_readsChains_135 (by decide) hf (fun c32 hf => ?_) (fun c32 hf => ?_)
          · refine r_iconst (v := 0) dX8_readsChains_176 (by decide) ?_
            exact e_zH dX8_readsChains_177 rfl hf
          · refine r_aload_n dX8_readsChains_138 rfl ?_
            refine r_getS (b := 80) dX8_readsChains_139 sh_66 ft_X8_50 rfl rfl ?_
            refine r_iload_n dX8_readsChains_142 rfl ?_
            refine r_iald dX8_readsChains_143 sh_80 hf fun v23 hf => ?_
            refine r_aload_n dX8_readsChains_144 rfl ?_
            refine r_getS (b := 80) dX8_readsChains_145 sh_66 ft_X8_50 rfl rfl ?_
            refine r_iload dX8_readsChains_148 rfl ?_
            refine r_iald dX8_readsChains_150 sh_80 hf fun v24 hf => ?_
            refine r_iconst (v := 4) dX8_readsChains_151 (by decide) ?_
            obtain ⟨v25, hv, hf⟩ := bnd hf
            refine r_callS (lv := 2) dX8_readsChains_152 yo_X8_farIn ys_X8_farIn ml_X8_199 ya_X8_farIn (Fits.vm (by decide)) rfl rfl (Nat.le_of_ble_eq_true rfl) (S_X8_farIn v23 v24 (4 : Int32) s17.2  _ hv) ?_
            refine r_iload dX8_readsChains_155 rfl ?_
            refine r_aload_n dX8_readsChains_157 rfl ?_
            refine r_getS (b := 79) dX8_readsChains_158 sh_66 ft_X8_47 rfl rfl ?_
            refine r_iload_n dX8_readsChains_161 rfl ?_
            refine r_iald dX8_readsChains_162 sh_79 hf fun v26 hf => ?_
            refine r_aload_n dX8_readsChains_163 rfl ?_
            refine r_getS (b := 79) dX8_readsChains_164 sh_66 ft_X8_47 rfl rfl ?_
            refine r_iload dX8_readsChains_167 rfl ?_
            refine r_iald dX8_readsChains_169 sh_79 hf fun v27 hf => ?_
            obtain ⟨v28, hv, hf⟩ := bnd hf
            refine r_callS (lv := 2) dX8_readsChains_170 yo_X8_reachBy ys_X8_reachBy ml_X8_203 ya_X8_reachBy (Fits.vm (by decide)) rfl rfl (Nat.le_of_ble_eq_true rfl) (S_X8_reachBy (v20 - (48 : Int32)) v26 v27 s17.2  _ hv) ?_
            refine r_icmp_le 178 dX8_readsChains_173 (by decide) hf (fun c31 hf => ?_) (fun c31 hf => ?_)
            · refine r_aload_n dX8_readsChains_178 rfl ?_
              refine r_getS (b := 81) dX8_readsChains_179 sh_66 ft_X8_53 rfl rfl ?_
              refine r_iload_n dX8_readsChains_182 rfl ?_
              refine r_iload dX8_readsChains_183 rfl ?_
              refine r_iast dX8_readsChains_185 sh_81 hf fun h29 hf => ?_
              refine r_aload_n dX8_readsChains_186 rfl ?_
              refine r_dup dX8_readsChains_187 rfl ?_
              refine r_getI dX8_readsChains_188 sh_66 ft_X8_173 rfl ?_
              refine r_iconst (v := 1) dX8_readsChains_191 (by decide) ?_
              refine r_iadd dX8_readsChains_192 ?_
              refine r_putI dX8_readsChains_193 sh_66 ft_X8_173 rfl hf fun h30 hf => ?_
              refine r_iincA (v := 1) dX8_readsChains_196 rfl (by decide) (by decide) ?_
              refine r_goto 95 dX8_readsChains_199 (by decide) ?_
              refine r_lt (ll_s (ll_s (ll_s (ll_s (ll_n (ll_n ll_0)))))) ?_
              exact ih19 _ hf
            · refine r_iconst (v := 0) dX8_readsChains_176 (by decide) ?_
              exact e_zH dX8_readsChains_177 rfl hf
      · refine r_icmp_ge 62 dX8_readsChains_55 (by decide) hf (fun c15 hf => ?_) (fun c15 hf => ?_)
        · refine r_aload_n dX8_readsChains_62 rfl ?_
          refine r_getI dX8_readsChains_63 sh_66 ft_X8_192 rfl ?_
          refine r_if_eq 84 dX8_readsChains_66 (by decide) hf (fun c14 hf => ?_) (fun c14 hf => ?_)
          · refine r_aload_n dX8_readsChains_84 rfl ?_
            refine r_getI dX8_readsChains_85 sh_66 ft_X8_170 rfl ?_
            refine r_iconst (v := 1) dX8_readsChains_88 (by decide) ?_
            refine r_isub dX8_readsChains_89 ?_
            cases hf; exact key12
          · refine r_aload_n dX8_readsChains_69 rfl ?_
            refine r_getI dX8_readsChains_70 sh_66 ft_X8_170 rfl ?_
            refine r_iconst (v := 2) dX8_readsChains_73 (by decide) ?_
            refine r_icmp_le 84 dX8_readsChains_74 (by decide) hf (fun c13 hf => ?_) (fun c13 hf => ?_)
            · refine r_aload_n dX8_readsChains_84 rfl ?_
              refine r_getI dX8_readsChains_85 sh_66 ft_X8_170 rfl ?_
              refine r_iconst (v := 1) dX8_readsChains_88 (by decide) ?_
              refine r_isub dX8_readsChains_89 ?_
              cases hf; exact key12
            · refine r_aload_n dX8_readsChains_77 rfl ?_
              refine r_getI dX8_readsChains_78 sh_66 ft_X8_170 rfl ?_
              refine r_goto 90 dX8_readsChains_81 (by decide) ?_
              cases hf; exact key12
        · refine r_iconst (v := 0) dX8_readsChains_58 (by decide) ?_
          refine r_goto 90 dX8_readsChains_59 (by decide) ?_
          cases hf; exact key12
    · refine r_icmp_ne 45 dX8_readsChains_38 (by decide) hf (fun c8 hf => ?_) (fun c8 hf => ?_)
      · refine r_iconst (v := 0) dX8_readsChains_45 (by decide) ?_
        cases hf; exact key7
      · refine r_iconst (v := 1) dX8_readsChains_41 (by decide) ?_
        refine r_goto 46 dX8_readsChains_42 (by decide) ?_
        cases hf; exact key7
  refine r_icmp_eq 24 dX8_readsChains_13 (by decide) hf (fun c35 hf => ?_) (fun c35 hf => ?_)
  · exact ih4 _ hf
  · refine r_iload_n dX8_readsChains_16 rfl ?_
    refine r_bipush (v := 114) dX8_readsChains_17 (by decide) ?_
    refine r_icmp_eq 24 dX8_readsChains_19 (by decide) hf (fun c34 hf => ?_) (fun c34 hf => ?_)
    · exact ih4 _ hf
    · refine r_iconst (v := 0) dX8_readsChains_22 (by decide) ?_
      exact e_zH dX8_readsChains_23 rfl hf
def f_X8_faultOf (F : Nat) (x1_ : Int32) (h : Hp) : Option (Int32 × Hp) :=
  nm (sI h 66 19 (0 : Int32)) fun h1 =>
  fix (σ := Hp) (ρ := (Int32 × Hp)) (fun self3 s2 =>
    (ldI s2 71 x1_).bind fun v5 =>
    jn (α := (Unit) → Option (Int32 × Hp)) (fun t6 =>
      (f_X8_readsLines F x1_ s2).bind fun v9 =>
      (if v9.1 = 0 then (
        some ((gI v9.2 66 19), v9.2))
      else (
        (f_X8_readsChains F x1_ v9.2).bind fun v10 =>
        (if v10.1 = 0 then (
          some ((gI v10.2 66 19), v10.2))
        else (
          fix (σ := Hp) (ρ := (Int32 × Hp)) (fun self12 s11 =>
            (ldI s11 71 x1_).bind fun v14 =>
            (if v14 ≤ (gI s11 66 19) then (
              some ((-9 : Int32), s11))
            else (
              (f_X8_byteAt x1_ (gI s11 66 19) s11).bind fun v15 =>
              (if v15 = (32 : Int32) then (
                nm (sI s11 66 19 ((gI s11 66 19) + (1 : Int32))) fun h16 =>
                self12 h16)
              else (
                some ((gI s11 66 19), s11)))))) F v10.2))))) fun j7 =>
    (if v5 ≤ (gI s2 66 19) then (
      j7 ())
    else (
      (f_X8_byteAt x1_ (gI s2 66 19) s2).bind fun v21 =>
      (if v21 = (32 : Int32) then (
        nm (sI s2 66 19 ((gI s2 66 19) + (1 : Int32))) fun h22 =>
        self3 h22)
      else (
        j7 ()))))) F h1
set_option maxRecDepth 100000 in
set_option maxHeartbeats 4000000 in
theorem S_X8_faultOf (F : Nat) (x1_ : Int32) (h : Hp) (r : (Int32 × Hp)) (hf : f_X8_faultOf F x1_ h = some r) : MetP Y_X8_faultOf 4 [.ref 66, .int x1_] h (some (.int r.1), r.2) := by
  unfold f_X8_faultOf at hf
  refine met_of yo_X8_faultOf (Nat.le_of_ble_eq_true rfl) ?_
  show Run Y_X8_faultOf _ 0 [some (.ref 66), some (.int x1_)] [] h
  refine r_aload_n dX8_faultOf_0 rfl ?_
  refine r_iconst (v := 0) dX8_faultOf_1 (by decide) ?_
  refine r_putI dX8_faultOf_2 sh_66 ft_X8_173 rfl hf fun h1 hf => ?_
  refine r_fix (σ := Hp) (fun s2 => [some (.ref 66), some (.int x1_)]) (fun s2 => s2) (fun self3 ih4 s2 hf => ?_) F h1 hf
  refine r_aload_n dX8_faultOf_5 rfl ?_
  refine r_getI dX8_faultOf_6 sh_66 ft_X8_173 rfl ?_
  refine r_aload_n dX8_faultOf_9 rfl ?_
  refine r_getS (b := 71) dX8_faultOf_10 sh_66 ft_X8_22 rfl rfl ?_
  refine r_iload_n dX8_faultOf_13 rfl ?_
  refine r_iald dX8_faultOf_14 sh_71 hf fun v5 hf => ?_
  refine r_jn (P := fun t6 => Run Y_X8_faultOf (VM 4 (some (.int r.1), r.2)) 45 [some (.ref 66), some (.int x1_)] [] s2) hf (fun t6 hf => ?_) (fun j7 ih8 hf => ?_)
  · refine r_aload_n dX8_faultOf_45 rfl ?_
    refine r_iload_n dX8_faultOf_46 rfl ?_
    obtain ⟨v9, hv, hf⟩ := bnd hf
    refine r_callV (lv := 3) dX8_faultOf_47 yo_X8_readsLines yi_X8_readsLines ml_X8_206 ya_X8_readsLines sh_66 ⟨_, rfl, rfl⟩ (Fits.vm (by decide)) rfl rfl (Nat.le_of_ble_eq_true rfl) (S_X8_readsLines F x1_ s2  _ hv) ?_
    refine r_if_eq 61 dX8_faultOf_50 (by decide) hf (fun c20 hf => ?_) (fun c20 hf => ?_)
    · refine r_aload_n dX8_faultOf_61 rfl ?_
      refine r_getI dX8_faultOf_62 sh_66 ft_X8_173 rfl ?_
      exact e_iH dX8_faultOf_65 rfl hf
    · refine r_aload_n dX8_faultOf_53 rfl ?_
      refine r_iload_n dX8_faultOf_54 rfl ?_
      obtain ⟨v10, hv, hf⟩ := bnd hf
      refine r_callV (lv := 3) dX8_faultOf_55 yo_X8_readsChains yi_X8_readsChains ml_X8_209 ya_X8_readsChains sh_66 ⟨_, rfl, rfl⟩ (Fits.vm (by decide)) rfl rfl (Nat.le_of_ble_eq_true rfl) (S_X8_readsChains F x1_ v9.2  _ hv) ?_
      refine r_if_ne 66 dX8_faultOf_58 (by decide) hf (fun c19 hf => ?_) (fun c19 hf => ?_)
      · refine r_fix (σ := Hp) (fun s11 => [some (.ref 66), some (.int x1_)]) (fun s11 => s11) (fun self12 ih13 s11 hf => ?_) F v10.2 hf
        refine r_aload_n dX8_faultOf_66 rfl ?_
        refine r_getI dX8_faultOf_67 sh_66 ft_X8_173 rfl ?_
        refine r_aload_n dX8_faultOf_70 rfl ?_
        refine r_getS (b := 71) dX8_faultOf_71 sh_66 ft_X8_22 rfl rfl ?_
        refine r_iload_n dX8_faultOf_74 rfl ?_
        refine r_iald dX8_faultOf_75 sh_71 hf fun v14 hf => ?_
        refine r_icmp_ge 111 dX8_faultOf_76 (by decide) hf (fun c18 hf => ?_) (fun c18 hf => ?_)
        · refine r_bipush (v := -9) dX8_faultOf_111 (by decide) ?_
          exact e_iH dX8_faultOf_113 rfl hf
        · refine r_aload_n dX8_faultOf_79 rfl ?_
          refine r_iload_n dX8_faultOf_80 rfl ?_
          refine r_aload_n dX8_faultOf_81 rfl ?_
          refine r_getI dX8_faultOf_82 sh_66 ft_X8_173 rfl ?_
          obtain ⟨v15, hv, hf⟩ := bnd hf
          refine r_callV (lv := 1) dX8_faultOf_85 yo_X8_byteAt yi_X8_byteAt ml_X8_176 ya_X8_byteAt sh_66 ⟨_, rfl, rfl⟩ (Fits.vm (by decide)) rfl rfl (Nat.le_of_ble_eq_true rfl) (S_X8_byteAt x1_ (gI s11 66 19) s11  _ hv) ?_
          refine r_bipush (v := 32) dX8_faultOf_88 (by decide) ?_
          refine r_icmp_eq 98 dX8_faultOf_90 (by decide) hf (fun c17 hf => ?_) (fun c17 hf => ?_)
          · refine r_aload_n dX8_faultOf_98 rfl ?_
            refine r_dup dX8_faultOf_99 rfl ?_
            refine r_getI dX8_faultOf_100 sh_66 ft_X8_173 rfl ?_
            refine r_iconst (v := 1) dX8_faultOf_103 (by decide) ?_
            refine r_iadd dX8_faultOf_104 ?_
            refine r_putI dX8_faultOf_105 sh_66 ft_X8_173 rfl hf fun h16 hf => ?_
            refine r_goto 66 dX8_faultOf_108 (by decide) ?_
            exact ih13 _ hf
          · refine r_aload_n dX8_faultOf_93 rfl ?_
            refine r_getI dX8_faultOf_94 sh_66 ft_X8_173 rfl ?_
            exact e_iH dX8_faultOf_97 rfl hf
      · refine r_aload_n dX8_faultOf_61 rfl ?_
        refine r_getI dX8_faultOf_62 sh_66 ft_X8_173 rfl ?_
        exact e_iH dX8_faultOf_65 rfl hf
  refine r_icmp_ge 45 dX8_faultOf_15 (by decide) hf (fun c24 hf => ?_) (fun c24 hf => ?_)
  · exact ih8 _ hf
  · refine r_aload_n dX8_faultOf_18 rfl ?_
    refine r_iload_n dX8_faultOf_19 rfl ?_
    refine r_aload_n dX8_faultOf_20 rfl ?_
    refine r_getI dX8_faultOf_21 sh_66 ft_X8_173 rfl ?_
    obtain ⟨v21, hv, hf⟩ := bnd hf
    refine r_callV (lv := 1) dX8_faultOf_24 yo_X8_byteAt yi_X8_byteAt ml_X8_176 ya_X8_byteAt sh_66 ⟨_, rfl, rfl⟩ (Fits.vm (by decide)) rfl rfl (Nat.le_of_ble_eq_true rfl) (S_X8_byteAt x1_ (gI s2 66 19) s2  _ hv) ?_
    refine r_bipush (v := 32) dX8_faultOf_27 (by decide) ?_
    refine r_icmp_ne 45 dX8_faultOf_29 (by decide) hf (fun c23 hf => ?_) (fun c23 hf => ?_)
    · exact ih8 _ hf
    · refine r_aload_n dX8_faultOf_32 rfl ?_
      refine r_dup dX8_faultOf_33 rfl ?_
      refine r_getI dX8_faultOf_34 sh_66 ft_X8_173 rfl ?_
      refine r_iconst (v := 1) dX8_faultOf_37 (by decide) ?_
      refine r_iadd dX8_faultOf_38 ?_
      refine r_putI dX8_faultOf_39 sh_66 ft_X8_173 rfl hf fun h22 hf => ?_
      refine r_goto 5 dX8_faultOf_42 (by decide) ?_
      exact ih4 _ hf
