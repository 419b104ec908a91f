def f_X8_comes (F : Nat) (x1_ : Int32) (x2_ : Int32) (h : Hp) : Option (Int32 × Hp) :=
  (f_X8_isRow x1_ h).bind fun v1 =>
  (if v1 = 0 then (
    some ((-1 : Int32), h))
  else (
    (f_X8_isRow x2_ h).bind fun v2 =>
    (if v2 = 0 then (
      some ((-1 : Int32), h))
    else (
      (if (gI h 66 10) = 0 then (
        some ((-4 : Int32), h))
      else (
        (ldI h 68 x1_).bind fun v3 =>
        jn (α := (Unit) → Option (Int32 × Hp)) (fun t4 =>
          (f_X8_meets (1 : Int32) h).bind fun v7 =>
          some (v7.1, v7.2)) fun j5 =>
        (if v3 < 0 then (
          j5 ())
        else (
          (ldI h 68 x2_).bind fun v8 =>
          (if 0 ≤ v8 then (
            (ldI h 68 x1_).bind fun v9 =>
            jn (α := (Unit) → Option (Int32 × Hp)) (fun t10 =>
              (f_X8_meets (5 : Int32) h).bind fun v13 =>
              some (v13.1, v13.2)) fun j11 =>
            (if v9 = (gI h 66 10) then (
              (ldI h 68 x2_).bind fun v14 =>
              (if v14 = (gI h 66 10) then (
                (f_X8_isStand F x1_ h).bind fun v15 =>
                jn (α := (Hp) → Option (Int32 × Hp)) (fun t16 =>
                  (f_X8_meets (3 : Int32) t16).bind fun v19 =>
                  some (v19.1, v19.2)) fun j17 =>
                (if v15.1 = 0 then (
                  j17 v15.2)
                else (
                  (f_X8_isStand F x2_ v15.2).bind fun v20 =>
                  (if v20.1 = 0 then (
                    j17 v20.2)
                  else (
                    (f_X8_codeOf F v20.2).bind fun v21 =>
                    (f_X8_isStand F x1_ v20.2).bind fun v22 =>
                    (f_X8_codeOf F v22.2).bind fun v23 =>
                    (f_X8_layStands F v23 v22.2).bind fun h24 =>
                    (ldI h24 93 v21).bind fun v25 =>
                    (Option.bind (α := Int32) (
                      (if v25 = (-9 : Int32) then (
                        some (0 : Int32))
                      else (
                        some (1 : Int32)))) fun t26 =>
                    some (t26, h24)))))))
              else (
                j11 ())))
            else (
              j11 ())))
          else (
            j5 ()))))))))))
set_option maxRecDepth 100000 in
set_option maxHeartbeats 4000000 in
theorem S_X8_comes (F : Nat) (x1_ : Int32) (x2_ : Int32) (h : Hp) (r : (Int32 × Hp)) (hf : f_X8_comes F x1_ x2_ h = some r) : MetP Y_X8_comes 8 [.ref 66, .int x1_, .int x2_] h (some (.int r.1), r.2) := by
  unfold f_X8_comes at hf
  refine met_of yo_X8_comes (Nat.le_of_ble_eq_true rfl) ?_
  show Run Y_X8_comes _ 0 [some (.ref 66), some (.int x1_), some (.int x2_), none] [] h
  refine r_iload_n dX8_comes_0 rfl ?_
  obtain ⟨v1, hv, hf⟩ := bnd hf
  refine r_callS (lv := 2) dX8_comes_1 yo_X8_isRow ys_X8_isRow ml_X8_140 ya_X8_isRow (Fits.vm (by decide)) rfl rfl (Nat.le_of_ble_eq_true rfl) (S_X8_isRow x1_ h  _ hv) ?_
  refine r_if_eq 14 dX8_comes_4 (by decide) hf (fun c37 hf => ?_) (fun c37 hf => ?_)
  · refine r_iconst (v := -1) dX8_comes_14 (by decide) ?_
    exact e_iH dX8_comes_15 rfl hf
  · refine r_iload_n dX8_comes_7 rfl ?_
    obtain ⟨v2, hv, hf⟩ := bnd hf
    refine r_callS (lv := 2) dX8_comes_8 yo_X8_isRow ys_X8_isRow ml_X8_140 ya_X8_isRow (Fits.vm (by decide)) rfl rfl (Nat.le_of_ble_eq_true rfl) (S_X8_isRow x2_ h  _ hv) ?_
    refine r_if_ne 16 dX8_comes_11 (by decide) hf (fun c36 hf => ?_) (fun c36 hf => ?_)
    · refine r_aload_n dX8_comes_16 rfl ?_
      refine r_getI dX8_comes_17 sh_66 ft_X8_221 rfl ?_
      refine r_if_ne 26 dX8_comes_20 (by decide) hf (fun c35 hf => ?_) (fun c35 hf => ?_)
      · refine r_aload_n dX8_comes_26 rfl ?_
        refine r_getS (b := 68) dX8_comes_27 sh_66 ft_X8_13 rfl rfl ?_
        refine r_iload_n dX8_comes_30 rfl ?_
        refine r_iald dX8_comes_31 sh_68 hf fun v3 hf => ?_
        refine r_jn (P := fun t4 => Run Y_X8_comes (VM 8 (some (.int r.1), r.2)) 44 [some (.ref 66), some (.int x1_), some (.int x2_), none] [] h) hf (fun t4 hf => ?_) (fun j5 ih6 hf => ?_)
        · refine r_aload_n dX8_comes_44 rfl ?_
          refine r_iconst (v := 1) dX8_comes_45 (by decide) ?_
          obtain ⟨v7, hv, hf⟩ := bnd hf
          refine r_callV (lv := 1) dX8_comes_46 yo_X8_meets yi_X8_meets ml_X8_144 ya_X8_meets sh_66 ⟨_, rfl, rfl⟩ (Fits.vm (by decide)) rfl rfl (Nat.le_of_ble_eq_true rfl) (S_X8_meets (1 : Int32) h  _ hv) ?_
          exact e_iH dX8_comes_49 rfl hf
        refine r_if_lt 44 dX8_comes_32 (by decide) hf (fun c34 hf => ?_) (fun c34 hf => ?_)
        · exact ih6 _ hf
        · refine r_aload_n dX8_comes_35 rfl ?_
          refine r_getS (b := 68) dX8_comes_36 sh_66 ft_X8_13 rfl rfl ?_
          refine r_iload_n dX8_comes_39 rfl ?_
          refine r_iald dX8_comes_40 sh_68 hf fun v8 hf => ?_
          refine r_if_ge 50 dX8_comes_41 (by decide) hf (fun c33 hf => ?_) (fun c33 hf => ?_)
          · refine r_aload_n dX8_comes_50 rfl ?_
            refine r_getS (b := 68) dX8_comes_51 sh_66 ft_X8_13 rfl rfl ?_
            refine r_iload_n dX8_comes_54 rfl ?_
            refine r_iald dX8_comes_55 sh_68 hf fun v9 hf => ?_
            refine r_aload_n dX8_comes_56 rfl ?_
            refine r_getI dX8_comes_57 sh_66 ft_X8_221 rfl ?_
            refine r_jn (P := fun t10 => Run Y_X8_comes (VM 8 (some (.int r.1), r.2)) 76 [some (.ref 66), some (.int x1_), some (.int x2_), none] [] h) hf (fun t10 hf => ?_) (fun j11 ih12 hf => ?_)
            · refine r_aload_n dX8_comes_76 rfl ?_
              refine r_iconst (v := 5) dX8_comes_77 (by decide) ?_
              obtain ⟨v13, hv, hf⟩ := bnd hf
              refine r_callV (lv := 1) dX8_comes_78 yo_X8_meets yi_X8_meets ml_X8_144 ya_X8_meets sh_66 ⟨_, rfl, rfl⟩ (Fits.vm (by decide)) rfl rfl (Nat.le_of_ble_eq_true rfl) (S_X8_meets (5 : Int32) h  _ hv) ?_
              exact e_iH dX8_comes_81 rfl hf
            refine r_icmp_ne 76 dX8_comes_60 (by decide) hf (fun c32 hf => ?_) (fun c32 hf => ?_)
            · exact ih12 _ hf
            · refine r_aload_n dX8_comes_63 rfl ?_
              refine r_getS (b := 68) dX8_comes_64 sh_66 ft_X8_13 rfl rfl ?_
              refine r_iload_n dX8_comes_67 rfl ?_
              refine r_iald dX8_comes_68 sh_68 hf fun v14 hf => ?_
              refine r_aload_n dX8_comes_69 rfl ?_
              refine r_getI dX8_comes_70 sh_66 ft_X8_221 rfl ?_
              refine r_icmp_eq 82 dX8_comes_73 (by decide) hf (fun c31 hf => ?_) (fun c31 hf => ?_)
              · refine r_aload_n dX8_comes_82 rfl ?_
                refine r_iload_n dX8_comes_83 rfl ?_
                obtain ⟨v15, hv, hf⟩ := bnd hf
                refine r_callV (lv := 6) dX8_comes_84 yo_X8_isStand yi_X8_isStand ml_X8_361 ya_X8_isStand sh_66 ⟨_, rfl, rfl⟩ (Fits.vm (by decide)) rfl rfl (Nat.le_of_ble_eq_true rfl) (S_X8_isStand F x1_ h  _ hv) ?_
                refine r_jn (P := fun t16 => Run Y_X8_comes (VM 8 (some (.int r.1), r.2)) 98 [some (.ref 66), some (.int x1_), some (.int x2_), none] [] t16) hf (fun t16 hf => ?_) (fun j17 ih18 hf => ?_)
                · refine r_aload_n dX8_comes_98 rfl ?_
                  refine r_iconst (v := 3) dX8_comes_99 (by decide) ?_
                  obtain ⟨v19, hv, hf⟩ := bnd hf
                  refine r_callV (lv := 1) dX8_comes_100 yo_X8_meets yi_X8_meets ml_X8_144 ya_X8_meets sh_66 ⟨_, rfl, rfl⟩ (Fits.vm (by decide)) rfl rfl (Nat.le_of_ble_eq_true rfl) (S_X8_meets (3 : Int32) t16  _ hv) ?_
                  exact e_iH dX8_comes_103 rfl hf
                refine r_if_eq 98 dX8_comes_87 (by decide) hf (fun c30 hf => ?_) (fun c30 hf => ?_)
                · exact ih18 _ hf
                · refine r_aload_n dX8_comes_90 rfl ?_
                  refine r_iload_n dX8_comes_91 rfl ?_
                  obtain ⟨v20, hv, hf⟩ := bnd hf
                  refine r_callV (lv := 6) dX8_comes_92 yo_X8_isStand yi_X8_isStand ml_X8_361 ya_X8_isStand sh_66 ⟨_, rfl, rfl⟩ (Fits.vm (by decide)) rfl rfl (Nat.le_of_ble_eq_true rfl) (S_X8_isStand F x2_ v15.2  _ hv) ?_
                  refine r_if_ne 104 dX8_comes_95 (by decide) hf (fun c29 hf => ?_) (fun c29 hf => ?_)
                  · refine r_aload_n dX8_comes_104 rfl ?_
                    obtain ⟨v21, hv, hf⟩ := bnd hf
                    refine r_callV (lv := 1) dX8_comes_105 yo_X8_codeOf yi_X8_codeOf ml_X8_336 ya_X8_codeOf sh_66 ⟨_, rfl, rfl⟩ (Fits.vm (by decide)) rfl rfl (Nat.le_of_ble_eq_true rfl) (S_X8_codeOf F v20.2  _ hv) ?_
                    refine r_istore_nA dX8_comes_108 (by decide) ?_
                    refine r_aload_n dX8_comes_109 rfl ?_
                    refine r_iload_n dX8_comes_110 rfl ?_
                    obtain ⟨v22, hv, hf⟩ := bnd hf
                    refine r_callV (lv := 6) dX8_comes_111 yo_X8_isStand yi_X8_isStand ml_X8_361 ya_X8_isStand sh_66 ⟨_, rfl, rfl⟩ (Fits.vm (by decide)) rfl rfl (Nat.le_of_ble_eq_true rfl) (S_X8_isStand F x1_ v20.2  _ hv) ?_
                    refine r_pop dX8_comes_114 rfl ?_
                    refine r_aload_n dX8_comes_115 rfl ?_
                    refine r_aload_n dX8_comes_116 rfl ?_
                    obtain ⟨v23, hv, hf⟩ := bnd hf
                    refine r_callV (lv := 1) dX8_comes_117 yo_X8_codeOf yi_X8_codeOf ml_X8_336 ya_X8_codeOf sh_66 ⟨_, rfl, rfl⟩ (Fits.vm (by decide)) rfl rfl (Nat.le_of_ble_eq_true rfl) (S_X8_codeOf F v22.2  _ hv) ?_
                    obtain ⟨h24, hv, hf⟩ := bnd hf
                    refine r_callV (lv := 7) dX8_comes_120 yo_X8_layStands yi_X8_layStands ml_X8_339 ya_X8_layStands sh_66 ⟨_, rfl, rfl⟩ (Fits.vm (by decide)) rfl rfl (Nat.le_of_ble_eq_true rfl) (S_X8_layStands F v23 v22.2  _ hv) ?_
                    refine r_aload_n dX8_comes_123 rfl ?_
                    refine r_getS (b := 93) dX8_comes_124 sh_66 ft_X8_90 rfl rfl ?_
                    refine r_iload_n dX8_comes_127 rfl ?_
                    refine r_iald dX8_comes_128 sh_93 hf fun v25 hf => ?_
                    refine r_bipush (v := -9) dX8_comes_129 (by decide) ?_
                    refine r_reg (P := fun t26 => Run Y_X8_comes (VM 8 (some (.int r.1), r.2)) 139 [some (.ref 66), some (.int x1_), some (.int x2_), some (.int v21)] [.int t26] h24) hf (fun t26 hf => ?_) (fun t26 key27 hf => ?_)
                    · exact e_iH dX8_comes_139 rfl hf
                    · refine r_icmp_ne 138 dX8_comes_131 (by decide) hf (fun c28 hf => ?_) (fun c28 hf => ?_)
                      · refine r_iconst (v := 1) dX8_comes_138 (by decide) ?_
                        cases hf; exact key27
                      · refine r_iconst (v := 0) dX8_comes_134 (by decide) ?_
                        refine r_goto 139 dX8_comes_135 (by decide) ?_
                        cases hf; exact key27
                  · exact ih18 _ hf
              · exact ih12 _ hf
          · exact ih6 _ hf
      · refine r_bipush (v := -4) dX8_comes_23 (by decide) ?_
        exact e_iH dX8_comes_25 rfl hf
    · refine r_iconst (v := -1) dX8_comes_14 (by decide) ?_
      exact e_iH dX8_comes_15 rfl hf
def f_X8_meetsWant (F : Nat) (x1_ : Int32) (x2_ : Int32) (h : Hp) : Option (Int32 × Hp) :=
  (ldI h 98 x1_).bind fun v1 =>
  (f_X8_layStands F v1 h).bind fun h2 =>
  fix (σ := Int32 × Int32 × Hp) (ρ := (Int32 × Hp)) (fun self4 s3 =>
    (if (gI s3.2.2 66 42) ≤ s3.2.1 then (
      (if s3.1 = (-9 : Int32) then (
        (ckZ (0 : Int32)).bind fun z => some (z, s3.2.2))
      else (
        (stI s3.2.2 98 (x1_ + (1 : Int32)) s3.1).bind fun h6 =>
        (ldI h6 99 x1_).bind fun v7 =>
        (ldI h6 93 s3.1).bind fun v8 =>
        (stI h6 99 (x1_ + (1 : Int32)) (v7 + v8)).bind fun h9 =>
        (ckZ (1 : Int32)).bind fun z => some (z, h9))))
    else (
      (ldI s3.2.2 92 s3.2.1).bind fun v11 =>
      (f_X8_lookAt F v11 s3.2.2).bind fun h12 =>
      (ldI h12 82 (x2_ / (100 : Int32))).bind fun v13 =>
      (Option.bind (α := Int32) (
        (if v13 = (rem32 x2_ (100 : Int32)) then (
          some (1 : Int32))
        else (
          some (0 : Int32)))) fun t14 =>
      (Option.bind (α := Int32) (
        (if t14 = 0 then (
          some (0 : Int32))
        else (
          (if s3.1 = (-9 : Int32) then (
            some (1 : Int32))
          else (
            (ldI h12 92 s3.2.1).bind fun v19 =>
            (ldI h12 93 v19).bind fun v20 =>
            (ldI h12 93 s3.1).bind fun v21 =>
            (if v20 = v21 then (
              (ldI h12 92 s3.2.1).bind fun v22 =>
              (if s3.1 ≤ v22 then (
                some (0 : Int32))
              else (
                some (1 : Int32))))
            else (
              some (0 : Int32)))))))) fun t17 =>
      (Option.bind (α := Int32) (
        (if t17 = 0 then (
          some s3.1)
        else (
          (ldI h12 92 s3.2.1).bind fun v29 =>
          some v29))) fun t27 =>
      self4 (t27, (s3.2.1 + 1), h12))))))) F ((-9 : Int32), (0 : Int32), h2)
set_option maxRecDepth 100000 in
set_option maxHeartbeats 4000000 in
theorem S_X8_meetsWant (F : Nat) (x1_ : Int32) (x2_ : Int32) (h : Hp) (r : (Int32 × Hp)) (hf : f_X8_meetsWant F x1_ x2_ h = some r) : MetP Y_X8_meetsWant 8 [.ref 66, .int x1_, .int x2_] h (some (.int r.1), r.2) := by
  unfold f_X8_meetsWant at hf
  refine met_of yo_X8_meetsWant (Nat.le_of_ble_eq_true rfl) ?_
  show Run Y_X8_meetsWant _ 0 [some (.ref 66), some (.int x1_), some (.int x2_), none, none, none, none] [] h
  refine r_aload_n dX8_meetsWant_0 rfl ?_
  refine r_aload_n dX8_meetsWant_1 rfl ?_
  refine r_getS (b := 98) dX8_meetsWant_2 sh_66 ft_X8_105 rfl rfl ?_
  refine r_iload_n dX8_meetsWant_5 rfl ?_
  refine r_iald dX8_meetsWant_6 sh_98 hf fun v1 hf => ?_
  obtain ⟨h2, hv, hf⟩ := bnd hf
  refine r_callV (lv := 7) dX8_meetsWant_7 yo_X8_layStands yi_X8_layStands ml_X8_339 ya_X8_layStands sh_66 ⟨_, rfl, rfl⟩ (Fits.vm (by decide)) rfl rfl (Nat.le_of_ble_eq_true rfl) (S_X8_layStands F v1 h  _ hv) ?_
  refine r_bipush (v := -9) dX8_meetsWant_10 (by decide) ?_
  refine r_istore_nA dX8_meetsWant_12 (by decide) ?_
  refine r_iconst (v := 0) dX8_meetsWant_13 (by decide) ?_
  refine r_istoreA dX8_meetsWant_14 (by decide) ?_
  refine r_fix (σ := Int32 × Int32 × Hp) (fun s3 => [some (.ref 66), some (.int x1_), some (.int x2_), some (.int s3.1), some (.int s3.2.1), none, none]) (fun s3 => s3.2.2) (fun self4 ih5 s3 hf => ?_) F ((-9 : Int32), (0 : Int32), h2) hf
  refine r_iload dX8_meetsWant_16 rfl ?_
  refine r_aload_n dX8_meetsWant_18 rfl ?_
  refine r_getI dX8_meetsWant_19 sh_66 ft_X8_326 rfl ?_
  refine r_icmp_ge 132 dX8_meetsWant_22 (by decide) hf (fun c31 hf => ?_) (fun c31 hf => ?_)
  · refine r_iload_n dX8_meetsWant_132 rfl ?_
    refine r_bipush (v := -9) dX8_meetsWant_133 (by decide) ?_
    refine r_icmp_ne 140 dX8_meetsWant_135 (by decide) hf (fun c10 hf => ?_) (fun c10 hf => ?_)
    · refine r_aload_n dX8_meetsWant_140 rfl ?_
      refine r_getS (b := 98) dX8_meetsWant_141 sh_66 ft_X8_105 rfl rfl ?_
      refine r_iload_n dX8_meetsWant_144 rfl ?_
      refine r_iconst (v := 1) dX8_meetsWant_145 (by decide) ?_
      refine r_iadd dX8_meetsWant_146 ?_
      refine r_iload_n dX8_meetsWant_147 rfl ?_
      refine r_iast dX8_meetsWant_148 sh_98 hf fun h6 hf => ?_
      refine r_aload_n dX8_meetsWant_149 rfl ?_
      refine r_getS (b := 99) dX8_meetsWant_150 sh_66 ft_X8_108 rfl rfl ?_
      refine r_iload_n dX8_meetsWant_153 rfl ?_
      refine r_iconst (v := 1) dX8_meetsWant_154 (by decide) ?_
      refine r_iadd dX8_meetsWant_155 ?_
      refine r_aload_n dX8_meetsWant_156 rfl ?_
      refine r_getS (b := 99) dX8_meetsWant_157 sh_66 ft_X8_108 rfl rfl ?_
      refine r_iload_n dX8_meetsWant_160 rfl ?_
      refine r_iald dX8_meetsWant_161 sh_99 hf fun v7 hf => ?_
      refine r_aload_n dX8_meetsWant_162 rfl ?_
      refine r_getS (b := 93) dX8_meetsWant_163 sh_66 ft_X8_90 rfl rfl ?_
      refine r_iload_n dX8_meetsWant_166 rfl ?_
      refine r_iald dX8_meetsWant_167 sh_93 hf fun v8 hf => ?_
      refine r_iadd dX8_meetsWant_168 ?_
      refine r_iast dX8_meetsWant_169 sh_99 hf fun h9 hf => ?_
      refine r_iconst (v := 1) dX8_meetsWant_170 (by decide) ?_
      exact e_zH dX8_meetsWant_171 rfl hf
    · refine r_iconst (v := 0) dX8_meetsWant_138 (by decide) ?_
      exact e_zH dX8_meetsWant_139 rfl hf
  · refine r_aload_n dX8_meetsWant_25 rfl ?_
    refine r_aload_n dX8_meetsWant_26 rfl ?_
    refine r_getS (b := 92) dX8_meetsWant_27 sh_66 ft_X8_87 rfl rfl ?_
    refine r_iload dX8_meetsWant_30 rfl ?_
    refine r_iald dX8_meetsWant_32 sh_92 hf fun v11 hf => ?_
    obtain ⟨h12, hv, hf⟩ := bnd hf
    refine r_callV (lv := 1) dX8_meetsWant_33 yo_X8_lookAt yi_X8_lookAt ml_X8_329 ya_X8_lookAt sh_66 ⟨_, rfl, rfl⟩ (Fits.vm (by decide)) rfl rfl (Nat.le_of_ble_eq_true rfl) (S_X8_lookAt F v11 s3.2.2  _ hv) ?_
    refine r_aload_n dX8_meetsWant_36 rfl ?_
    refine r_getS (b := 82) dX8_meetsWant_37 sh_66 ft_X8_56 rfl rfl ?_
    refine r_iload_n dX8_meetsWant_40 rfl ?_
    refine r_bipush (v := 100) dX8_meetsWant_41 (by decide) ?_
    refine r_idivK dX8_meetsWant_43 (by decide) ?_
    refine r_iald dX8_meetsWant_44 sh_82 hf fun v13 hf => ?_
    refine r_iload_n dX8_meetsWant_45 rfl ?_
    refine r_bipush (v := 100) dX8_meetsWant_46 (by decide) ?_
    refine r_iremK dX8_meetsWant_48 (by decide) ?_
    refine r_reg (P := fun t14 => Run Y_X8_meetsWant (VM 8 (some (.int r.1), r.2)) 57 [some (.ref 66), some (.int x1_), some (.int x2_), some (.int s3.1), some (.int s3.2.1), none, none] [.int t14] h12) hf (fun t14 hf => ?_) (fun t14 key15 hf => ?_)
    · refine r_istoreA dX8_meetsWant_57 (by decide) ?_
      refine r_iload dX8_meetsWant_59 rfl ?_
      refine r_reg (P := fun t17 => Run Y_X8_meetsWant (VM 8 (some (.int r.1), r.2)) 107 [some (.ref 66), some (.int x1_), some (.int x2_), some (.int s3.1), some (.int s3.2.1), some (.int t14), none] [.int t17] h12) hf (fun t17 hf => ?_) (fun t17 key18 hf => ?_)
      · refine r_istoreA dX8_meetsWant_107 (by decide) ?_
        refine r_iload dX8_meetsWant_109 rfl ?_
        refine r_reg (P := fun t27 => Run Y_X8_meetsWant (VM 8 (some (.int r.1), r.2)) 125 [some (.ref 66), some (.int x1_), some (.int x2_), some (.int s3.1), some (.int s3.2.1), some (.int t14), some (.int t17)] [.int t27] h12) hf (fun t27 hf => ?_) (fun t27 key28 hf => ?_)
        · refine r_istore_nA dX8_meetsWant_125 (by decide) ?_
          refine r_iincA (v := 1) dX8_meetsWant_126 rfl (by decide) (by decide) ?_
          refine r_goto 16 dX8_meetsWant_129 (by decide) ?_
          refine r_lt (ll_s (ll_s (ll_s (ll_s (ll_s (ll_n (ll_n ll_0))))))) ?_
          exact ih5 _ hf
        · refine r_if_eq 124 dX8_meetsWant_111 (by decide) hf (fun c30 hf => ?_) (fun c30 hf => ?_)
          · refine r_iload_n dX8_meetsWant_124 rfl ?_
            cases hf; exact key28
          · refine r_aload_n dX8_meetsWant_114 rfl ?_
            refine r_getS (b := 92) dX8_meetsWant_115 sh_66 ft_X8_87 rfl rfl ?_
            refine r_iload dX8_meetsWant_118 rfl ?_
            refine r_iald dX8_meetsWant_120 sh_92 hf fun v29 hf => ?_
            refine r_goto 125 dX8_meetsWant_121 (by decide) ?_
            cases hf; exact key28
      · refine r_if_eq 106 dX8_meetsWant_61 (by decide) hf (fun c26 hf => ?_) (fun c26 hf => ?_)
        · refine r_iconst (v := 0) dX8_meetsWant_106 (by decide) ?_
          cases hf; exact key18
        · refine r_iload_n dX8_meetsWant_64 rfl ?_
          refine r_bipush (v := -9) dX8_meetsWant_65 (by decide) ?_
          refine r_icmp_eq 102 dX8_meetsWant_67 (by decide) hf (fun c25 hf => ?_) (fun c25 hf => ?_)
          · refine r_iconst (v := 1) dX8_meetsWant_102 (by decide) ?_
            refine r_goto 107 dX8_meetsWant_103 (by decide) ?_
            cases hf; exact key18
          · refine r_aload_n dX8_meetsWant_70 rfl ?_
            refine r_getS (b := 93) dX8_meetsWant_71 sh_66 ft_X8_90 rfl rfl ?_
            refine r_aload_n dX8_meetsWant_74 rfl ?_
            refine r_getS (b := 92) dX8_meetsWant_75 sh_66 ft_X8_87 rfl rfl ?_
            refine r_iload dX8_meetsWant_78 rfl ?_
            refine r_iald dX8_meetsWant_80 sh_92 hf fun v19 hf => ?_
            refine r_iald dX8_meetsWant_81 sh_93 hf fun v20 hf => ?_
            refine r_aload_n dX8_meetsWant_82 rfl ?_
            refine r_getS (b := 93) dX8_meetsWant_83 sh_66 ft_X8_90 rfl rfl ?_
            refine r_iload_n dX8_meetsWant_86 rfl ?_
            refine r_iald dX8_meetsWant_87 sh_93 hf fun v21 hf => ?_
            refine r_icmp_ne 106 dX8_meetsWant_88 (by decide) hf (fun c24 hf => ?_) (fun c24 hf => ?_)
            · refine r_iconst (v := 0) dX8_meetsWant_106 (by decide) ?_
              cases hf; exact key18
            · refine r_aload_n dX8_meetsWant_91 rfl ?_
              refine r_getS (b := 92) dX8_meetsWant_92 sh_66 ft_X8_87 rfl rfl ?_
              refine r_iload dX8_meetsWant_95 rfl ?_
              refine r_iald dX8_meetsWant_97 sh_92 hf fun v22 hf => ?_
              refine r_iload_n dX8_meetsWant_98 rfl ?_
              refine r_icmp_ge 106 dX8_meetsWant_99 (by decide) hf (fun c23 hf => ?_) (fun c23 hf => ?_)
              · refine r_iconst (v := 0) dX8_meetsWant_106 (by decide) ?_
                cases hf; exact key18
              · refine r_iconst (v := 1) dX8_meetsWant_102 (by decide) ?_
                refine r_goto 107 dX8_meetsWant_103 (by decide) ?_
                cases hf; exact key18
    · refine r_icmp_ne 56 dX8_meetsWant_49 (by decide) hf (fun c16 hf => ?_) (fun c16 hf => ?_)
      · refine r_iconst (v := 0) dX8_meetsWant_56 (by decide) ?_
        cases hf; exact key15
      · refine r_iconst (v := 1) dX8_meetsWant_52 (by decide) ?_
        refine r_goto 57 dX8_meetsWant_53 (by decide) ?_
        cases hf; exact key15
def f_X8_needWants (F : Nat) (x1_ : Int32) (x2_ : Int32) (h : Hp) : Option (Int32 × Hp) :=
  (if x1_ = 0 then (
    some ((-1 : Int32), h))
  else (
    (f_X8_isRow x2_ h).bind fun v1 =>
    (if v1 = 0 then (
      some ((-1 : Int32), h))
    else (
      (if (gI h 66 10) = 0 then (
        some ((-4 : Int32), h))
      else (
        (ldI h 68 x2_).bind fun v2 =>
        (if 0 ≤ v2 then (
          (ldI h 68 x2_).bind fun v3 =>
          (if v3 ≤ (5 : Int32) then (
            fix (σ := Int32 × Int32) (ρ := (Int32 × Hp)) (fun self5 s4 =>
              (ldI h 68 x2_).bind fun v7 =>
              (if v7 ≤ s4.2 then (
                (if s4.1 = 0 then (
                  (f_X8_meets (3 : Int32) h).bind fun v20 =>
                  some (v20.1, v20.2))
                else (
                  (ldI h 68 x2_).bind fun v8 =>
                  nm (sI h 66 48 v8) fun h9 =>
                  fix (σ := Int32 × Hp) (ρ := (Int32 × Hp)) (fun self11 s10 =>
                    (if (gI s10.2 66 48) ≤ s10.1 then (
                      (f_X8_lookAtNow F s10.2).bind fun h13 =>
                      (f_X8_codeOf F h13).bind fun v14 =>
                      (stI h13 98 (0 : Int32) v14).bind fun h15 =>
                      (stI h15 99 (0 : Int32) (0 : Int32)).bind fun h16 =>
                      some ((0 : Int32), h16))
                    else (
                      (f_X8_rowAt x2_ s10.1 s10.2).bind fun v17 =>
                      (stI s10.2 97 s10.1 v17).bind fun h18 =>
                      self11 ((s10.1 + 1), h18)))) F ((0 : Int32), h9))))
              else (
                (f_X8_rowAt x2_ s4.2 h).bind fun v22 =>
                (Option.bind (α := Int32) (
                  (if s4.1 = 0 then (
                    some (0 : Int32))
                  else (
                    (if v22 < 0 then (
                      some (0 : Int32))
                    else (
                      (f_X8_isMan (v22 / (100 : Int32)) h).bind fun v25 =>
                      (if v25 = 0 then (
                        some (0 : Int32))
                      else (
                        (f_X8_isCell (rem32 v22 (100 : Int32)) h).bind fun v26 =>
                        (if v26 = 0 then (
                          some (0 : Int32))
                        else (
                          some (1 : Int32)))))))))) fun t23 =>
                self5 (t23, (s4.2 + 1)))))) F ((1 : Int32), (0 : Int32)))
          else (
            (f_X8_meets (5 : Int32) h).bind fun v32 =>
            some (v32.1, v32.2))))
        else (
          (f_X8_meets (1 : Int32) h).bind fun v34 =>
          some (v34.1, v34.2)))))))))
set_option maxRecDepth 100000 in
set_option maxHeartbeats 4000000 in
theorem S_X8_needWants (F : Nat) (x1_ : Int32) (x2_ : Int32) (h : Hp) (r : (Int32 × Hp)) (hf : f_X8_needWants F x1_ x2_ h = some r) : MetP Y_X8_needWants 3 [.ref 66, .int x1_, .int x2_] h (some (.int r.1), r.2) := by
  unfold f_X8_needWants at hf
  refine met_of yo_X8_needWants (Nat.le_of_ble_eq_true rfl) ?_
  show Run Y_X8_needWants _ 0 [some (.ref 66), some (.int x1_), some (.int x2_), none, none, none] [] h
  refine r_iload_n dX8_needWants_0 rfl ?_
  refine r_if_eq 11 dX8_needWants_1 (by decide) hf (fun c38 hf => ?_) (fun c38 hf => ?_)
  · refine r_iconst (v := -1) dX8_needWants_11 (by decide) ?_
    exact e_iH dX8_needWants_12 rfl hf
  · refine r_iload_n dX8_needWants_4 rfl ?_
    obtain ⟨v1, hv, hf⟩ := bnd hf
    refine r_callS (lv := 2) dX8_needWants_5 yo_X8_isRow ys_X8_isRow ml_X8_140 ya_X8_isRow (Fits.vm (by decide)) rfl rfl (Nat.le_of_ble_eq_true rfl) (S_X8_isRow x2_ h  _ hv) ?_
    refine r_if_ne 13 dX8_needWants_8 (by decide) hf (fun c37 hf => ?_) (fun c37 hf => ?_)
    · refine r_aload_n dX8_needWants_13 rfl ?_
      refine r_getI dX8_needWants_14 sh_66 ft_X8_221 rfl ?_
      refine r_if_ne 23 dX8_needWants_17 (by decide) hf (fun c36 hf => ?_) (fun c36 hf => ?_)
      · refine r_aload_n dX8_needWants_23 rfl ?_
        refine r_getS (b := 68) dX8_needWants_24 sh_66 ft_X8_13 rfl rfl ?_
        refine r_iload_n dX8_needWants_27 rfl ?_
        refine r_iald dX8_needWants_28 sh_68 hf fun v2 hf => ?_
        refine r_if_ge 38 dX8_needWants_29 (by decide) hf (fun c35 hf => ?_) (fun c35 hf => ?_)
        · refine r_aload_n dX8_needWants_38 rfl ?_
          refine r_getS (b := 68) dX8_needWants_39 sh_66 ft_X8_13 rfl rfl ?_
          refine r_iload_n dX8_needWants_42 rfl ?_
          refine r_iald dX8_needWants_43 sh_68 hf fun v3 hf => ?_
          refine r_iconst (v := 5) dX8_needWants_44 (by decide) ?_
          refine r_icmp_le 54 dX8_needWants_45 (by decide) hf (fun c33 hf => ?_) (fun c33 hf => ?_)
          · refine r_iconst (v := 1) dX8_needWants_54 (by decide) ?_
            refine r_istore_nA dX8_needWants_55 (by decide) ?_
            refine r_iconst (v := 0) dX8_needWants_56 (by decide) ?_
            refine r_istoreA dX8_needWants_57 (by decide) ?_
            refine r_fix (σ := Int32 × Int32) (fun s4 => [some (.ref 66), some (.int x1_), some (.int x2_), some (.int s4.1), some (.int s4.2), none]) (fun s4 => h) (fun self5 ih6 s4 hf => ?_) F ((1 : Int32), (0 : Int32)) hf
            refine r_iload dX8_needWants_59 rfl ?_
            refine r_aload_n dX8_needWants_61 rfl ?_
            refine r_getS (b := 68) dX8_needWants_62 sh_66 ft_X8_13 rfl rfl ?_
            refine r_iload_n dX8_needWants_65 rfl ?_
            refine r_iald dX8_needWants_66 sh_68 hf fun v7 hf => ?_
            refine r_icmp_ge 124 dX8_needWants_67 (by decide) hf (fun c31 hf => ?_) (fun c31 hf => ?_)
            · refine r_iload_n dX8_needWants_124 rfl ?_
              refine r_if_ne 134 dX8_needWants_125 (by decide) hf (fun c21 hf => ?_) (fun c21 hf => ?_)
              · refine r_aload_n dX8_needWants_134 rfl ?_
                refine r_aload_n dX8_needWants_135 rfl ?_
                refine r_getS (b := 68) dX8_needWants_136 sh_66 ft_X8_13 rfl rfl ?_
                refine r_iload_n dX8_needWants_139 rfl ?_
                refine r_iald dX8_needWants_140 sh_68 hf fun v8 hf => ?_
                refine r_putI dX8_needWants_141 sh_66 ft_X8_364 rfl hf fun h9 hf => ?_
                refine r_iconst (v := 0) dX8_needWants_144 (by decide) ?_
                refine r_istoreA dX8_needWants_145 (by decide) ?_
                refine r_fix (σ := Int32 × Hp) (fun s10 => [some (.ref 66), some (.int x1_), some (.int x2_), some (.int s4.1), some (.int s10.1), none]) (fun s10 => s10.2) (fun self11 ih12 s10 hf => ?_) F ((0 : Int32), h9) hf
                refine r_iload dX8_needWants_147 rfl ?_
                refine r_aload_n dX8_needWants_149 rfl ?_
                refine r_getI dX8_needWants_150 sh_66 ft_X8_364 rfl ?_
                refine r_icmp_ge 176 dX8_needWants_153 (by decide) hf (fun c19 hf => ?_) (fun c19 hf => ?_)
                · refine r_aload_n dX8_needWants_176 rfl ?_
                  obtain ⟨h13, hv, hf⟩ := bnd hf
                  refine r_callV (lv := 1) dX8_needWants_177 yo_X8_lookAtNow yi_X8_lookAtNow ml_X8_293 ya_X8_lookAtNow sh_66 ⟨_, rfl, rfl⟩ (Fits.vm (by decide)) rfl rfl (Nat.le_of_ble_eq_true rfl) (S_X8_lookAtNow F s10.2  _ hv) ?_
                  refine r_aload_n dX8_needWants_180 rfl ?_
                  refine r_getS (b := 98) dX8_needWants_181 sh_66 ft_X8_105 rfl rfl ?_
                  refine r_iconst (v := 0) dX8_needWants_184 (by decide) ?_
                  refine r_aload_n dX8_needWants_185 rfl ?_
                  obtain ⟨v14, hv, hf⟩ := bnd hf
                  refine r_callV (lv := 1) dX8_needWants_186 yo_X8_codeOf yi_X8_codeOf ml_X8_336 ya_X8_codeOf sh_66 ⟨_, rfl, rfl⟩ (Fits.vm (by decide)) rfl rfl (Nat.le_of_ble_eq_true rfl) (S_X8_codeOf F h13  _ hv) ?_
                  refine r_iast dX8_needWants_189 sh_98 hf fun h15 hf => ?_
                  refine r_aload_n dX8_needWants_190 rfl ?_
                  refine r_getS (b := 99) dX8_needWants_191 sh_66 ft_X8_108 rfl rfl ?_
                  refine r_iconst (v := 0) dX8_needWants_194 (by decide) ?_
                  refine r_iconst (v := 0) dX8_needWants_195 (by decide) ?_
                  refine r_iast dX8_needWants_196 sh_99 hf fun h16 hf => ?_
                  refine r_iconst (v := 0) dX8_needWants_197 (by decide) ?_
                  exact e_iH dX8_needWants_198 rfl hf
                · refine r_aload_n dX8_needWants_156 rfl ?_
                  refine r_getS (b := 97) dX8_needWants_157 sh_66 ft_X8_102 rfl rfl ?_
                  refine r_iload dX8_needWants_160 rfl ?_
                  refine r_aload_n dX8_needWants_162 rfl ?_
                  refine r_iload_n dX8_needWants_163 rfl ?_
                  refine r_iload dX8_needWants_164 rfl ?_
                  obtain ⟨v17, hv, hf⟩ := bnd hf
                  refine r_callV (lv := 1) dX8_needWants_166 yo_X8_rowAt yi_X8_rowAt ml_X8_148 ya_X8_rowAt sh_66 ⟨_, rfl, rfl⟩ (Fits.vm (by decide)) rfl rfl (Nat.le_of_ble_eq_true rfl) (S_X8_rowAt x2_ s10.1 s10.2  _ hv) ?_
                  refine r_iast dX8_needWants_169 sh_97 hf fun h18 hf => ?_
                  refine r_iincA (v := 1) dX8_needWants_170 rfl (by decide) (by decide) ?_
                  refine r_goto 147 dX8_needWants_173 (by decide) ?_
                  exact ih12 _ hf
              · refine r_aload_n dX8_needWants_128 rfl ?_
                refine r_iconst (v := 3) dX8_needWants_129 (by decide) ?_
                obtain ⟨v20, hv, hf⟩ := bnd hf
                refine r_callV (lv := 1) dX8_needWants_130 yo_X8_meets yi_X8_meets ml_X8_144 ya_X8_meets sh_66 ⟨_, rfl, rfl⟩ (Fits.vm (by decide)) rfl rfl (Nat.le_of_ble_eq_true rfl) (S_X8_meets (3 : Int32) h  _ hv) ?_
                exact e_iH dX8_needWants_133 rfl hf
            · refine r_aload_n dX8_needWants_70 rfl ?_
              refine r_iload_n dX8_needWants_71 rfl ?_
              refine r_iload dX8_needWants_72 rfl ?_
              obtain ⟨v22, hv, hf⟩ := bnd hf
              refine r_callV (lv := 1) dX8_needWants_74 yo_X8_rowAt yi_X8_rowAt ml_X8_148 ya_X8_rowAt sh_66 ⟨_, rfl, rfl⟩ (Fits.vm (by decide)) rfl rfl (Nat.le_of_ble_eq_true rfl) (S_X8_rowAt x2_ s4.2 h  _ hv) ?_
              refine r_istoreA dX8_needWants_77 (by decide) ?_
              refine r_iload_n dX8_needWants_79 rfl ?_
              refine r_reg (P := fun t23 => Run Y_X8_needWants (VM 3 (some (.int r.1), r.2)) 117 [some (.ref 66), some (.int x1_), some (.int x2_), some (.int s4.1), some (.int s4.2), some (.int v22)] [.int t23] h) hf (fun t23 hf => ?_) (fun t23 key24 hf => ?_)
              · refine r_istore_nA dX8_needWants_117 (by decide) ?_
                refine r_iincA (v := 1) dX8_needWants_118 rfl (by decide) (by decide) ?_
                refine r_goto 59 dX8_needWants_121 (by decide) ?_
                refine r_lt (ll_s (ll_s (ll_s (ll_s (ll_s (ll_n ll_0)))))) ?_
                exact ih6 _ hf
              · refine r_if_eq 116 dX8_needWants_80 (by decide) hf (fun c30 hf => ?_) (fun c30 hf => ?_)
                · refine r_iconst (v := 0) dX8_needWants_116 (by decide) ?_
                  cases hf; exact key24
                · refine r_iload dX8_needWants_83 rfl ?_
                  refine r_if_lt 116 dX8_needWants_85 (by decide) hf (fun c29 hf => ?_) (fun c29 hf => ?_)
                  · refine r_iconst (v := 0) dX8_needWants_116 (by decide) ?_
                    cases hf; exact key24
                  · refine r_aload_n dX8_needWants_88 rfl ?_
                    refine r_iload dX8_needWants_89 rfl ?_
                    refine r_bipush (v := 100) dX8_needWants_91 (by decide) ?_
                    refine r_idivK dX8_needWants_93 (by decide) ?_
                    obtain ⟨v25, hv, hf⟩ := bnd hf
                    refine r_callV (lv := 2) dX8_needWants_94 yo_X8_isMan yi_X8_isMan ml_X8_287 ya_X8_isMan sh_66 ⟨_, rfl, rfl⟩ (Fits.vm (by decide)) rfl rfl (Nat.le_of_ble_eq_true rfl) (S_X8_isMan (v22 / (100 : Int32)) h  _ hv) ?_
                    refine r_if_eq 116 dX8_needWants_97 (by decide) hf (fun c28 hf => ?_) (fun c28 hf => ?_)
                    · refine r_iconst (v := 0) dX8_needWants_116 (by decide) ?_
                      cases hf; exact key24
                    · refine r_aload_n dX8_needWants_100 rfl ?_
                      refine r_iload dX8_needWants_101 rfl ?_
                      refine r_bipush (v := 100) dX8_needWants_103 (by decide) ?_
                      refine r_iremK dX8_needWants_105 (by decide) ?_
                      obtain ⟨v26, hv, hf⟩ := bnd hf
                      refine r_callV (lv := 2) dX8_needWants_106 yo_X8_isCell yi_X8_isCell ml_X8_323 ya_X8_isCell sh_66 ⟨_, rfl, rfl⟩ (Fits.vm (by decide)) rfl rfl (Nat.le_of_ble_eq_true rfl) (S_X8_isCell (rem32 v22 (100 : Int32)) h  _ hv) ?_
                      refine r_if_eq 116 dX8_needWants_109 (by decide) hf (fun c27 hf => ?_) (fun c27 hf => ?_)
                      · refine r_iconst (v := 0) dX8_needWants_116 (by decide) ?_
                        cases hf; exact key24
                      · refine r_iconst (v := 1) dX8_needWants_112 (by decide) ?_
                        refine r_goto 117 dX8_needWants_113 (by decide) ?_
                        cases hf; exact key24
          · refine r_aload_n dX8_needWants_48 rfl ?_
            refine r_iconst (v := 5) dX8_needWants_49 (by decide) ?_
            obtain ⟨v32, hv, hf⟩ := bnd hf
            refine r_callV (lv := 1) dX8_needWants_50 yo_X8_meets yi_X8_meets ml_X8_144 ya_X8_meets sh_66 ⟨_, rfl, rfl⟩ (Fits.vm (by decide)) rfl rfl (Nat.le_of_ble_eq_true rfl) (S_X8_meets (5 : Int32) h  _ hv) ?_
            exact e_iH dX8_needWants_53 rfl hf
        · refine r_aload_n dX8_needWants_32 rfl ?_
          refine r_iconst (v := 1) dX8_needWants_33 (by decide) ?_
          obtain ⟨v34, hv, hf⟩ := bnd hf
          refine r_callV (lv := 1) dX8_needWants_34 yo_X8_meets yi_X8_meets ml_X8_144 ya_X8_meets sh_66 ⟨_, rfl, rfl⟩ (Fits.vm (by decide)) rfl rfl (Nat.le_of_ble_eq_true rfl) (S_X8_meets (1 : Int32) h  _ hv) ?_
          exact e_iH dX8_needWants_37 rfl hf
      · refine r_bipush (v := -4) dX8_needWants_20 (by decide) ?_
        exact e_iH dX8_needWants_22 rfl hf
    · refine r_iconst (v := -1) dX8_needWants_11 (by decide) ?_
      exact e_iH dX8_needWants_12 rfl hf
def f_X8_fetch (F : Nat) (x1_ : Int32) (h : Hp) : Option (Int32 × Hp) :=
  (f_X8_needWants F (1 : Int32) x1_ h).bind fun v1 =>
  (if 0 ≤ v1.1 then (
    fix (σ := Int32 × Hp) (ρ := (Int32 × Hp)) (fun self3 s2 =>
      jn (α := (Hp) → Option (Int32 × Hp)) (fun t5 =>
        (ldI t5 99 s2.1).bind fun v8 =>
        (f_X8_tells v8 s2.1 t5).bind fun v9 =>
        some (v9.1, v9.2)) fun j6 =>
      (if (gI s2.2 66 48) ≤ s2.1 then (
        j6 s2.2)
      else (
        (ldI s2.2 97 s2.1).bind fun v10 =>
        (f_X8_meetsWant F s2.1 v10 s2.2).bind fun v11 =>
        (if v11.1 = 0 then (
          j6 v11.2)
        else (
          self3 ((s2.1 + 1), v11.2)))))) F ((0 : Int32), v1.2))
  else (
    some (v1.1, v1.2)))
set_option maxRecDepth 100000 in
set_option maxHeartbeats 4000000 in
theorem S_X8_fetch (F : Nat) (x1_ : Int32) (h : Hp) (r : (Int32 × Hp)) (hf : f_X8_fetch F x1_ h = some r) : MetP Y_X8_fetch 9 [.ref 66, .int x1_] h (some (.int r.1), r.2) := by
  unfold f_X8_fetch at hf
  refine met_of yo_X8_fetch (Nat.le_of_ble_eq_true rfl) ?_
  show Run Y_X8_fetch _ 0 [some (.ref 66), some (.int x1_), none, none] [] h
  refine r_aload_n dX8_fetch_0 rfl ?_
  refine r_iconst (v := 1) dX8_fetch_1 (by decide) ?_
  refine r_iload_n dX8_fetch_2 rfl ?_
  obtain ⟨v1, hv, hf⟩ := bnd hf
  refine r_callV (lv := 3) dX8_fetch_3 yo_X8_needWants yi_X8_needWants ml_X8_367 ya_X8_needWants sh_66 ⟨_, rfl, rfl⟩ (Fits.vm (by decide)) rfl rfl (Nat.le_of_ble_eq_true rfl) (S_X8_needWants F (1 : Int32) x1_ h  _ hv) ?_
  refine r_istore_nA dX8_fetch_6 (by decide) ?_
  refine r_iload_n dX8_fetch_7 rfl ?_
  refine r_if_ge 13 dX8_fetch_8 (by decide) hf (fun c14 hf => ?_) (fun c14 hf => ?_)
  · refine r_iconst (v := 0) dX8_fetch_13 (by decide) ?_
    refine r_istore_nA dX8_fetch_14 (by decide) ?_
    refine r_fix (σ := Int32 × Hp) (fun s2 => [some (.ref 66), some (.int x1_), some (.int v1.1), some (.int s2.1)]) (fun s2 => s2.2) (fun self3 ih4 s2 hf => ?_) F ((0 : Int32), v1.2) hf
    refine r_iload_n dX8_fetch_15 rfl ?_
    refine r_aload_n dX8_fetch_16 rfl ?_
    refine r_getI dX8_fetch_17 sh_66 ft_X8_364 rfl ?_
    refine r_jn (P := fun t5 => Run Y_X8_fetch (VM 9 (some (.int r.1), r.2)) 43 [some (.ref 66), some (.int x1_), some (.int v1.1), some (.int s2.1)] [] t5) hf (fun t5 hf => ?_) (fun j6 ih7 hf => ?_)
    · refine r_aload_n dX8_fetch_43 rfl ?_
      refine r_aload_n dX8_fetch_44 rfl ?_
      refine r_getS (b := 99) dX8_fetch_45 sh_66 ft_X8_108 rfl rfl ?_
      refine r_iload_n dX8_fetch_48 rfl ?_
      refine r_iald dX8_fetch_49 sh_99 hf fun v8 hf => ?_
      refine r_iload_n dX8_fetch_50 rfl ?_
      obtain ⟨v9, hv, hf⟩ := bnd hf
      refine r_callV (lv := 1) dX8_fetch_51 yo_X8_tells yi_X8_tells ml_X8_152 ya_X8_tells sh_66 ⟨_, rfl, rfl⟩ (Fits.vm (by decide)) rfl rfl (Nat.le_of_ble_eq_true rfl) (S_X8_tells v8 s2.1 t5  _ hv) ?_
      exact e_iH dX8_fetch_54 rfl hf
    refine r_icmp_ge 43 dX8_fetch_20 (by decide) hf (fun c13 hf => ?_) (fun c13 hf => ?_)
    · exact ih7 _ hf
    · refine r_aload_n dX8_fetch_23 rfl ?_
      refine r_iload_n dX8_fetch_24 rfl ?_
      refine r_aload_n dX8_fetch_25 rfl ?_
      refine r_getS (b := 97) dX8_fetch_26 sh_66 ft_X8_102 rfl rfl ?_
      refine r_iload_n dX8_fetch_29 rfl ?_
      refine r_iald dX8_fetch_30 sh_97 hf fun v10 hf => ?_
      obtain ⟨v11, hv, hf⟩ := bnd hf
      refine r_callV (lv := 8) dX8_fetch_31 yo_X8_meetsWant yi_X8_meetsWant ml_X8_370 ya_X8_meetsWant sh_66 ⟨_, rfl, rfl⟩ (Fits.vm (by decide)) rfl rfl (Nat.le_of_ble_eq_true rfl) (S_X8_meetsWant F s2.1 v10 s2.2  _ hv) ?_
      refine r_if_eq 43 dX8_fetch_34 (by decide) hf (fun c12 hf => ?_) (fun c12 hf => ?_)
      · exact ih7 _ hf
      · refine r_iincA (v := 1) dX8_fetch_37 rfl (by decide) (by decide) ?_
        refine r_goto 15 dX8_fetch_40 (by decide) ?_
        exact ih4 _ hf
  · refine r_iload_n dX8_fetch_11 rfl ?_
    exact e_iH dX8_fetch_12 rfl hf
def f_X8_layOrders (F : Nat) : Nat → Int32 → Int32 → Int32 → Hp → Option Hp
  | 0, _, _, _, _ => none
  | D + 1, x1_, x2_, x3_, h =>
    (if x1_ = (gI h 66 48) then (
      jn (α := (Unit) → Option Hp) (fun t20 =>
        nm (sI h 66 54 x3_) fun h23 =>
        (ldI h23 99 x3_).bind fun v24 =>
        nm (sI h23 66 55 v24) fun h25 =>
        fix (σ := Int32 × Hp) (ρ := Hp) (fun self27 s26 =>
          (if (gI s26.2 66 48) ≤ s26.1 then (
            some s26.2)
          else (
            (ldI s26.2 100 s26.1).bind fun v29 =>
            (stI s26.2 101 s26.1 v29).bind fun h30 =>
            self27 ((s26.1 + 1), h30)))) F ((0 : Int32), h25)) fun j21 =>
      (if (gI h 66 54) < x3_ then (
        j21 ())
      else (
        (if x3_ = (gI h 66 54) then (
          (ldI h 99 x3_).bind fun v32 =>
          (if (gI h 66 55) ≤ v32 then (
            some h)
          else (
            j21 ())))
        else (
          some h)))))
    else (
      fix (σ := Int32 × Hp) (ρ := Hp) (fun self2 s1 =>
        (if (gI s1.2 66 48) ≤ s1.1 then (
          some s1.2)
        else (
          (f_X8_has x2_ s1.1 s1.2).bind fun v4 =>
          (Option.bind (α := Hp) (
            (if v4 = 0 then (
              (stI s1.2 100 x1_ s1.1).bind fun h7 =>
              (Option.bind (α := Int32 × Hp) (
                (if x3_ = x1_ then (
                  (ldI h7 97 s1.1).bind fun v10 =>
                  (f_X8_meetsWant F x1_ v10 h7).bind fun v11 =>
                  (if v11.1 = 0 then (
                    some ((0 : Int32), v11.2))
                  else (
                    some ((1 : Int32), v11.2))))
                else (
                  some ((0 : Int32), h7)))) fun t8 =>
              (Option.bind (α := Int32) (
                (if t8.1 = 0 then (
                  some x3_)
                else (
                  some (x3_ + (1 : Int32))))) fun t14 =>
              (f_X8_layOrders F D (x1_ + (1 : Int32)) (x2_ ||| ((1 : Int32) <<< (s1.1 &&& 31))) t14 t8.2).bind fun h17 =>
              some h17)))
            else (
              some s1.2))) fun t5 =>
          self2 ((s1.1 + 1), t5))))) F ((0 : Int32), h)))
set_option maxRecDepth 100000 in
set_option maxHeartbeats 4000000 in
theorem S_X8_layOrders (F : Nat) : ∀ (D : Nat) (x1_ : Int32) (x2_ : Int32) (x3_ : Int32) (h : Hp) (r : Hp), f_X8_layOrders F D x1_ x2_ x3_ h = some r → MetP Y_X8_layOrders (9 + D) [.ref 66, .int x1_, .int x2_, .int x3_] h (none, r)
  | 0, x1_, x2_, x3_, h, r, hf => by cases hf
  | D + 1, x1_, x2_, x3_, h, r, hf => by
    have ihD := S_X8_layOrders F D
    unfold f_X8_layOrders at hf
    refine met_of yo_X8_layOrders (Nat.le_of_ble_eq_true rfl) ?_
    show Run Y_X8_layOrders _ 0 [some (.ref 66), some (.int x1_), some (.int x2_), some (.int x3_), none, none] [] h
    refine r_iload_n dX8_layOrders_0 rfl ?_
    refine r_aload_n dX8_layOrders_1 rfl ?_
    refine r_getI dX8_layOrders_2 sh_66 ft_X8_364 rfl ?_
    refine r_icmp_ne 85 dX8_layOrders_5 (by decide) hf (fun c36 hf => ?_) (fun c36 hf => ?_)
    · refine r_iconst (v := 0) dX8_layOrders_85 (by decide) ?_
      refine r_istoreA dX8_layOrders_86 (by decide) ?_
      refine r_fix (σ := Int32 × Hp) (fun s1 => [some (.ref 66), some (.int x1_), some (.int x2_), some (.int x3_), some (.int s1.1), none]) (fun s1 => s1.2) (fun self2 ih3 s1 hf => ?_) F ((0 : Int32), h) hf
      refine r_iload dX8_layOrders_88 rfl ?_
      refine r_aload_n dX8_layOrders_90 rfl ?_
      refine r_getI dX8_layOrders_91 sh_66 ft_X8_364 rfl ?_
      refine r_icmp_ge 172 dX8_layOrders_94 (by decide) hf (fun c19 hf => ?_) (fun c19 hf => ?_)
      · exact e_vH dX8_layOrders_172 rfl hf
      · refine r_iload_n dX8_layOrders_97 rfl ?_
        refine r_iload dX8_layOrders_98 rfl ?_
        obtain ⟨v4, hv, hf⟩ := bnd hf
        refine r_callS (lv := 1) dX8_layOrders_100 yo_X8_has ys_X8_has ml_X8_358 ya_X8_has (Fits.vm (by omega)) rfl rfl (Nat.le_of_ble_eq_true rfl) (S_X8_has x2_ s1.1 s1.2  _ hv) ?_
        refine r_reg (P := fun t5 => Run Y_X8_layOrders (VM (9 + (D + 1)) (none, r)) 166 [some (.ref 66), some (.int x1_), some (.int x2_), some (.int x3_), some (.int s1.1), none] [] t5) hf (fun t5 hf => ?_) (fun t5 key6 hf => ?_)
        · refine r_iincA (v := 1) dX8_layOrders_166 rfl (by decide) (by decide) ?_
          refine r_goto 88 dX8_layOrders_169 (by decide) ?_
          exact ih3 _ hf
        · refine r_if_ne 166 dX8_layOrders_103 (by decide) hf (fun c18 hf => ?_) (fun c18 hf => ?_)
          · cases hf; exact key6
          · refine r_aload_n dX8_layOrders_106 rfl ?_
            refine r_getS (b := 100) dX8_layOrders_107 sh_66 ft_X8_111 rfl rfl ?_
            refine r_iload_n dX8_layOrders_110 rfl ?_
            refine r_iload dX8_layOrders_111 rfl ?_
            refine r_iast dX8_layOrders_113 sh_100 hf fun h7 hf => ?_
            refine r_iload_n dX8_layOrders_114 rfl ?_
            refine r_iload_n dX8_layOrders_115 rfl ?_
            refine r_reg (P := fun t8 => Run Y_X8_layOrders (VM (9 + (D + 1)) (none, r)) 139 [some (.ref 66), some (.int x1_), some (.int x2_), some (.int x3_), some (.int s1.1), none] [.int t8.1] t8.2) hf (fun t8 hf => ?_) (fun t8 key9 hf => ?_)
            · refine r_istoreA dX8_layOrders_139 (by decide) ?_
              refine r_aload_n dX8_layOrders_141 rfl ?_
              refine r_iload_n dX8_layOrders_142 rfl ?_
              refine r_iconst (v := 1) dX8_layOrders_143 (by decide) ?_
              refine r_iadd dX8_layOrders_144 ?_
              refine r_iload_n dX8_layOrders_145 rfl ?_
              refine r_iconst (v := 1) dX8_layOrders_146 (by decide) ?_
              refine r_iload dX8_layOrders_147 rfl ?_
              refine r_ishl dX8_layOrders_149 ?_
              refine r_ior dX8_layOrders_150 ?_
              refine r_iload dX8_layOrders_151 rfl ?_
              refine r_reg (P := fun t14 => Run Y_X8_layOrders (VM (9 + (D + 1)) (none, r)) 163 [some (.ref 66), some (.int x1_), some (.int x2_), some (.int x3_), some (.int s1.1), some (.int t8.1)] [.int t14, .int (x2_ ||| ((1 : Int32) <<< (s1.1 &&& 31))), .int (x1_ + (1 : Int32)), .ref 66] t8.2) hf (fun t14 hf => ?_) (fun t14 key15 hf => ?_)
              · obtain ⟨h17, hv, hf⟩ := bnd hf
                refine r_callV (lv := (9 + D)) dX8_layOrders_163 yo_X8_layOrders yi_X8_layOrders ml_X8_379 ya_X8_layOrders sh_66 ⟨_, rfl, rfl⟩ (Fits.vm (by omega)) rfl rfl (Nat.le_of_ble_eq_true rfl) (ihD (x1_ + (1 : Int32)) (x2_ ||| ((1 : Int32) <<< (s1.1 &&& 31))) t14 t8.2 _ hv) ?_
                refine r_lt (ll_s (ll_s (ll_s (ll_s (ll_s (ll_n ll_0)))))) ?_
                cases hf; exact key6
              · refine r_if_eq 162 dX8_layOrders_153 (by decide) hf (fun c16 hf => ?_) (fun c16 hf => ?_)
                · refine r_iload_n dX8_layOrders_162 rfl ?_
                  cases hf; exact key15
                · refine r_iload_n dX8_layOrders_156 rfl ?_
                  refine r_iconst (v := 1) dX8_layOrders_157 (by decide) ?_
                  refine r_iadd dX8_layOrders_158 ?_
                  refine r_goto 163 dX8_layOrders_159 (by decide) ?_
                  cases hf; exact key15
            · refine r_icmp_ne 138 dX8_layOrders_116 (by decide) hf (fun c13 hf => ?_) (fun c13 hf => ?_)
              · refine r_iconst (v := 0) dX8_layOrders_138 (by decide) ?_
                cases hf; exact key9
              · refine r_aload_n dX8_layOrders_119 rfl ?_
                refine r_iload_n dX8_layOrders_120 rfl ?_
                refine r_aload_n dX8_layOrders_121 rfl ?_
                refine r_getS (b := 97) dX8_layOrders_122 sh_66 ft_X8_102 rfl rfl ?_
                refine r_iload dX8_layOrders_125 rfl ?_
                refine r_iald dX8_layOrders_127 sh_97 hf fun v10 hf => ?_
                obtain ⟨v11, hv, hf⟩ := bnd hf
                refine r_callV (lv := 8) dX8_layOrders_128 yo_X8_meetsWant yi_X8_meetsWant ml_X8_370 ya_X8_meetsWant sh_66 ⟨_, rfl, rfl⟩ (Fits.vm (by omega)) rfl rfl (Nat.le_of_ble_eq_true rfl) (S_X8_meetsWant F x1_ v10 h7  _ hv) ?_
                refine r_if_eq 138 dX8_layOrders_131 (by decide) hf (fun c12 hf => ?_) (fun c12 hf => ?_)
                · refine r_iconst (v := 0) dX8_layOrders_138 (by decide) ?_
                  cases hf; exact key9
                · refine r_iconst (v := 1) dX8_layOrders_134 (by decide) ?_
                  refine r_goto 139 dX8_layOrders_135 (by decide) ?_
                  cases hf; exact key9
    · refine r_iload_n dX8_layOrders_8 rfl ?_
      refine r_aload_n dX8_layOrders_9 rfl ?_
      refine r_getI dX8_layOrders_10 sh_66 ft_X8_373 rfl ?_
      refine r_jn (P := fun t20 => Run Y_X8_layOrders (VM (9 + (D + 1)) (none, r)) 37 [some (.ref 66), some (.int x1_), some (.int x2_), some (.int x3_), none, none] [] h) hf (fun t20 hf => ?_) (fun j21 ih22 hf => ?_)
      · refine r_aload_n dX8_layOrders_37 rfl ?_
        refine r_iload_n dX8_layOrders_38 rfl ?_
        refine r_putI dX8_layOrders_39 sh_66 ft_X8_373 rfl hf fun h23 hf => ?_
        refine r_aload_n dX8_layOrders_42 rfl ?_
        refine r_aload_n dX8_layOrders_43 rfl ?_
        refine r_getS (b := 99) dX8_layOrders_44 sh_66 ft_X8_108 rfl rfl ?_
        refine r_iload_n dX8_layOrders_47 rfl ?_
        refine r_iald dX8_layOrders_48 sh_99 hf fun v24 hf => ?_
        refine r_putI dX8_layOrders_49 sh_66 ft_X8_376 rfl hf fun h25 hf => ?_
        refine r_iconst (v := 0) dX8_layOrders_52 (by decide) ?_
        refine r_istoreA dX8_layOrders_53 (by decide) ?_
        refine r_fix (σ := Int32 × Hp) (fun s26 => [some (.ref 66), some (.int x1_), some (.int x2_), some (.int x3_), some (.int s26.1), none]) (fun s26 => s26.2) (fun self27 ih28 s26 hf => ?_) F ((0 : Int32), h25) hf
        refine r_iload dX8_layOrders_55 rfl ?_
        refine r_aload_n dX8_layOrders_57 rfl ?_
        refine r_getI dX8_layOrders_58 sh_66 ft_X8_364 rfl ?_
        refine r_icmp_ge 84 dX8_layOrders_61 (by decide) hf (fun c31 hf => ?_) (fun c31 hf => ?_)
        · exact e_vH dX8_layOrders_84 rfl hf
        · refine r_aload_n dX8_layOrders_64 rfl ?_
          refine r_getS (b := 101) dX8_layOrders_65 sh_66 ft_X8_114 rfl rfl ?_
          refine r_iload dX8_layOrders_68 rfl ?_
          refine r_aload_n dX8_layOrders_70 rfl ?_
          refine r_getS (b := 100) dX8_layOrders_71 sh_66 ft_X8_111 rfl rfl ?_
          refine r_iload dX8_layOrders_74 rfl ?_
          refine r_iald dX8_layOrders_76 sh_100 hf fun v29 hf => ?_
          refine r_iast dX8_layOrders_77 sh_101 hf fun h30 hf => ?_
          refine r_iincA (v := 1) dX8_layOrders_78 rfl (by decide) (by decide) ?_
          refine r_goto 55 dX8_layOrders_81 (by decide) ?_
          exact ih28 _ hf
      refine r_icmp_gt 37 dX8_layOrders_13 (by decide) hf (fun c35 hf => ?_) (fun c35 hf => ?_)
      · exact ih22 _ hf
      · refine r_iload_n dX8_layOrders_16 rfl ?_
        refine r_aload_n dX8_layOrders_17 rfl ?_
        refine r_getI dX8_layOrders_18 sh_66 ft_X8_373 rfl ?_
        refine r_icmp_ne 84 dX8_layOrders_21 (by decide) hf (fun c34 hf => ?_) (fun c34 hf => ?_)
        · exact e_vH dX8_layOrders_84 rfl hf
        · refine r_aload_n dX8_layOrders_24 rfl ?_
          refine r_getS (b := 99) dX8_layOrders_25 sh_66 ft_X8_108 rfl rfl ?_
          refine r_iload_n dX8_layOrders_28 rfl ?_
          refine r_iald dX8_layOrders_29 sh_99 hf fun v32 hf => ?_
          refine r_aload_n dX8_layOrders_30 rfl ?_
          refine r_getI dX8_layOrders_31 sh_66 ft_X8_376 rfl ?_
          refine r_icmp_ge 84 dX8_layOrders_34 (by decide) hf (fun c33 hf => ?_) (fun c33 hf => ?_)
          · exact e_vH dX8_layOrders_84 rfl hf
          · exact ih22 _ hf
def f_X8_order (F : Nat) (x1_ : Int32) (x2_ : Int32) (h : Hp) : Option (Int32 × Hp) :=
  (f_X8_isRow x2_ h).bind fun v1 =>
  (f_X8_needWants F v1 x1_ h).bind fun v2 =>
  (if 0 ≤ v2.1 then (
    nm (sI v2.2 66 54 (-1 : Int32)) fun h3 =>
    nm (sI h3 66 55 (99999 : Int32)) fun h4 =>
    (f_X8_layOrders F 7 (0 : Int32) (0 : Int32) (0 : Int32) h4).bind fun h5 =>
    (stI h5 68 x2_ (gI h5 66 48)).bind fun h6 =>
    fix (σ := Int32 × Hp) (ρ := (Int32 × Hp)) (fun self8 s7 =>
      (if (40 : Int32) ≤ s7.1 then (
        some ((gI s7.2 66 54), s7.2))
      else (
        (Option.bind (α := Int32) (
          (if (gI s7.2 66 48) ≤ s7.1 then (
            some (0 : Int32))
          else (
            (ldI s7.2 101 s7.1).bind fun v12 =>
            some v12))) fun t10 =>
        (stI s7.2 69 (((40 : Int32) * x2_) + s7.1) t10).bind fun h14 =>
        self8 ((s7.1 + 1), h14))))) F ((0 : Int32), h6))
  else (
    some (v2.1, v2.2)))
set_option maxRecDepth 100000 in
set_option maxHeartbeats 4000000 in
theorem S_X8_order (F : Nat) (x1_ : Int32) (x2_ : Int32) (h : Hp) (r : (Int32 × Hp)) (hf : f_X8_order F x1_ x2_ h = some r) : MetP Y_X8_order 17 [.ref 66, .int x1_, .int x2_] h (some (.int r.1), r.2) := by
  unfold f_X8_order at hf
  refine met_of yo_X8_order (Nat.le_of_ble_eq_true rfl) ?_
  show Run Y_X8_order _ 0 [some (.ref 66), some (.int x1_), some (.int x2_), none, none] [] h
  refine r_aload_n dX8_order_0 rfl ?_
  refine r_iload_n dX8_order_1 rfl ?_
  obtain ⟨v1, hv, hf⟩ := bnd hf
  refine r_callS (lv := 2) dX8_order_2 yo_X8_isRow ys_X8_isRow ml_X8_140 ya_X8_isRow (Fits.vm (by decide)) rfl rfl (Nat.le_of_ble_eq_true rfl) (S_X8_isRow x2_ h  _ hv) ?_
  refine r_iload_n dX8_order_5 rfl ?_
  obtain ⟨v2, hv, hf⟩ := bnd hf
  refine r_callV (lv := 3) dX8_order_6 yo_X8_needWants yi_X8_needWants ml_X8_367 ya_X8_needWants sh_66 ⟨_, rfl, rfl⟩ (Fits.vm (by decide)) rfl rfl (Nat.le_of_ble_eq_true rfl) (S_X8_needWants F v1 x1_ h  _ hv) ?_
  refine r_istore_nA dX8_order_9 (by decide) ?_
  refine r_iload_n dX8_order_10 rfl ?_
  refine r_if_ge 16 dX8_order_11 (by decide) hf (fun c16 hf => ?_) (fun c16 hf => ?_)
  · refine r_aload_n dX8_order_16 rfl ?_
    refine r_iconst (v := -1) dX8_order_17 (by decide) ?_
    refine r_putI dX8_order_18 sh_66 ft_X8_373 rfl hf fun h3 hf => ?_
    refine r_aload_n dX8_order_21 rfl ?_
    refine r_ldcw dX8_order_22 cn_X8_383 ?_
    refine r_putI dX8_order_25 sh_66 ft_X8_376 rfl hf fun h4 hf => ?_
    refine r_aload_n dX8_order_28 rfl ?_
    refine r_iconst (v := 0) dX8_order_29 (by decide) ?_
    refine r_iconst (v := 0) dX8_order_30 (by decide) ?_
    refine r_iconst (v := 0) dX8_order_31 (by decide) ?_
    obtain ⟨h5, hv, hf⟩ := bnd hf
    refine r_callV (lv := 16) dX8_order_32 yo_X8_layOrders yi_X8_layOrders ml_X8_379 ya_X8_layOrders sh_66 ⟨_, rfl, rfl⟩ (Fits.vm (by decide)) rfl rfl (Nat.le_of_ble_eq_true rfl) (S_X8_layOrders F 7 (0 : Int32) (0 : Int32) (0 : Int32) h4  _ hv) ?_
    refine r_aload_n dX8_order_35 rfl ?_
    refine r_getS (b := 68) dX8_order_36 sh_66 ft_X8_13 rfl rfl ?_
    refine r_iload_n dX8_order_39 rfl ?_
    refine r_aload_n dX8_order_40 rfl ?_
    refine r_getI dX8_order_41 sh_66 ft_X8_364 rfl ?_
    refine r_iast dX8_order_44 sh_68 hf fun h6 hf => ?_
    refine r_iconst (v := 0) dX8_order_45 (by decide) ?_
    refine r_istoreA dX8_order_46 (by decide) ?_
    refine r_fix (σ := Int32 × Hp) (fun s7 => [some (.ref 66), some (.int x1_), some (.int x2_), some (.int v2.1), some (.int s7.1)]) (fun s7 => s7.2) (fun self8 ih9 s7 hf => ?_) F ((0 : Int32), h6) hf
    refine r_iload dX8_order_48 rfl ?_
    refine r_bipush (v := 40) dX8_order_50 (by decide) ?_
    refine r_icmp_ge 93 dX8_order_52 (by decide) hf (fun c15 hf => ?_) (fun c15 hf => ?_)
    · refine r_aload_n dX8_order_93 rfl ?_
      refine r_getI dX8_order_94 sh_66 ft_X8_373 rfl ?_
      exact e_iH dX8_order_97 rfl hf
    · refine r_aload_n dX8_order_55 rfl ?_
      refine r_getS (b := 69) dX8_order_56 sh_66 ft_X8_16 rfl rfl ?_
      refine r_bipush (v := 40) dX8_order_59 (by decide) ?_
      refine r_iload_n dX8_order_61 rfl ?_
      refine r_imul dX8_order_62 ?_
      refine r_iload dX8_order_63 rfl ?_
      refine r_iadd dX8_order_65 ?_
      refine r_iload dX8_order_66 rfl ?_
      refine r_aload_n dX8_order_68 rfl ?_
      refine r_getI dX8_order_69 sh_66 ft_X8_364 rfl ?_
      refine r_reg (P := fun t10 => Run Y_X8_order (VM 17 (some (.int r.1), r.2)) 86 [some (.ref 66), some (.int x1_), some (.int x2_), some (.int v2.1), some (.int s7.1)] [.int t10, .int (((40 : Int32) * x2_) + s7.1), .ref 69] s7.2) hf (fun t10 hf => ?_) (fun t10 key11 hf => ?_)
      · refine r_iast dX8_order_86 sh_69 hf fun h14 hf => ?_
        refine r_iincA (v := 1) dX8_order_87 rfl (by decide) (by decide) ?_
        refine r_goto 48 dX8_order_90 (by decide) ?_
        exact ih9 _ hf
      · refine r_icmp_ge 85 dX8_order_72 (by decide) hf (fun c13 hf => ?_) (fun c13 hf => ?_)
        · refine r_iconst (v := 0) dX8_order_85 (by decide) ?_
          cases hf; exact key11
        · refine r_aload_n dX8_order_75 rfl ?_
          refine r_getS (b := 101) dX8_order_76 sh_66 ft_X8_114 rfl rfl ?_
          refine r_iload dX8_order_79 rfl ?_
          refine r_iald dX8_order_81 sh_101 hf fun v12 hf => ?_
          refine r_goto 86 dX8_order_82 (by decide) ?_
          cases hf; exact key11
  · refine r_iload_n dX8_order_14 rfl ?_
    exact e_iH dX8_order_15 rfl hf
def f_X8_needKeys (F : Nat) (x1_ : Int32) (h : Hp) : Option (Int32 × Hp) :=
  (ldI h 68 x1_).bind fun v1 =>
  (if 0 ≤ v1 then (
    (ldI h 68 x1_).bind fun v2 =>
    (if v2 ≤ (8 : Int32) then (
      fix (σ := Int32 × Int32) (ρ := (Int32 × Hp)) (fun self4 s3 =>
        (ldI h 68 x1_).bind fun v6 =>
        (if v6 ≤ s3.2 then (
          (Option.bind (α := Int32 × Hp) (
            (if s3.1 = 0 then (
              (f_X8_meets (3 : Int32) h).bind fun v9 =>
              some (v9.1, v9.2))
            else (
              some ((0 : Int32), h)))) fun t7 =>
          some (t7.1, t7.2)))
        else (
          (Option.bind (α := Int32) (
            (if s3.1 = 0 then (
              some (0 : Int32))
            else (
              (f_X8_rowAt x1_ s3.2 h).bind fun v13 =>
              (f_X8_in v13 (0 : Int32) (((1 : Int32) <<< ((gI h 66 11) &&& 31)) - (1 : Int32)) h).bind fun v14 =>
              (if v14 = 0 then (
                some (0 : Int32))
              else (
                some (1 : Int32)))))) fun t11 =>
          self4 (t11, (s3.2 + 1)))))) F ((1 : Int32), (0 : Int32)))
    else (
      (f_X8_meets (5 : Int32) h).bind fun v18 =>
      some (v18.1, v18.2))))
  else (
    (f_X8_meets (1 : Int32) h).bind fun v20 =>
    some (v20.1, v20.2)))
set_option maxRecDepth 100000 in
set_option maxHeartbeats 4000000 in
theorem S_X8_needKeys (F : Nat) (x1_ : Int32) (h : Hp) (r : (Int32 × Hp)) (hf : f_X8_needKeys F x1_ h = some r) : MetP Y_X8_needKeys 2 [.ref 66, .int x1_] h (some (.int r.1), r.2) := by
  unfold f_X8_needKeys at hf
  refine met_of yo_X8_needKeys (Nat.le_of_ble_eq_true rfl) ?_
  show Run Y_X8_needKeys _ 0 [some (.ref 66), some (.int x1_), none, none] [] h
  refine r_aload_n dX8_needKeys_0 rfl ?_
  refine r_getS (b := 68) dX8_needKeys_1 sh_66 ft_X8_13 rfl rfl ?_
  refine r_iload_n dX8_needKeys_4 rfl ?_
  refine r_iald dX8_needKeys_5 sh_68 hf fun v1 hf => ?_
  refine r_if_ge 15 dX8_needKeys_6 (by decide) hf (fun c21 hf => ?_) (fun c21 hf => ?_)
  · refine r_aload_n dX8_needKeys_15 rfl ?_
    refine r_getS (b := 68) dX8_needKeys_16 sh_66 ft_X8_13 rfl rfl ?_
    refine r_iload_n dX8_needKeys_19 rfl ?_
    refine r_iald dX8_needKeys_20 sh_68 hf fun v2 hf => ?_
    refine r_bipush (v := 8) dX8_needKeys_21 (by decide) ?_
    refine r_icmp_le 32 dX8_needKeys_23 (by decide) hf (fun c19 hf => ?_) (fun c19 hf => ?_)
    · refine r_iconst (v := 1) dX8_needKeys_32 (by decide) ?_
      refine r_istore_nA dX8_needKeys_33 (by decide) ?_
      refine r_iconst (v := 0) dX8_needKeys_34 (by decide) ?_
      refine r_istore_nA dX8_needKeys_35 (by decide) ?_
      refine r_fix (σ := Int32 × Int32) (fun s3 => [some (.ref 66), some (.int x1_), some (.int s3.1), some (.int s3.2)]) (fun s3 => h) (fun self4 ih5 s3 hf => ?_) F ((1 : Int32), (0 : Int32)) hf
      refine r_iload_n dX8_needKeys_36 rfl ?_
      refine r_aload_n dX8_needKeys_37 rfl ?_
      refine r_getS (b := 68) dX8_needKeys_38 sh_66 ft_X8_13 rfl rfl ?_
      refine r_iload_n dX8_needKeys_41 rfl ?_
      refine r_iald dX8_needKeys_42 sh_68 hf fun v6 hf => ?_
      refine r_icmp_ge 83 dX8_needKeys_43 (by decide) hf (fun c17 hf => ?_) (fun c17 hf => ?_)
      · refine r_iload_n dX8_needKeys_83 rfl ?_
        refine r_reg (P := fun t7 => Run Y_X8_needKeys (VM 2 (some (.int r.1), r.2)) 96 [some (.ref 66), some (.int x1_), some (.int s3.1), some (.int s3.2)] [.int t7.1] t7.2) hf (fun t7 hf => ?_) (fun t7 key8 hf => ?_)
        · exact e_iH dX8_needKeys_96 rfl hf
        · refine r_if_eq 91 dX8_needKeys_84 (by decide) hf (fun c10 hf => ?_) (fun c10 hf => ?_)
          · refine r_aload_n dX8_needKeys_91 rfl ?_
            refine r_iconst (v := 3) dX8_needKeys_92 (by decide) ?_
            obtain ⟨v9, hv, hf⟩ := bnd hf
            refine r_callV (lv := 1) dX8_needKeys_93 yo_X8_meets yi_X8_meets ml_X8_144 ya_X8_meets sh_66 ⟨_, rfl, rfl⟩ (Fits.vm (by decide)) rfl rfl (Nat.le_of_ble_eq_true rfl) (S_X8_meets (3 : Int32) h  _ hv) ?_
            cases hf; exact key8
          · refine r_iconst (v := 0) dX8_needKeys_87 (by decide) ?_
            refine r_goto 96 dX8_needKeys_88 (by decide) ?_
            cases hf; exact key8
      · refine r_iload_n dX8_needKeys_46 rfl ?_
        refine r_reg (P := fun t11 => Run Y_X8_needKeys (VM 2 (some (.int r.1), r.2)) 76 [some (.ref 66), some (.int x1_), some (.int s3.1), some (.int s3.2)] [.int t11] h) hf (fun t11 hf => ?_) (fun t11 key12 hf => ?_)
        · refine r_istore_nA dX8_needKeys_76 (by decide) ?_
          refine r_iincA (v := 1) dX8_needKeys_77 rfl (by decide) (by decide) ?_
          refine r_goto 36 dX8_needKeys_80 (by decide) ?_
          exact ih5 _ hf
        · refine r_if_eq 75 dX8_needKeys_47 (by decide) hf (fun c16 hf => ?_) (fun c16 hf => ?_)
          · refine r_iconst (v := 0) dX8_needKeys_75 (by decide) ?_
            cases hf; exact key12
          · refine r_aload_n dX8_needKeys_50 rfl ?_
            refine r_iload_n dX8_needKeys_51 rfl ?_
            refine r_iload_n dX8_needKeys_52 rfl ?_
            obtain ⟨v13, hv, hf⟩ := bnd hf
            refine r_callV (lv := 1) dX8_needKeys_53 yo_X8_rowAt yi_X8_rowAt ml_X8_148 ya_X8_rowAt sh_66 ⟨_, rfl, rfl⟩ (Fits.vm (by decide)) rfl rfl (Nat.le_of_ble_eq_true rfl) (S_X8_rowAt x1_ s3.2 h  _ hv) ?_
            refine r_iconst (v := 0) dX8_needKeys_56 (by decide) ?_
            refine r_iconst (v := 1) dX8_needKeys_57 (by decide) ?_
            refine r_aload_n dX8_needKeys_58 rfl ?_
            refine r_getI dX8_needKeys_59 sh_66 ft_X8_227 rfl ?_
            refine r_ishl dX8_needKeys_62 ?_
            refine r_iconst (v := 1) dX8_needKeys_63 (by decide) ?_
            refine r_isub dX8_needKeys_64 ?_
            obtain ⟨v14, hv, hf⟩ := bnd hf
            refine r_callS (lv := 1) dX8_needKeys_65 yo_X8_in ys_X8_in ml_X8_133 ya_X8_in (Fits.vm (by decide)) rfl rfl (Nat.le_of_ble_eq_true rfl) (S_X8_in v13 (0 : Int32) (((1 : Int32) <<< ((gI h 66 11) &&& 31)) - (1 : Int32)) h  _ hv) ?_
            refine r_if_eq 75 dX8_needKeys_68 (by decide) hf (fun c15 hf => ?_) (fun c15 hf => ?_)
            · refine r_iconst (v := 0) dX8_needKeys_75 (by decide) ?_
              cases hf; exact key12
            · refine r_iconst (v := 1) dX8_needKeys_71 (by decide) ?_
              refine r_goto 76 dX8_needKeys_72 (by decide) ?_
              cases hf; exact key12
    · refine r_aload_n dX8_needKeys_26 rfl ?_
      refine r_iconst (v := 5) dX8_needKeys_27 (by decide) ?_
      obtain ⟨v18, hv, hf⟩ := bnd hf
      refine r_callV (lv := 1) dX8_needKeys_28 yo_X8_meets yi_X8_meets ml_X8_144 ya_X8_meets sh_66 ⟨_, rfl, rfl⟩ (Fits.vm (by decide)) rfl rfl (Nat.le_of_ble_eq_true rfl) (S_X8_meets (5 : Int32) h  _ hv) ?_
      exact e_iH dX8_needKeys_31 rfl hf
  · refine r_aload_n dX8_needKeys_9 rfl ?_
    refine r_iconst (v := 1) dX8_needKeys_10 (by decide) ?_
    obtain ⟨v20, hv, hf⟩ := bnd hf
    refine r_callV (lv := 1) dX8_needKeys_11 yo_X8_meets yi_X8_meets ml_X8_144 ya_X8_meets sh_66 ⟨_, rfl, rfl⟩ (Fits.vm (by decide)) rfl rfl (Nat.le_of_ble_eq_true rfl) (S_X8_meets (1 : Int32) h  _ hv) ?_
    exact e_iH dX8_needKeys_14 rfl hf
