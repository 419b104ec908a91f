def f_X7_easter (F : Nat) (x1_ : Int32) (h : Hp) : Option (Int32 × Hp) :=
  (f_X4_knows 1 x1_ h).bind fun v1 =>
  (if v1 = 0 then (
    some ((-1 : Int32), h))
  else (
    (gO h 0 11 (0, 6, 14)).bind fun y2 =>
    (if (gI h y2 4) = 0 then (
      some ((-4 : Int32), h))
    else (
      fix (σ := Int32 × Int32 × Int32) (ρ := (Int32 × Hp)) (fun self4 s3 =>
        (if ((1 : Int32) <<< (((2 : Int32) * (gI h y2 4)) &&& 31)) ≤ s3.2.2 then (
          (f_X4_make F 1 x1_ (gI h y2 4) (0 : Int32) h).bind fun h6 =>
          fix (σ := Int32 × Hp) (ρ := (Int32 × Hp)) (fun self8 s7 =>
            (if (gI h y2 4) ≤ s7.1 then (
              some (s3.2.1, s7.2))
            else (
              (f_X7_manAt s3.1 s7.1 s7.2).bind fun v10 =>
              (f_X4_set 1 x1_ s7.1 v10 s7.2).bind fun h11 =>
              self8 ((s7.1 + 1), h11)))) F ((0 : Int32), h6))
        else (
          (f_X7_isOrderOfMen F s3.2.2 h).bind fun v13 =>
          (Option.bind (α := Int32) (
            (if v13 = 0 then (
              some s3.2.1)
            else (
              (f_X7_quarrelsIn F s3.2.2 h).bind fun v16 =>
              some v16))) fun t14 =>
          (Option.bind (α := Int32 × Int32) (
            (if s3.2.1 ≤ t14 then (
              some (s3.1, s3.2.1))
            else (
              some (s3.2.2, t14)))) fun t18 =>
          self4 (t18.1, t18.2, (s3.2.2 + 1))))))) F ((0 : Int32), (9 : Int32), (0 : Int32))))))
set_option maxRecDepth 100000 in
set_option maxHeartbeats 4000000 in
theorem S_X7_easter (F : Nat) (x1_ : Int32) (h : Hp) (r : (Int32 × Hp)) (hf : f_X7_easter F x1_ h = some r) : MetP Y_X7_easter 4 [.ref 0, .int x1_] h (some (.int r.1), r.2) := by
  unfold f_X7_easter at hf
  refine met_of yo_X7_easter (Nat.le_of_ble_eq_true rfl) ?_
  show Run Y_X7_easter _ 0 [some (.ref 0), some (.int x1_), none, none, none, none, none] [] h
  refine r_aload_n dX7_easter_0 rfl ?_
  refine r_getS (b := 1) dX7_easter_1 sh_0 ft_X7_14 rfl rfl ?_
  refine r_iload_n dX7_easter_4 rfl ?_
  obtain ⟨v1, hv, hf⟩ := bnd hf
  refine r_callV (lv := 1) dX7_easter_5 yo_X4_knows yi_X4_knows ml_X7_114 ya_X4_knows sh_1 ⟨_, rfl, rfl⟩ (Fits.vm (by decide)) rfl rfl (Nat.le_of_ble_eq_true rfl) (S_X4_knows 1 x1_ sh_1 h  _ hv) ?_
  refine r_if_ne 13 dX7_easter_8 (by decide) hf (fun c23 hf => ?_) (fun c23 hf => ?_)
  · refine r_aload_n dX7_easter_13 rfl ?_
    refine r_getR (E := (0, 6, 14)) dX7_easter_14 sh_0 ft_X7_77 rfl hf fun y2 hy2 hf => ?_
    refine r_getI dX7_easter_17 hy2 ft_X7_154 rfl ?_
    refine r_istore_nA dX7_easter_20 (by decide) ?_
    refine r_iload_n dX7_easter_21 rfl ?_
    refine r_if_ne 28 dX7_easter_22 (by decide) hf (fun c22 hf => ?_) (fun c22 hf => ?_)
    · refine r_iconst (v := 0) dX7_easter_28 (by decide) ?_
      refine r_istore_nA dX7_easter_29 (by decide) ?_
      refine r_bipush (v := 9) dX7_easter_30 (by decide) ?_
      refine r_istoreA dX7_easter_32 (by decide) ?_
      refine r_iconst (v := 0) dX7_easter_34 (by decide) ?_
      refine r_istoreA dX7_easter_35 (by decide) ?_
      refine r_fix (σ := Int32 × Int32 × Int32) (fun s3 => [some (.ref 0), some (.int x1_), some (.int (gI h y2 4)), some (.int s3.1), some (.int s3.2.1), some (.int s3.2.2), none]) (fun s3 => h) (fun self4 ih5 s3 hf => ?_) F ((0 : Int32), (9 : Int32), (0 : Int32)) hf
      refine r_iload dX7_easter_37 rfl ?_
      refine r_iconst (v := 1) dX7_easter_39 (by decide) ?_
      refine r_iconst (v := 2) dX7_easter_40 (by decide) ?_
      refine r_iload_n dX7_easter_41 rfl ?_
      refine r_imul dX7_easter_42 ?_
      refine r_ishl dX7_easter_43 ?_
      refine r_icmp_ge 89 dX7_easter_44 (by decide) hf (fun c21 hf => ?_) (fun c21 hf => ?_)
      · refine r_aload_n dX7_easter_89 rfl ?_
        refine r_getS (b := 1) dX7_easter_90 sh_0 ft_X7_14 rfl rfl ?_
        refine r_iload_n dX7_easter_93 rfl ?_
        refine r_iload_n dX7_easter_94 rfl ?_
        refine r_iconst (v := 0) dX7_easter_95 (by decide) ?_
        obtain ⟨h6, hv, hf⟩ := bnd hf
        refine r_callV (lv := 2) dX7_easter_96 yo_X4_make yi_X4_make ml_X7_242 ya_X4_make sh_1 ⟨_, rfl, rfl⟩ (Fits.vm (by decide)) rfl rfl (Nat.le_of_ble_eq_true rfl) (S_X4_make F 1 x1_ (gI h y2 4) (0 : Int32) sh_1 h  _ hv) ?_
        refine r_iconst (v := 0) dX7_easter_99 (by decide) ?_
        refine r_istoreA dX7_easter_100 (by decide) ?_
        refine r_fix (σ := Int32 × Hp) (fun s7 => [some (.ref 0), some (.int x1_), some (.int (gI h y2 4)), some (.int s3.1), some (.int s3.2.1), some (.int s7.1), none]) (fun s7 => s7.2) (fun self8 ih9 s7 hf => ?_) F ((0 : Int32), h6) hf
        refine r_iload dX7_easter_102 rfl ?_
        refine r_iload_n dX7_easter_104 rfl ?_
        refine r_icmp_ge 131 dX7_easter_105 (by decide) hf (fun c12 hf => ?_) (fun c12 hf => ?_)
        · refine r_iload dX7_easter_131 rfl ?_
          exact e_iH dX7_easter_133 rfl hf
        · refine r_aload_n dX7_easter_108 rfl ?_
          refine r_getS (b := 1) dX7_easter_109 sh_0 ft_X7_14 rfl rfl ?_
          refine r_iload_n dX7_easter_112 rfl ?_
          refine r_iload dX7_easter_113 rfl ?_
          refine r_aload_n dX7_easter_115 rfl ?_
          refine r_iload_n dX7_easter_116 rfl ?_
          refine r_iload dX7_easter_117 rfl ?_
          obtain ⟨v10, hv, hf⟩ := bnd hf
          refine r_callV (lv := 1) dX7_easter_119 yo_X7_manAt yi_X7_manAt ml_X7_330 ya_X7_manAt sh_0 ⟨_, rfl, rfl⟩ (Fits.vm (by decide)) rfl rfl (Nat.le_of_ble_eq_true rfl) (S_X7_manAt s3.1 s7.1 s7.2  _ hv) ?_
          obtain ⟨h11, hv, hf⟩ := bnd hf
          refine r_callV (lv := 3) dX7_easter_122 yo_X4_set yi_X4_set ml_X7_103 ya_X4_set sh_1 ⟨_, rfl, rfl⟩ (Fits.vm (by decide)) rfl rfl (Nat.le_of_ble_eq_true rfl) (S_X4_set 1 x1_ s7.1 v10 sh_1 s7.2  _ hv) ?_
          refine r_iincA (v := 1) dX7_easter_125 rfl (by decide) (by decide) ?_
          refine r_goto 102 dX7_easter_128 (by decide) ?_
          exact ih9 _ hf
      · refine r_aload_n dX7_easter_47 rfl ?_
        refine r_iload dX7_easter_48 rfl ?_
        obtain ⟨v13, hv, hf⟩ := bnd hf
        refine r_callV (lv := 2) dX7_easter_50 yo_X7_isOrderOfMen yi_X7_isOrderOfMen ml_X7_324 ya_X7_isOrderOfMen sh_0 ⟨_, rfl, rfl⟩ (Fits.vm (by decide)) rfl rfl (Nat.le_of_ble_eq_true rfl) (S_X7_isOrderOfMen F s3.2.2 h  _ hv) ?_
        refine r_reg (P := fun t14 => Run Y_X7_easter (VM 4 (some (.int r.1), r.2)) 67 [some (.ref 0), some (.int x1_), some (.int (gI h y2 4)), some (.int s3.1), some (.int s3.2.1), some (.int s3.2.2), none] [.int t14] h) hf (fun t14 hf => ?_) (fun t14 key15 hf => ?_)
        · refine r_istoreA dX7_easter_67 (by decide) ?_
          refine r_iload dX7_easter_69 rfl ?_
          refine r_iload dX7_easter_71 rfl ?_
          refine r_reg (P := fun t18 => Run Y_X7_easter (VM 4 (some (.int r.1), r.2)) 83 [some (.ref 0), some (.int x1_), some (.int (gI h y2 4)), some (.int t18.1), some (.int t18.2), some (.int s3.2.2), some (.int t14)] [] h) hf (fun t18 hf => ?_) (fun t18 key19 hf => ?_)
          · refine r_iincA (v := 1) dX7_easter_83 rfl (by decide) (by decide) ?_
            refine r_goto 37 dX7_easter_86 (by decide) ?_
            refine r_lt (ll_s (ll_s (ll_s (ll_s (ll_s (ll_s (ll_n ll_0))))))) ?_
            exact ih5 _ hf
          · refine r_icmp_ge 83 dX7_easter_73 (by decide) hf (fun c20 hf => ?_) (fun c20 hf => ?_)
            · cases hf; exact key19
            · refine r_iload dX7_easter_76 rfl ?_
              refine r_istoreA dX7_easter_78 (by decide) ?_
              refine r_iload dX7_easter_80 rfl ?_
              refine r_istore_nA dX7_easter_82 (by decide) ?_
              cases hf; exact key19
        · refine r_if_eq 65 dX7_easter_53 (by decide) hf (fun c17 hf => ?_) (fun c17 hf => ?_)
          · refine r_iload dX7_easter_65 rfl ?_
            cases hf; exact key15
          · refine r_aload_n dX7_easter_56 rfl ?_
            refine r_iload dX7_easter_57 rfl ?_
            obtain ⟨v16, hv, hf⟩ := bnd hf
            refine r_callV (lv := 2) dX7_easter_59 yo_X7_quarrelsIn yi_X7_quarrelsIn ml_X7_327 ya_X7_quarrelsIn sh_0 ⟨_, rfl, rfl⟩ (Fits.vm (by decide)) rfl rfl (Nat.le_of_ble_eq_true rfl) (S_X7_quarrelsIn F s3.2.2 h  _ hv) ?_
            refine r_goto 67 dX7_easter_62 (by decide) ?_
            cases hf; exact key15
    · refine r_bipush (v := -4) dX7_easter_25 (by decide) ?_
      exact e_iH dX7_easter_27 rfl hf
  · refine r_iconst (v := -1) dX7_easter_11 (by decide) ?_
    exact e_iH dX7_easter_12 rfl hf
def f_X7_lots (F : Nat) (x1_ : Int32) (x2_ : Int32) (h : Hp) : Option (Int32 × Hp) :=
  (if x1_ < (1 : Int32) then (
    some ((-1 : Int32), h))
  else (
    (if (60 : Int32) < x1_ then (
      some ((-1 : Int32), h))
    else (
      (if x2_ < (1 : Int32) then (
        some ((-1 : Int32), h))
      else (
        (if x2_ ≤ (2147483646 : Int32) then (
          (gO h 0 11 (0, 6, 14)).bind fun y1 =>
          (if (gI h y1 4) = 0 then (
            some ((-4 : Int32), h))
          else (
            (if ((gI h 18 4) + x1_) ≤ (60 : Int32) then (
              fix (σ := Int64 × Int32 × Hp) (ρ := (Int32 × Hp)) (fun self3 s2 =>
                (if x1_ ≤ s2.2.1 then (
                  some (((gI s2.2.2 18 4) - (gI h 18 4)), s2.2.2))
                else (
                  nm ((rem64 (s2.1 * (48271 : Int64)) (2147483647 : Int64))) fun x5 =>
                  (gO s2.2.2 0 11 (0, 6, 14)).bind fun y6 =>
                  (rmL x5 ((gI s2.2.2 y6 4)).toInt64).bind fun v7 =>
                  nm (((rem64 (x5 / (64 : Int64)) (4 : Int64))).toInt32) fun x8 =>
                  (f_X2_after F (gI s2.2.2 18 1) (v7).toInt32 x8 s2.2.2).bind fun v9 =>
                  (Option.bind (α := Hp) (
                    (if v9 = (-9 : Int32) then (
                      some s2.2.2)
                    else (
                      (f_X7_stepOf (v7).toInt32 x8 s2.2.2).bind fun v12 =>
                      (f_X0_go 18 v12 v9 s2.2.2).bind fun h13 =>
                      some h13))) fun t10 =>
                  self3 (x5, (s2.2.1 + 1), t10))))) F ((x2_).toInt64, (0 : Int32), h))
            else (
              some ((-2 : Int32), h))))))
        else (
          some ((-1 : Int32), h)))))))))
set_option maxRecDepth 100000 in
set_option maxHeartbeats 4000000 in
theorem S_X7_lots (F : Nat) (x1_ : Int32) (x2_ : Int32) (h : Hp) (r : (Int32 × Hp)) (hf : f_X7_lots F x1_ x2_ h = some r) : MetP Y_X7_lots 3 [.ref 0, .int x1_, .int x2_] h (some (.int r.1), r.2) := by
  unfold f_X7_lots at hf
  refine met_of yo_X7_lots (Nat.le_of_ble_eq_true rfl) ?_
  show Run Y_X7_lots _ 0 [some (.ref 0), some (.int x1_), some (.int x2_), none, none, none, none, none, none, none] [] h
  refine r_iload_n dX7_lots_0 rfl ?_
  refine r_iconst (v := 1) dX7_lots_1 (by decide) ?_
  refine r_icmp_lt 23 dX7_lots_2 (by decide) hf (fun c21 hf => ?_) (fun c21 hf => ?_)
  · refine r_iconst (v := -1) dX7_lots_23 (by decide) ?_
    exact e_iH dX7_lots_24 rfl hf
  · refine r_iload_n dX7_lots_5 rfl ?_
    refine r_bipush (v := 60) dX7_lots_6 (by decide) ?_
    refine r_icmp_gt 23 dX7_lots_8 (by decide) hf (fun c20 hf => ?_) (fun c20 hf => ?_)
    · refine r_iconst (v := -1) dX7_lots_23 (by decide) ?_
      exact e_iH dX7_lots_24 rfl hf
    · refine r_iload_n dX7_lots_11 rfl ?_
      refine r_iconst (v := 1) dX7_lots_12 (by decide) ?_
      refine r_icmp_lt 23 dX7_lots_13 (by decide) hf (fun c19 hf => ?_) (fun c19 hf => ?_)
      · refine r_iconst (v := -1) dX7_lots_23 (by decide) ?_
        exact e_iH dX7_lots_24 rfl hf
      · refine r_iload_n dX7_lots_16 rfl ?_
        refine r_ldcw dX7_lots_17 cn_X7_333 ?_
        refine r_icmp_le 25 dX7_lots_20 (by decide) hf (fun c18 hf => ?_) (fun c18 hf => ?_)
        · refine r_aload_n dX7_lots_25 rfl ?_
          refine r_getR (E := (0, 6, 14)) dX7_lots_26 sh_0 ft_X7_77 rfl hf fun y1 hy1 hf => ?_
          refine r_getI dX7_lots_29 hy1 ft_X7_154 rfl ?_
          refine r_if_ne 38 dX7_lots_32 (by decide) hf (fun c17 hf => ?_) (fun c17 hf => ?_)
          · refine r_aload_n dX7_lots_38 rfl ?_
            refine r_getS (b := 18) dX7_lots_39 sh_0 ft_X7_31 rfl rfl ?_
            refine r_getI dX7_lots_42 sh_18 ft_X7_206 rfl ?_
            refine r_iload_n dX7_lots_45 rfl ?_
            refine r_iadd dX7_lots_46 ?_
            refine r_bipush (v := 60) dX7_lots_47 (by decide) ?_
            refine r_icmp_le 55 dX7_lots_49 (by decide) hf (fun c16 hf => ?_) (fun c16 hf => ?_)
            · refine r_aload_n dX7_lots_55 rfl ?_
              refine r_getS (b := 18) dX7_lots_56 sh_0 ft_X7_31 rfl rfl ?_
              refine r_getI dX7_lots_59 sh_18 ft_X7_206 rfl ?_
              refine r_istore_nA dX7_lots_62 (by decide) ?_
              refine r_iload_n dX7_lots_63 rfl ?_
              refine r_i2l dX7_lots_64 ?_
              refine r_lstoreA dX7_lots_65 (by decide) ?_
              refine r_iconst (v := 0) dX7_lots_67 (by decide) ?_
              refine r_istoreA dX7_lots_68 (by decide) ?_
              refine r_fix (σ := Int64 × Int32 × Hp) (fun s2 => [some (.ref 0), some (.int x1_), some (.int x2_), some (.int (gI h 18 4)), some (.long s2.1), none, some (.int s2.2.1), none, none, none]) (fun s2 => s2.2.2) (fun self3 ih4 s2 hf => ?_) F ((x2_).toInt64, (0 : Int32), h) hf
              refine r_iload dX7_lots_70 rfl ?_
              refine r_iload_n dX7_lots_72 rfl ?_
              refine r_icmp_ge 164 dX7_lots_73 (by decide) hf (fun c15 hf => ?_) (fun c15 hf => ?_)
              · refine r_aload_n dX7_lots_164 rfl ?_
                refine r_getS (b := 18) dX7_lots_165 sh_0 ft_X7_31 rfl rfl ?_
                refine r_getI dX7_lots_168 sh_18 ft_X7_206 rfl ?_
                refine r_iload_n dX7_lots_171 rfl ?_
                refine r_isub dX7_lots_172 ?_
                exact e_iH dX7_lots_173 rfl hf
              · refine r_lload dX7_lots_76 rfl ?_
                refine r_ldc2 dX7_lots_78 cn_X7_334 ?_
                refine r_lmul dX7_lots_81 ?_
                refine r_ldc2 dX7_lots_82 cn_X7_336 ?_
                refine r_lremK dX7_lots_85 (by decide) ?_
                refine r_lstore dX7_lots_86 (by decide) hf fun x5 hf => ?_
                refine r_lload dX7_lots_88 rfl ?_
                refine r_aload_n dX7_lots_90 rfl ?_
                refine r_getR (E := (0, 6, 14)) dX7_lots_91 sh_0 ft_X7_77 rfl hf fun y6 hy6 hf => ?_
                refine r_getI dX7_lots_94 hy6 ft_X7_154 rfl ?_
                refine r_i2l dX7_lots_97 ?_
                refine r_lrem dX7_lots_98 hf fun v7 hf => ?_
                refine r_l2i dX7_lots_99 ?_
                refine r_istoreA dX7_lots_100 (by decide) ?_
                refine r_lload dX7_lots_102 rfl ?_
                refine r_ldc2 dX7_lots_104 cn_X7_338 ?_
                refine r_ldivK dX7_lots_107 (by decide) ?_
                refine r_ldc2 dX7_lots_108 cn_X7_340 ?_
                refine r_lremK dX7_lots_111 (by decide) ?_
                refine r_l2i dX7_lots_112 ?_
                refine r_istore dX7_lots_113 (by decide) hf fun x8 hf => ?_
                refine r_aload_n dX7_lots_115 rfl ?_
                refine r_getS (b := 22) dX7_lots_116 sh_0 ft_X7_42 rfl rfl ?_
                refine r_aload_n dX7_lots_119 rfl ?_
                refine r_getS (b := 18) dX7_lots_120 sh_0 ft_X7_31 rfl rfl ?_
                refine r_getI dX7_lots_123 sh_18 ft_X7_199 rfl ?_
                refine r_iload dX7_lots_126 rfl ?_
                refine r_iload dX7_lots_128 rfl ?_
                obtain ⟨v9, hv, hf⟩ := bnd hf
                refine r_callV (lv := 2) dX7_lots_130 yo_X2_after yi_X2_after ml_X7_202 ya_X2_after sh_22 ⟨_, rfl, rfl⟩ (Fits.vm (by decide)) rfl rfl (Nat.le_of_ble_eq_true rfl) (S_X2_after F (gI s2.2.2 18 1) (v7).toInt32 x8 s2.2.2  _ hv) ?_
                refine r_istoreA dX7_lots_133 (by decide) ?_
                refine r_iload dX7_lots_135 rfl ?_
                refine r_bipush (v := -9) dX7_lots_137 (by decide) ?_
                refine r_reg (P := fun t10 => Run Y_X7_lots (VM 3 (some (.int r.1), r.2)) 158 [some (.ref 0), some (.int x1_), some (.int x2_), some (.int (gI h 18 4)), some (.long x5), none, some (.int s2.2.1), some (.int (v7).toInt32), some (.int x8), some (.int v9)] [] t10) hf (fun t10 hf => ?_) (fun t10 key11 hf => ?_)
                · refine r_iincA (v := 1) dX7_lots_158 rfl (by decide) (by decide) ?_
                  refine r_goto 70 dX7_lots_161 (by decide) ?_
                  refine r_lt (ll_s (ll_s (ll_s (ll_s (ll_s (ll_n (ll_s (ll_n (ll_n (ll_n ll_0)))))))))) ?_
                  exact ih4 _ hf
                · refine r_icmp_eq 158 dX7_lots_139 (by decide) hf (fun c14 hf => ?_) (fun c14 hf => ?_)
                  · cases hf; exact key11
                  · refine r_aload_n dX7_lots_142 rfl ?_
                    refine r_getS (b := 18) dX7_lots_143 sh_0 ft_X7_31 rfl rfl ?_
                    refine r_iload dX7_lots_146 rfl ?_
                    refine r_iload dX7_lots_148 rfl ?_
                    obtain ⟨v12, hv, hf⟩ := bnd hf
                    refine r_callS (lv := 1) dX7_lots_150 yo_X7_stepOf ys_X7_stepOf ml_X7_209 ya_X7_stepOf (Fits.vm (by decide)) rfl rfl (Nat.le_of_ble_eq_true rfl) (S_X7_stepOf (v7).toInt32 x8 s2.2.2  _ hv) ?_
                    refine r_iload dX7_lots_153 rfl ?_
                    obtain ⟨h13, hv, hf⟩ := bnd hf
                    refine r_callV (lv := 1) dX7_lots_155 yo_X0_go yi_X0_go ml_X7_212 ya_X0_go sh_18 ⟨_, rfl, rfl⟩ (Fits.vm (by decide)) rfl rfl (Nat.le_of_ble_eq_true rfl) (S_X0_go 18 v12 v9 sh_18 s2.2.2  _ hv) ?_
                    cases hf; exact key11
            · refine r_bipush (v := -2) dX7_lots_52 (by decide) ?_
              exact e_iH dX7_lots_54 rfl hf
          · refine r_bipush (v := -4) dX7_lots_35 (by decide) ?_
            exact e_iH dX7_lots_37 rfl hf
        · refine r_iconst (v := -1) dX7_lots_23 (by decide) ?_
          exact e_iH dX7_lots_24 rfl hf
def f_X7_asked  (h : Hp) : Option Int32 :=
  some (gI h 0 14)
set_option maxRecDepth 100000 in
set_option maxHeartbeats 4000000 in
theorem S_X7_asked  (h : Hp) (r : Int32) (hf : f_X7_asked h = some r) : MetP Y_X7_asked 1 [.ref 0] h (some (.int r), h) := by
  unfold f_X7_asked at hf
  refine met_of yo_X7_asked (Nat.le_of_ble_eq_true rfl) ?_
  show Run Y_X7_asked _ 0 [some (.ref 0)] [] h
  refine r_aload_n dX7_asked_0 rfl ?_
  refine r_getI dX7_asked_1 sh_0 ft_X7_99 rfl ?_
  exact e_iP dX7_asked_4 rfl hf
def f_X7_possibleSteps (F : Nat)  (h : Hp) : Option Int32 :=
  fix (σ := Int32 × Int32) (ρ := Int32) (fun self2 s1 =>
    (gO h 0 11 (0, 6, 14)).bind fun y4 =>
    (if (gI h y4 4) ≤ s1.2 then (
      some s1.1)
    else (
      (f_X7_waysOpenTo F s1.2 h).bind fun v5 =>
      (f_J6_bitCount_0f7a4 v5 h).bind fun v6 =>
      self2 ((s1.1 + v6), (s1.2 + 1))))) F ((0 : Int32), (0 : Int32))
set_option maxRecDepth 100000 in
set_option maxHeartbeats 4000000 in
theorem S_X7_possibleSteps (F : Nat)  (h : Hp) (r : Int32) (hf : f_X7_possibleSteps F h = some r) : MetP Y_X7_possibleSteps 4 [.ref 0] h (some (.int r), h) := by
  unfold f_X7_possibleSteps at hf
  refine met_of yo_X7_possibleSteps (Nat.le_of_ble_eq_true rfl) ?_
  show Run Y_X7_possibleSteps _ 0 [some (.ref 0), none, none] [] h
  refine r_iconst (v := 0) dX7_possibleSteps_0 (by decide) ?_
  refine r_istore_nA dX7_possibleSteps_1 (by decide) ?_
  refine r_iconst (v := 0) dX7_possibleSteps_2 (by decide) ?_
  refine r_istore_nA dX7_possibleSteps_3 (by decide) ?_
  refine r_fix (σ := Int32 × Int32) (fun s1 => [some (.ref 0), some (.int s1.1), some (.int s1.2)]) (fun s1 => h) (fun self2 ih3 s1 hf => ?_) F ((0 : Int32), (0 : Int32)) hf
  refine r_iload_n dX7_possibleSteps_4 rfl ?_
  refine r_aload_n dX7_possibleSteps_5 rfl ?_
  refine r_getR (E := (0, 6, 14)) dX7_possibleSteps_6 sh_0 ft_X7_77 rfl hf fun y4 hy4 hf => ?_
  refine r_getI dX7_possibleSteps_9 hy4 ft_X7_154 rfl ?_
  refine r_icmp_ge 32 dX7_possibleSteps_12 (by decide) hf (fun c7 hf => ?_) (fun c7 hf => ?_)
  · refine r_iload_n dX7_possibleSteps_32 rfl ?_
    exact e_iP dX7_possibleSteps_33 rfl hf
  · refine r_iload_n dX7_possibleSteps_15 rfl ?_
    refine r_aload_n dX7_possibleSteps_16 rfl ?_
    refine r_iload_n dX7_possibleSteps_17 rfl ?_
    obtain ⟨v5, hv, hf⟩ := bnd hf
    refine r_callV (lv := 3) dX7_possibleSteps_18 yo_X7_waysOpenTo yi_X7_waysOpenTo ml_X7_176 ya_X7_waysOpenTo sh_0 ⟨_, rfl, rfl⟩ (Fits.vm (by decide)) rfl rfl (Nat.le_of_ble_eq_true rfl) (S_X7_waysOpenTo F s1.2 h  _ hv) ?_
    obtain ⟨v6, hv, hf⟩ := bnd hf
    refine r_callS (lv := 1) dX7_possibleSteps_21 yo_J6_bitCount_0f7a4 ys_J6_bitCount_0f7a4 ml_X7_179 ya_J6_bitCount_0f7a4 (Fits.vm (by decide)) rfl rfl (Nat.le_of_ble_eq_true rfl) (S_J6_bitCount_0f7a4 v5 h  _ hv) ?_
    refine r_iadd dX7_possibleSteps_24 ?_
    refine r_istore_nA dX7_possibleSteps_25 (by decide) ?_
    refine r_iincA (v := 1) dX7_possibleSteps_26 rfl (by decide) (by decide) ?_
    refine r_goto 4 dX7_possibleSteps_29 (by decide) ?_
    exact ih3 _ hf
def f_X7_commonPart (F : Nat)  (h : Hp) : Option Int32 :=
  (gO h 0 11 (0, 6, 14)).bind fun y1 =>
  nm (((4 : Int32) * (gI h y1 4))) fun x2 =>
  (f_X7_possibleSteps F h).bind fun v3 =>
  fix (σ := Int32) (ρ := Int32) (fun self5 s4 =>
    (if s4 ≤ (1 : Int32) then (
      some (1 : Int32))
    else (
      (rmI x2 s4).bind fun v7 =>
      (if v7 = 0 then (
        (rmI v3 s4).bind fun v8 =>
        (if v8 = 0 then (
          some s4)
        else (
          self5 (s4 + (-1)))))
      else (
        self5 (s4 + (-1))))))) F x2
set_option maxRecDepth 100000 in
set_option maxHeartbeats 4000000 in
theorem S_X7_commonPart (F : Nat)  (h : Hp) (r : Int32) (hf : f_X7_commonPart F h = some r) : MetP Y_X7_commonPart 5 [.ref 0] h (some (.int r), h) := by
  unfold f_X7_commonPart at hf
  refine met_of yo_X7_commonPart (Nat.le_of_ble_eq_true rfl) ?_
  show Run Y_X7_commonPart _ 0 [some (.ref 0), none, none, none] [] h
  refine r_iconst (v := 4) dX7_commonPart_0 (by decide) ?_
  refine r_aload_n dX7_commonPart_1 rfl ?_
  refine r_getR (E := (0, 6, 14)) dX7_commonPart_2 sh_0 ft_X7_77 rfl hf fun y1 hy1 hf => ?_
  refine r_getI dX7_commonPart_5 hy1 ft_X7_154 rfl ?_
  refine r_imul dX7_commonPart_8 ?_
  refine r_istore_n dX7_commonPart_9 (by decide) hf fun x2 hf => ?_
  refine r_aload_n dX7_commonPart_10 rfl ?_
  obtain ⟨v3, hv, hf⟩ := bnd hf
  refine r_callV (lv := 4) dX7_commonPart_11 yo_X7_possibleSteps yi_X7_possibleSteps ml_X7_342 ya_X7_possibleSteps sh_0 ⟨_, rfl, rfl⟩ (Fits.vm (by decide)) rfl rfl (Nat.le_of_ble_eq_true rfl) (S_X7_possibleSteps F h  _ hv) ?_
  refine r_istore_nA dX7_commonPart_14 (by decide) ?_
  refine r_iload_n dX7_commonPart_15 rfl ?_
  refine r_istore_nA dX7_commonPart_16 (by decide) ?_
  refine r_fix (σ := Int32) (fun s4 => [some (.ref 0), some (.int x2), some (.int v3), some (.int s4)]) (fun s4 => h) (fun self5 ih6 s4 hf => ?_) F x2 hf
  refine r_iload_n dX7_commonPart_17 rfl ?_
  refine r_iconst (v := 1) dX7_commonPart_18 (by decide) ?_
  refine r_icmp_le 42 dX7_commonPart_19 (by decide) hf (fun c11 hf => ?_) (fun c11 hf => ?_)
  · refine r_iconst (v := 1) dX7_commonPart_42 (by decide) ?_
    exact e_iP dX7_commonPart_43 rfl hf
  · refine r_iload_n dX7_commonPart_22 rfl ?_
    refine r_iload_n dX7_commonPart_23 rfl ?_
    refine r_irem dX7_commonPart_24 hf fun v7 hf => ?_
    refine r_if_ne 36 dX7_commonPart_25 (by decide) hf (fun c10 hf => ?_) (fun c10 hf => ?_)
    · refine r_iincA (v := -1) dX7_commonPart_36 rfl (by decide) (by decide) ?_
      refine r_goto 17 dX7_commonPart_39 (by decide) ?_
      exact ih6 _ hf
    · refine r_iload_n dX7_commonPart_28 rfl ?_
      refine r_iload_n dX7_commonPart_29 rfl ?_
      refine r_irem dX7_commonPart_30 hf fun v8 hf => ?_
      refine r_if_ne 36 dX7_commonPart_31 (by decide) hf (fun c9 hf => ?_) (fun c9 hf => ?_)
      · refine r_iincA (v := -1) dX7_commonPart_36 rfl (by decide) (by decide) ?_
        refine r_goto 17 dX7_commonPart_39 (by decide) ?_
        exact ih6 _ hf
      · refine r_iload_n dX7_commonPart_34 rfl ?_
        exact e_iP dX7_commonPart_35 rfl hf
def f_X7_upper (F : Nat)  (h : Hp) : Option Int64 :=
  (gO h 0 11 (0, 6, 14)).bind fun y1 =>
  (Option.bind (α := Int64) (
    (if (gI h y1 4) = 0 then (
      some (0 : Int64))
    else (
      (f_X7_possibleSteps F h).bind fun v4 =>
      (f_X7_commonPart F h).bind fun v5 =>
      (dvI v4 v5).bind fun v6 =>
      some (v6).toInt64))) fun t2 =>
  some t2)
set_option maxRecDepth 100000 in
set_option maxHeartbeats 4000000 in
theorem S_X7_upper (F : Nat)  (h : Hp) (r : Int64) (hf : f_X7_upper F h = some r) : MetP Y_X7_upper 6 [.ref 0] h (some (.long r), h) := by
  unfold f_X7_upper at hf
  refine met_of yo_X7_upper (Nat.le_of_ble_eq_true rfl) ?_
  show Run Y_X7_upper _ 0 [some (.ref 0)] [] h
  refine r_aload_n dX7_upper_0 rfl ?_
  refine r_getR (E := (0, 6, 14)) dX7_upper_1 sh_0 ft_X7_77 rfl hf fun y1 hy1 hf => ?_
  refine r_getI dX7_upper_4 hy1 ft_X7_154 rfl ?_
  refine r_reg (P := fun t2 => Run Y_X7_upper (VM 6 (some (.long r), h)) 24 [some (.ref 0)] [.long t2] h) hf (fun t2 hf => ?_) (fun t2 key3 hf => ?_)
  · exact e_lP dX7_upper_24 rfl hf
  · refine r_if_ne 14 dX7_upper_7 (by decide) hf (fun c7 hf => ?_) (fun c7 hf => ?_)
    · refine r_aload_n dX7_upper_14 rfl ?_
      obtain ⟨v4, hv, hf⟩ := bnd hf
      refine r_callV (lv := 4) dX7_upper_15 yo_X7_possibleSteps yi_X7_possibleSteps ml_X7_342 ya_X7_possibleSteps sh_0 ⟨_, rfl, rfl⟩ (Fits.vm (by decide)) rfl rfl (Nat.le_of_ble_eq_true rfl) (S_X7_possibleSteps F h  _ hv) ?_
      refine r_aload_n dX7_upper_18 rfl ?_
      obtain ⟨v5, hv, hf⟩ := bnd hf
      refine r_callV (lv := 5) dX7_upper_19 yo_X7_commonPart yi_X7_commonPart ml_X7_345 ya_X7_commonPart sh_0 ⟨_, rfl, rfl⟩ (Fits.vm (by decide)) rfl rfl (Nat.le_of_ble_eq_true rfl) (S_X7_commonPart F h  _ hv) ?_
      refine r_idiv dX7_upper_22 hf fun v6 hf => ?_
      refine r_i2l dX7_upper_23 ?_
      cases hf; exact key3
    · refine r_lconst (v := 0) dX7_upper_10 (by decide) ?_
      refine r_goto 24 dX7_upper_11 (by decide) ?_
      cases hf; exact key3
def f_X7_lower (F : Nat)  (h : Hp) : Option Int64 :=
  (gO h 0 11 (0, 6, 14)).bind fun y1 =>
  (Option.bind (α := Int64) (
    (if (gI h y1 4) = 0 then (
      some (1 : Int64))
    else (
      (gO h 0 11 (0, 6, 14)).bind fun y4 =>
      (f_X7_commonPart F h).bind fun v5 =>
      (dvI ((4 : Int32) * (gI h y4 4)) v5).bind fun v6 =>
      some (v6).toInt64))) fun t2 =>
  some t2)
set_option maxRecDepth 100000 in
set_option maxHeartbeats 4000000 in
theorem S_X7_lower (F : Nat)  (h : Hp) (r : Int64) (hf : f_X7_lower F h = some r) : MetP Y_X7_lower 6 [.ref 0] h (some (.long r), h) := by
  unfold f_X7_lower at hf
  refine met_of yo_X7_lower (Nat.le_of_ble_eq_true rfl) ?_
  show Run Y_X7_lower _ 0 [some (.ref 0)] [] h
  refine r_aload_n dX7_lower_0 rfl ?_
  refine r_getR (E := (0, 6, 14)) dX7_lower_1 sh_0 ft_X7_77 rfl hf fun y1 hy1 hf => ?_
  refine r_getI dX7_lower_4 hy1 ft_X7_154 rfl ?_
  refine r_reg (P := fun t2 => Run Y_X7_lower (VM 6 (some (.long r), h)) 29 [some (.ref 0)] [.long t2] h) hf (fun t2 hf => ?_) (fun t2 key3 hf => ?_)
  · exact e_lP dX7_lower_29 rfl hf
  · refine r_if_ne 14 dX7_lower_7 (by decide) hf (fun c7 hf => ?_) (fun c7 hf => ?_)
    · refine r_iconst (v := 4) dX7_lower_14 (by decide) ?_
      refine r_aload_n dX7_lower_15 rfl ?_
      refine r_getR (E := (0, 6, 14)) dX7_lower_16 sh_0 ft_X7_77 rfl hf fun y4 hy4 hf => ?_
      refine r_getI dX7_lower_19 hy4 ft_X7_154 rfl ?_
      refine r_imul dX7_lower_22 ?_
      refine r_aload_n dX7_lower_23 rfl ?_
      obtain ⟨v5, hv, hf⟩ := bnd hf
      refine r_callV (lv := 5) dX7_lower_24 yo_X7_commonPart yi_X7_commonPart ml_X7_345 ya_X7_commonPart sh_0 ⟨_, rfl, rfl⟩ (Fits.vm (by decide)) rfl rfl (Nat.le_of_ble_eq_true rfl) (S_X7_commonPart F h  _ hv) ?_
      refine r_idiv dX7_lower_27 hf fun v6 hf => ?_
      refine r_i2l dX7_lower_28 ?_
      cases hf; exact key3
    · refine r_lconst (v := 1) dX7_lower_10 (by decide) ?_
      refine r_goto 29 dX7_lower_11 (by decide) ?_
      cases hf; exact key3
def f_X7_sleepers (F : Nat)  (h : Hp) : Option Int32 :=
  fix (σ := Int32 × Int32) (ρ := Int32) (fun self2 s1 =>
    (gO h 0 11 (0, 6, 14)).bind fun y4 =>
    (if (gI h y4 4) ≤ s1.2 then (
      some s1.1)
    else (
      (gO h 0 11 (0, 6, 14)).bind fun y5 =>
      (f_X6_is F y5 s1.2 (2 : Int32) h).bind fun v6 =>
      (Option.bind (α := Int32) (
        (if v6 = 0 then (
          some s1.1)
        else (
          some (s1.1 + 1)))) fun t7 =>
      self2 (t7, (s1.2 + 1)))))) F ((0 : Int32), (0 : Int32))
set_option maxRecDepth 100000 in
set_option maxHeartbeats 4000000 in
theorem S_X7_sleepers (F : Nat)  (h : Hp) (r : Int32) (hf : f_X7_sleepers F h = some r) : MetP Y_X7_sleepers 2 [.ref 0] h (some (.int r), h) := by
  unfold f_X7_sleepers at hf
  refine met_of yo_X7_sleepers (Nat.le_of_ble_eq_true rfl) ?_
  show Run Y_X7_sleepers _ 0 [some (.ref 0), none, none] [] h
  refine r_iconst (v := 0) dX7_sleepers_0 (by decide) ?_
  refine r_istore_nA dX7_sleepers_1 (by decide) ?_
  refine r_iconst (v := 0) dX7_sleepers_2 (by decide) ?_
  refine r_istore_nA dX7_sleepers_3 (by decide) ?_
  refine r_fix (σ := Int32 × Int32) (fun s1 => [some (.ref 0), some (.int s1.1), some (.int s1.2)]) (fun s1 => h) (fun self2 ih3 s1 hf => ?_) F ((0 : Int32), (0 : Int32)) hf
  refine r_iload_n dX7_sleepers_4 rfl ?_
  refine r_aload_n dX7_sleepers_5 rfl ?_
  refine r_getR (E := (0, 6, 14)) dX7_sleepers_6 sh_0 ft_X7_77 rfl hf fun y4 hy4 hf => ?_
  refine r_getI dX7_sleepers_9 hy4 ft_X7_154 rfl ?_
  refine r_icmp_ge 36 dX7_sleepers_12 (by decide) hf (fun c10 hf => ?_) (fun c10 hf => ?_)
  · refine r_iload_n dX7_sleepers_36 rfl ?_
    exact e_iP dX7_sleepers_37 rfl hf
  · refine r_aload_n dX7_sleepers_15 rfl ?_
    refine r_getR (E := (0, 6, 14)) dX7_sleepers_16 sh_0 ft_X7_77 rfl hf fun y5 hy5 hf => ?_
    refine r_iload_n dX7_sleepers_19 rfl ?_
    refine r_iconst (v := 2) dX7_sleepers_20 (by decide) ?_
    obtain ⟨v6, hv, hf⟩ := bnd hf
    refine r_callV (lv := 1) dX7_sleepers_21 yo_X6_is yi_X6_is ml_X7_169 ya_X6_is hy5 ⟨_, rfl, rfl⟩ (Fits.vm (by decide)) rfl rfl (Nat.le_of_ble_eq_true rfl) (S_X6_is F y5 s1.2 (2 : Int32) hy5 h  _ hv) ?_
    refine r_reg (P := fun t7 => Run Y_X7_sleepers (VM 2 (some (.int r), h)) 30 [some (.ref 0), some (.int t7), some (.int s1.2)] [] h) hf (fun t7 hf => ?_) (fun t7 key8 hf => ?_)
    · refine r_iincA (v := 1) dX7_sleepers_30 rfl (by decide) (by decide) ?_
      refine r_goto 4 dX7_sleepers_33 (by decide) ?_
      exact ih3 _ hf
    · refine r_if_eq 30 dX7_sleepers_24 (by decide) hf (fun c9 hf => ?_) (fun c9 hf => ?_)
      · cases hf; exact key8
      · refine r_iincA (v := 1) dX7_sleepers_27 rfl (by decide) (by decide) ?_
        cases hf; exact key8
def f_X7_yardsKept (F : Nat)  (h : Hp) : Option Int32 :=
  fix (σ := Int32 × Int32) (ρ := Int32) (fun self2 s1 =>
    (if (3 : Int32) ≤ s1.2 then (
      some s1.1)
    else (
      (ldR 21 s1.2).bind fun b4 =>
      (Option.bind (α := Int32) (
        (if (gI h b4 0) = 0 then (
          some s1.1)
        else (
          some (s1.1 + 1)))) fun t5 =>
      self2 (t5, (s1.2 + 1)))))) F ((0 : Int32), (0 : Int32))
set_option maxRecDepth 100000 in
set_option maxHeartbeats 4000000 in
theorem S_X7_yardsKept (F : Nat)  (h : Hp) (r : Int32) (hf : f_X7_yardsKept F h = some r) : MetP Y_X7_yardsKept 1 [.ref 0] h (some (.int r), h) := by
  unfold f_X7_yardsKept at hf
  refine met_of yo_X7_yardsKept (Nat.le_of_ble_eq_true rfl) ?_
  show Run Y_X7_yardsKept _ 0 [some (.ref 0), none, none] [] h
  refine r_iconst (v := 0) dX7_yardsKept_0 (by decide) ?_
  refine r_istore_nA dX7_yardsKept_1 (by decide) ?_
  refine r_iconst (v := 0) dX7_yardsKept_2 (by decide) ?_
  refine r_istore_nA dX7_yardsKept_3 (by decide) ?_
  refine r_fix (σ := Int32 × Int32) (fun s1 => [some (.ref 0), some (.int s1.1), some (.int s1.2)]) (fun s1 => h) (fun self2 ih3 s1 hf => ?_) F ((0 : Int32), (0 : Int32)) hf
  refine r_iload_n dX7_yardsKept_4 rfl ?_
  refine r_iconst (v := 3) dX7_yardsKept_5 (by decide) ?_
  refine r_icmp_ge 30 dX7_yardsKept_6 (by decide) hf (fun c8 hf => ?_) (fun c8 hf => ?_)
  · refine r_iload_n dX7_yardsKept_30 rfl ?_
    exact e_iP dX7_yardsKept_31 rfl hf
  · refine r_aload_n dX7_yardsKept_9 rfl ?_
    refine r_getS (b := 21) dX7_yardsKept_10 sh_0 ft_X7_35 rfl rfl ?_
    refine r_iload_n dX7_yardsKept_13 rfl ?_
    refine r_aald (E := (0, 0, 7)) dX7_yardsKept_14 sh_21 (Or.inr rfl) se_kept hf fun b4 hb4 hf => ?_
    refine r_getI dX7_yardsKept_15 hb4 ft_X7_147 rfl ?_
    refine r_reg (P := fun t5 => Run Y_X7_yardsKept (VM 1 (some (.int r), h)) 24 [some (.ref 0), some (.int t5), some (.int s1.2)] [] h) hf (fun t5 hf => ?_) (fun t5 key6 hf => ?_)
    · refine r_iincA (v := 1) dX7_yardsKept_24 rfl (by decide) (by decide) ?_
      refine r_goto 4 dX7_yardsKept_27 (by decide) ?_
      exact ih3 _ hf
    · refine r_if_eq 24 dX7_yardsKept_18 (by decide) hf (fun c7 hf => ?_) (fun c7 hf => ?_)
      · cases hf; exact key6
      · refine r_iincA (v := 1) dX7_yardsKept_21 rfl (by decide) (by decide) ?_
        cases hf; exact key6
def f_X7_count (F : Nat) (x1_ : Int32) (h : Hp) : Option Int32 :=
  (if x1_ = 0 then (
    (gO h 0 11 (0, 6, 14)).bind fun y2 =>
    some (gI h y2 4))
  else
  (if x1_ = 1 then (
    (gO h 0 11 (0, 6, 14)).bind fun y4 =>
    some (gI h y4 2))
  else
  (if x1_ = 2 then (
    some (gI h 18 4))
  else
  (if x1_ = 3 then (
    (gO h 0 11 (0, 6, 14)).bind fun y7 =>
    some (gI h y7 5))
  else
  (if x1_ = 4 then (
    (f_J6_bitCount_0f7a4 (gI h 18 3) h).bind fun v9 =>
    some v9)
  else
  (if x1_ = 5 then (
    (f_X7_sleepers F h).bind fun v11 =>
    some v11)
  else
  (if x1_ = 6 then (
    (f_X4_held F 1 h).bind fun v13 =>
    some v13)
  else
  (if x1_ = 7 then (
    (f_X4_held F 10 h).bind fun v15 =>
    some v15)
  else
  (if x1_ = 8 then (
    some (gI h 0 13))
  else
  (if x1_ = 9 then (
    (f_X7_yardsKept F h).bind fun v18 =>
    some v18)
  else
  (
    some (-1 : Int32))))))))))))
set_option maxRecDepth 100000 in
set_option maxHeartbeats 4000000 in
theorem S_X7_count (F : Nat) (x1_ : Int32) (h : Hp) (r : Int32) (hf : f_X7_count F x1_ h = some r) : MetP Y_X7_count 3 [.ref 0, .int x1_] h (some (.int r), h) := by
  unfold f_X7_count at hf
  refine met_of yo_X7_count (Nat.le_of_ble_eq_true rfl) ?_
  show Run Y_X7_count _ 0 [some (.ref 0), some (.int x1_)] [] h
  refine r_iload_n dX7_count_0 rfl ?_
  refine r_ite hf (fun c1 hf => ?_) (fun c1 hf => ?_)
  · refine r_tabIn 56 dX7_count_1 (by rw [c1]; decide) (by rw [c1]; decide) (off := 55) (by rw [c1]; rfl) (by decide) ?_
    refine r_aload_n dX7_count_56 rfl ?_
    refine r_getR (E := (0, 6, 14)) dX7_count_57 sh_0 ft_X7_77 rfl hf fun y2 hy2 hf => ?_
    refine r_getI dX7_count_60 hy2 ft_X7_154 rfl ?_
    exact e_iP dX7_count_63 rfl hf
  refine r_ite hf (fun c3 hf => ?_) (fun c3 hf => ?_)
  · refine r_tabIn 64 dX7_count_1 (by rw [c3]; decide) (by rw [c3]; decide) (off := 63) (by rw [c3]; rfl) (by decide) ?_
    refine r_aload_n dX7_count_64 rfl ?_
    refine r_getR (E := (0, 6, 14)) dX7_count_65 sh_0 ft_X7_77 rfl hf fun y4 hy4 hf => ?_
    refine r_getI dX7_count_68 hy4 ft_X7_190 rfl ?_
    exact e_iP dX7_count_71 rfl hf
  refine r_ite hf (fun c5 hf => ?_) (fun c5 hf => ?_)
  · refine r_tabIn 72 dX7_count_1 (by rw [c5]; decide) (by rw [c5]; decide) (off := 71) (by rw [c5]; rfl) (by decide) ?_
    refine r_aload_n dX7_count_72 rfl ?_
    refine r_getS (b := 18) dX7_count_73 sh_0 ft_X7_31 rfl rfl ?_
    refine r_getI dX7_count_76 sh_18 ft_X7_206 rfl ?_
    exact e_iP dX7_count_79 rfl hf
  refine r_ite hf (fun c6 hf => ?_) (fun c6 hf => ?_)
  · refine r_tabIn 80 dX7_count_1 (by rw [c6]; decide) (by rw [c6]; decide) (off := 79) (by rw [c6]; rfl) (by decide) ?_
    refine r_aload_n dX7_count_80 rfl ?_
    refine r_getR (E := (0, 6, 14)) dX7_count_81 sh_0 ft_X7_77 rfl hf fun y7 hy7 hf => ?_
    refine r_getI dX7_count_84 hy7 ft_X7_348 rfl ?_
    exact e_iP dX7_count_87 rfl hf
  refine r_ite hf (fun c8 hf => ?_) (fun c8 hf => ?_)
  · refine r_tabIn 88 dX7_count_1 (by rw [c8]; decide) (by rw [c8]; decide) (off := 87) (by rw [c8]; rfl) (by decide) ?_
    refine r_aload_n dX7_count_88 rfl ?_
    refine r_getS (b := 18) dX7_count_89 sh_0 ft_X7_31 rfl rfl ?_
    refine r_getI dX7_count_92 sh_18 ft_X7_196 rfl ?_
    obtain ⟨v9, hv, hf⟩ := bnd hf
    refine r_callS (lv := 1) dX7_count_95 yo_J6_bitCount_0f7a4 ys_J6_bitCount_0f7a4 ml_X7_179 ya_J6_bitCount_0f7a4 (Fits.vm (by decide)) rfl rfl (Nat.le_of_ble_eq_true rfl) (S_J6_bitCount_0f7a4 (gI h 18 3) h  _ hv) ?_
    exact e_iP dX7_count_98 rfl hf
  refine r_ite hf (fun c10 hf => ?_) (fun c10 hf => ?_)
  · refine r_tabIn 99 dX7_count_1 (by rw [c10]; decide) (by rw [c10]; decide) (off := 98) (by rw [c10]; rfl) (by decide) ?_
    refine r_aload_n dX7_count_99 rfl ?_
    obtain ⟨v11, hv, hf⟩ := bnd hf
    refine r_callV (lv := 2) dX7_count_100 yo_X7_sleepers yi_X7_sleepers ml_X7_351 ya_X7_sleepers sh_0 ⟨_, rfl, rfl⟩ (Fits.vm (by decide)) rfl rfl (Nat.le_of_ble_eq_true rfl) (S_X7_sleepers F h  _ hv) ?_
    exact e_iP dX7_count_103 rfl hf
  refine r_ite hf (fun c12 hf => ?_) (fun c12 hf => ?_)
  · refine r_tabIn 104 dX7_count_1 (by rw [c12]; decide) (by rw [c12]; decide) (off := 103) (by rw [c12]; rfl) (by decide) ?_
    refine r_aload_n dX7_count_104 rfl ?_
    refine r_getS (b := 1) dX7_count_105 sh_0 ft_X7_14 rfl rfl ?_
    obtain ⟨v13, hv, hf⟩ := bnd hf
    refine r_callV (lv := 1) dX7_count_108 yo_X4_held yi_X4_held ml_X7_354 ya_X4_held sh_1 ⟨_, rfl, rfl⟩ (Fits.vm (by decide)) rfl rfl (Nat.le_of_ble_eq_true rfl) (S_X4_held F 1 sh_1 h  _ hv) ?_
    exact e_iP dX7_count_111 rfl hf
  refine r_ite hf (fun c14 hf => ?_) (fun c14 hf => ?_)
  · refine r_tabIn 112 dX7_count_1 (by rw [c14]; decide) (by rw [c14]; decide) (off := 111) (by rw [c14]; rfl) (by decide) ?_
    refine r_aload_n dX7_count_112 rfl ?_
    refine r_getS (b := 10) dX7_count_113 sh_0 ft_X7_18 rfl rfl ?_
    obtain ⟨v15, hv, hf⟩ := bnd hf
    refine r_callV (lv := 1) dX7_count_116 yo_X4_held yi_X4_held ml_X7_354 ya_X4_held sh_10 ⟨_, rfl, rfl⟩ (Fits.vm (by decide)) rfl rfl (Nat.le_of_ble_eq_true rfl) (S_X4_held F 10 sh_10 h  _ hv) ?_
    exact e_iP dX7_count_119 rfl hf
  refine r_ite hf (fun c16 hf => ?_) (fun c16 hf => ?_)
  · refine r_tabIn 120 dX7_count_1 (by rw [c16]; decide) (by rw [c16]; decide) (off := 119) (by rw [c16]; rfl) (by decide) ?_
    refine r_aload_n dX7_count_120 rfl ?_
    refine r_getI dX7_count_121 sh_0 ft_X7_151 rfl ?_
    exact e_iP dX7_count_124 rfl hf
  refine r_ite hf (fun c17 hf => ?_) (fun c17 hf => ?_)
  · refine r_tabIn 125 dX7_count_1 (by rw [c17]; decide) (by rw [c17]; decide) (off := 124) (by rw [c17]; rfl) (by decide) ?_
    refine r_aload_n dX7_count_125 rfl ?_
    obtain ⟨v18, hv, hf⟩ := bnd hf
    refine r_callV (lv := 1) dX7_count_126 yo_X7_yardsKept yi_X7_yardsKept ml_X7_357 ya_X7_yardsKept sh_0 ⟨_, rfl, rfl⟩ (Fits.vm (by decide)) rfl rfl (Nat.le_of_ble_eq_true rfl) (S_X7_yardsKept F h  _ hv) ?_
    exact e_iP dX7_count_129 rfl hf
  refine r_tabDef 130 10 dX7_count_1 (by decide) (fun i hi e => ?_) (by decide) ?_
  · have a0 : ¬ (x1_).toInt = 0 := fun q => c1 (Int32.toInt_inj.mp (by rw [q]; rfl))
    have a1 : ¬ (x1_).toInt = 1 := fun q => c3 (Int32.toInt_inj.mp (by rw [q]; rfl))
    have a2 : ¬ (x1_).toInt = 2 := fun q => c5 (Int32.toInt_inj.mp (by rw [q]; rfl))
    have a3 : ¬ (x1_).toInt = 3 := fun q => c6 (Int32.toInt_inj.mp (by rw [q]; rfl))
    have a4 : ¬ (x1_).toInt = 4 := fun q => c8 (Int32.toInt_inj.mp (by rw [q]; rfl))
    have a5 : ¬ (x1_).toInt = 5 := fun q => c10 (Int32.toInt_inj.mp (by rw [q]; rfl))
    have a6 : ¬ (x1_).toInt = 6 := fun q => c12 (Int32.toInt_inj.mp (by rw [q]; rfl))
    have a7 : ¬ (x1_).toInt = 7 := fun q => c14 (Int32.toInt_inj.mp (by rw [q]; rfl))
    have a8 : ¬ (x1_).toInt = 8 := fun q => c16 (Int32.toInt_inj.mp (by rw [q]; rfl))
    have a9 : ¬ (x1_).toInt = 9 := fun q => c17 (Int32.toInt_inj.mp (by rw [q]; rfl))
    exfalso; omega
  · refine r_iconst (v := -1) dX7_count_130 (by decide) ?_
    exact e_iP dX7_count_131 rfl hf
def f_X7_finding  (h : Hp) : Option Int32 :=
  some (gI h 0 15)
set_option maxRecDepth 100000 in
set_option maxHeartbeats 4000000 in
theorem S_X7_finding  (h : Hp) (r : Int32) (hf : f_X7_finding h = some r) : MetP Y_X7_finding 1 [.ref 0] h (some (.int r), h) := by
  unfold f_X7_finding at hf
  refine met_of yo_X7_finding (Nat.le_of_ble_eq_true rfl) ?_
  show Run Y_X7_finding _ 0 [some (.ref 0)] [] h
  refine r_aload_n dX7_finding_0 rfl ?_
  refine r_getI dX7_finding_1 sh_0 ft_X7_360 rfl ?_
  exact e_iP dX7_finding_4 rfl hf
def f_X7_findings (x1_ : Int32) (h : Hp) : Option Int32 :=
  (Option.bind (α := Int32) (
    (if x1_ < (1 : Int32) then (
      some (-1 : Int32))
    else (
      (if x1_ ≤ (5 : Int32) then (
        (ldI h 40 x1_).bind fun v3 =>
        some v3)
      else (
        some (-1 : Int32)))))) fun t1 =>
  some t1)
set_option maxRecDepth 100000 in
set_option maxHeartbeats 4000000 in
theorem S_X7_findings (x1_ : Int32) (h : Hp) (r : Int32) (hf : f_X7_findings x1_ h = some r) : MetP Y_X7_findings 1 [.ref 0, .int x1_] h (some (.int r), h) := by
  unfold f_X7_findings at hf
  refine met_of yo_X7_findings (Nat.le_of_ble_eq_true rfl) ?_
  show Run Y_X7_findings _ 0 [some (.ref 0), some (.int x1_)] [] h
  refine r_iload_n dX7_findings_0 rfl ?_
  refine r_iconst (v := 1) dX7_findings_1 (by decide) ?_
  refine r_reg (P := fun t1 => Run Y_X7_findings (VM 1 (some (.int r), h)) 20 [some (.ref 0), some (.int x1_)] [.int t1] h) hf (fun t1 hf => ?_) (fun t1 key2 hf => ?_)
  · exact e_iP dX7_findings_20 rfl hf
  · refine r_icmp_lt 10 dX7_findings_2 (by decide) hf (fun c5 hf => ?_) (fun c5 hf => ?_)
    · refine r_iconst (v := -1) dX7_findings_10 (by decide) ?_
      refine r_goto 20 dX7_findings_11 (by decide) ?_
      cases hf; exact key2
    · refine r_iload_n dX7_findings_5 rfl ?_
      refine r_iconst (v := 5) dX7_findings_6 (by decide) ?_
      refine r_icmp_le 14 dX7_findings_7 (by decide) hf (fun c4 hf => ?_) (fun c4 hf => ?_)
      · refine r_aload_n dX7_findings_14 rfl ?_
        refine r_getS (b := 40) dX7_findings_15 sh_0 ft_X7_71 rfl rfl ?_
        refine r_iload_n dX7_findings_18 rfl ?_
        refine r_iald dX7_findings_19 sh_40 hf fun v3 hf => ?_
        cases hf; exact key2
      · refine r_iconst (v := -1) dX7_findings_10 (by decide) ?_
        refine r_goto 20 dX7_findings_11 (by decide) ?_
        cases hf; exact key2
def f_X7_digest (F : Nat)  (h : Hp) : Option Int64 :=
  fix (σ := Int64 × Int32) (ρ := Int64) (fun self2 s1 =>
    (if (10 : Int32) ≤ s1.2 then (
      nm ((((31 : Int64) * s1.1) + ((gI h 18 2)).toInt64)) fun x4 =>
      fix (σ := Int64 × Int32) (ρ := Int64) (fun self6 s5 =>
        (gO h 0 11 (0, 6, 14)).bind fun y8 =>
        (if (gI h y8 2) ≤ s5.2 then (
          fix (σ := Int64 × Int32) (ρ := Int64) (fun self10 s9 =>
            (gO h 0 11 (0, 6, 14)).bind fun y12 =>
            (if ((4 : Int32) * (gI h y12 4)) ≤ s9.2 then (
              fix (σ := Int64 × Int32) (ρ := Int64) (fun self14 s13 =>
                (gO h 0 11 (0, 6, 14)).bind fun y16 =>
                (if ((4 : Int32) * (gI h y16 5)) ≤ s13.2 then (
                  fix (σ := Int64 × Int32) (ρ := Int64) (fun self18 s17 =>
                    (if (gI h 0 13) ≤ s17.2 then (
                      fix (σ := Int64 × Int32) (ρ := Int64) (fun self21 s20 =>
                        (if (gI h 18 4) ≤ s20.2 then (
                          fix (σ := Int64 × Int32) (ρ := Int64) (fun self24 s23 =>
                            (if (3 : Int32) ≤ s23.2 then (
                              (f_X4_mixedInto F 1 s23.1 h).bind fun v26 =>
                              (f_X4_mixedInto F 10 v26 h).bind fun v27 =>
                              some v27)
                            else (
                              (ldR 21 s23.2).bind fun b28 =>
                              (Option.bind (α := Int32) (
                                (if (gI h b28 0) = 0 then (
                                  some (-1 : Int32))
                                else (
                                  (ldR 21 s23.2).bind fun b31 =>
                                  some (gI h b31 4)))) fun t29 =>
                              nm ((((31 : Int64) * s23.1) + (t29).toInt64)) fun x33 =>
                              self24 (x33, (s23.2 + 1)))))) F (s20.1, (0 : Int32)))
                        else (
                          (ldI h 19 s20.2).bind fun v35 =>
                          nm ((((31 : Int64) * s20.1) + (v35).toInt64)) fun x36 =>
                          self21 (x36, (s20.2 + 1))))) F (s17.1, (0 : Int32)))
                    else (
                      (ldI h 38 s17.2).bind fun v38 =>
                      (ldI h 39 s17.2).bind fun v39 =>
                      nm ((((31 : Int64) * (((31 : Int64) * s17.1) + (v38).toInt64)) + (v39).toInt64)) fun x40 =>
                      self18 (x40, (s17.2 + 1))))) F (s13.1, (0 : Int32)))
                else (
                  (f_X7_ofChain (s13.2 / (4 : Int32)) (rem32 s13.2 (4 : Int32)) h).bind fun v42 =>
                  nm ((((31 : Int64) * s13.1) + (v42).toInt64)) fun x43 =>
                  self14 (x43, (s13.2 + 1))))) F (s9.1, (0 : Int32)))
            else (
              (f_X7_ofMan F (s9.2 / (4 : Int32)) (rem32 s9.2 (4 : Int32)) h).bind fun v45 =>
              nm ((((31 : Int64) * s9.1) + (v45).toInt64)) fun x46 =>
              self10 (x46, (s9.2 + 1))))) F (s5.1, (0 : Int32)))
        else (
          (gO h 0 11 (0, 6, 14)).bind fun y48 =>
          (f_X6_isWall y48 s5.2 h).bind fun v49 =>
          (Option.bind (α := Int32) (
            (if v49 = 0 then (
              some (0 : Int32))
            else (
              some (1 : Int32)))) fun t50 =>
          nm ((((31 : Int64) * s5.1) + (t50).toInt64)) fun x53 =>
          self6 (x53, (s5.2 + 1)))))) F (x4, (0 : Int32)))
    else (
      (f_X7_count F s1.2 h).bind fun v55 =>
      nm ((((31 : Int64) * s1.1) + (v55).toInt64)) fun x56 =>
      self2 (x56, (s1.2 + 1))))) F ((17 : Int64), (0 : Int32))
set_option maxRecDepth 100000 in
set_option maxHeartbeats 4000000 in
theorem S_X7_digest (F : Nat)  (h : Hp) (r : Int64) (hf : f_X7_digest F h = some r) : MetP Y_X7_digest 4 [.ref 0] h (some (.long r), h) := by
  unfold f_X7_digest at hf
  refine met_of yo_X7_digest (Nat.le_of_ble_eq_true rfl) ?_
  show Run Y_X7_digest _ 0 [some (.ref 0), none, none, none] [] h
  refine r_ldc2 dX7_digest_0 cn_X7_363 ?_
  refine r_lstore_nA dX7_digest_3 (by decide) ?_
  refine r_iconst (v := 0) dX7_digest_4 (by decide) ?_
  refine r_istore_nA dX7_digest_5 (by decide) ?_
  refine r_fix (σ := Int64 × Int32) (fun s1 => [some (.ref 0), some (.long s1.1), none, some (.int s1.2)]) (fun s1 => h) (fun self2 ih3 s1 hf => ?_) F ((17 : Int64), (0 : Int32)) hf
  refine r_iload_n dX7_digest_6 rfl ?_
  refine r_bipush (v := 10) dX7_digest_7 (by decide) ?_
  refine r_icmp_ge 31 dX7_digest_9 (by decide) hf (fun c57 hf => ?_) (fun c57 hf => ?_)
  · refine r_ldc2 dX7_digest_31 cn_X7_365 ?_
    refine r_lload_n dX7_digest_34 rfl ?_
    refine r_lmul dX7_digest_35 ?_
    refine r_aload_n dX7_digest_36 rfl ?_
    refine r_getS (b := 18) dX7_digest_37 sh_0 ft_X7_31 rfl rfl ?_
    refine r_getI dX7_digest_40 sh_18 ft_X7_193 rfl ?_
    refine r_i2l dX7_digest_43 ?_
    refine r_ladd dX7_digest_44 ?_
    refine r_lstore_n dX7_digest_45 (by decide) hf fun x4 hf => ?_
    refine r_iconst (v := 0) dX7_digest_46 (by decide) ?_
    refine r_istore_nA dX7_digest_47 (by decide) ?_
    refine r_fix (σ := Int64 × Int32) (fun s5 => [some (.ref 0), some (.long s5.1), none, some (.int s5.2)]) (fun s5 => h) (fun self6 ih7 s5 hf => ?_) F (x4, (0 : Int32)) hf
    refine r_iload_n dX7_digest_48 rfl ?_
    refine r_aload_n dX7_digest_49 rfl ?_
    refine r_getR (E := (0, 6, 14)) dX7_digest_50 sh_0 ft_X7_77 rfl hf fun y8 hy8 hf => ?_
    refine r_getI dX7_digest_53 hy8 ft_X7_190 rfl ?_
    refine r_icmp_ge 89 dX7_digest_56 (by decide) hf (fun c54 hf => ?_) (fun c54 hf => ?_)
    · refine r_iconst (v := 0) dX7_digest_89 (by decide) ?_
      refine r_istore_nA dX7_digest_90 (by decide) ?_
      refine r_fix (σ := Int64 × Int32) (fun s9 => [some (.ref 0), some (.long s9.1), none, some (.int s9.2)]) (fun s9 => h) (fun self10 ih11 s9 hf => ?_) F (s5.1, (0 : Int32)) hf
      refine r_iload_n dX7_digest_91 rfl ?_
      refine r_iconst (v := 4) dX7_digest_92 (by decide) ?_
      refine r_aload_n dX7_digest_93 rfl ?_
      refine r_getR (E := (0, 6, 14)) dX7_digest_94 sh_0 ft_X7_77 rfl hf fun y12 hy12 hf => ?_
      refine r_getI dX7_digest_97 hy12 ft_X7_154 rfl ?_
      refine r_imul dX7_digest_100 ?_
      refine r_icmp_ge 128 dX7_digest_101 (by decide) hf (fun c47 hf => ?_) (fun c47 hf => ?_)
      · refine r_iconst (v := 0) dX7_digest_128 (by decide) ?_
        refine r_istore_nA dX7_digest_129 (by decide) ?_
        refine r_fix (σ := Int64 × Int32) (fun s13 => [some (.ref 0), some (.long s13.1), none, some (.int s13.2)]) (fun s13 => h) (fun self14 ih15 s13 hf => ?_) F (s9.1, (0 : Int32)) hf
        refine r_iload_n dX7_digest_130 rfl ?_
        refine r_iconst (v := 4) dX7_digest_131 (by decide) ?_
        refine r_aload_n dX7_digest_132 rfl ?_
        refine r_getR (E := (0, 6, 14)) dX7_digest_133 sh_0 ft_X7_77 rfl hf fun y16 hy16 hf => ?_
        refine r_getI dX7_digest_136 hy16 ft_X7_348 rfl ?_
        refine r_imul dX7_digest_139 ?_
        refine r_icmp_ge 167 dX7_digest_140 (by decide) hf (fun c44 hf => ?_) (fun c44 hf => ?_)
        · refine r_iconst (v := 0) dX7_digest_167 (by decide) ?_
          refine r_istore_nA dX7_digest_168 (by decide) ?_
          refine r_fix (σ := Int64 × Int32) (fun s17 => [some (.ref 0), some (.long s17.1), none, some (.int s17.2)]) (fun s17 => h) (fun self18 ih19 s17 hf => ?_) F (s13.1, (0 : Int32)) hf
          refine r_iload_n dX7_digest_169 rfl ?_
          refine r_aload_n dX7_digest_170 rfl ?_
          refine r_getI dX7_digest_171 sh_0 ft_X7_151 rfl ?_
          refine r_icmp_ge 209 dX7_digest_174 (by decide) hf (fun c41 hf => ?_) (fun c41 hf => ?_)
          · refine r_iconst (v := 0) dX7_digest_209 (by decide) ?_
            refine r_istore_nA dX7_digest_210 (by decide) ?_
            refine r_fix (σ := Int64 × Int32) (fun s20 => [some (.ref 0), some (.long s20.1), none, some (.int s20.2)]) (fun s20 => h) (fun self21 ih22 s20 hf => ?_) F (s17.1, (0 : Int32)) hf
            refine r_iload_n dX7_digest_211 rfl ?_
            refine r_aload_n dX7_digest_212 rfl ?_
            refine r_getS (b := 18) dX7_digest_213 sh_0 ft_X7_31 rfl rfl ?_
            refine r_getI dX7_digest_216 sh_18 ft_X7_206 rfl ?_
            refine r_icmp_ge 245 dX7_digest_219 (by decide) hf (fun c37 hf => ?_) (fun c37 hf => ?_)
            · refine r_iconst (v := 0) dX7_digest_245 (by decide) ?_
              refine r_istore_nA dX7_digest_246 (by decide) ?_
              refine r_fix (σ := Int64 × Int32) (fun s23 => [some (.ref 0), some (.long s23.1), none, some (.int s23.2)]) (fun s23 => h) (fun self24 ih25 s23 hf => ?_) F (s20.1, (0 : Int32)) hf
              refine r_iload_n dX7_digest_247 rfl ?_
              refine r_iconst (v := 3) dX7_digest_248 (by decide) ?_
              refine r_icmp_ge 291 dX7_digest_249 (by decide) hf (fun c34 hf => ?_) (fun c34 hf => ?_)
              · refine r_aload_n dX7_digest_291 rfl ?_
                refine r_getS (b := 10) dX7_digest_292 sh_0 ft_X7_18 rfl rfl ?_
                refine r_aload_n dX7_digest_295 rfl ?_
                refine r_getS (b := 1) dX7_digest_296 sh_0 ft_X7_14 rfl rfl ?_
                refine r_lload_n dX7_digest_299 rfl ?_
                obtain ⟨v26, hv, hf⟩ := bnd hf
                refine r_callV (lv := 1) dX7_digest_300 yo_X4_mixedInto yi_X4_mixedInto ml_X7_376 ya_X4_mixedInto sh_1 ⟨_, rfl, rfl⟩ (Fits.vm (by decide)) rfl rfl (Nat.le_of_ble_eq_true rfl) (S_X4_mixedInto F 1 s23.1 sh_1 h  _ hv) ?_
                obtain ⟨v27, hv, hf⟩ := bnd hf
                refine r_callV (lv := 1) dX7_digest_303 yo_X4_mixedInto yi_X4_mixedInto ml_X7_376 ya_X4_mixedInto sh_10 ⟨_, rfl, rfl⟩ (Fits.vm (by decide)) rfl rfl (Nat.le_of_ble_eq_true rfl) (S_X4_mixedInto F 10 v26 sh_10 h  _ hv) ?_
                exact e_lP dX7_digest_306 rfl hf
              · refine r_ldc2 dX7_digest_252 cn_X7_365 ?_
                refine r_lload_n dX7_digest_255 rfl ?_
                refine r_lmul dX7_digest_256 ?_
                refine r_aload_n dX7_digest_257 rfl ?_
                refine r_getS (b := 21) dX7_digest_258 sh_0 ft_X7_35 rfl rfl ?_
                refine r_iload_n dX7_digest_261 rfl ?_
                refine r_aald (E := (0, 0, 7)) dX7_digest_262 sh_21 (Or.inr rfl) se_kept hf fun b28 hb28 hf => ?_
                refine r_getI dX7_digest_263 hb28 ft_X7_147 rfl ?_
                refine r_reg (P := fun t29 => Run Y_X7_digest (VM 4 (some (.long r), h)) 282 [some (.ref 0), some (.long s23.1), none, some (.int s23.2)] [.int t29, .long ((31 : Int64) * s23.1)] h) hf (fun t29 hf => ?_) (fun t29 key30 hf => ?_)
                · refine r_i2l dX7_digest_282 ?_
                  refine r_ladd dX7_digest_283 ?_
                  refine r_lstore_n dX7_digest_284 (by decide) hf fun x33 hf => ?_
                  refine r_iincA (v := 1) dX7_digest_285 rfl (by decide) (by decide) ?_
                  refine r_goto 247 dX7_digest_288 (by decide) ?_
                  exact ih25 _ hf
                · refine r_if_eq 281 dX7_digest_266 (by decide) hf (fun c32 hf => ?_) (fun c32 hf => ?_)
                  · refine r_iconst (v := -1) dX7_digest_281 (by decide) ?_
                    cases hf; exact key30
                  · refine r_aload_n dX7_digest_269 rfl ?_
                    refine r_getS (b := 21) dX7_digest_270 sh_0 ft_X7_35 rfl rfl ?_
                    refine r_iload_n dX7_digest_273 rfl ?_
                    refine r_aald (E := (0, 0, 7)) dX7_digest_274 sh_21 (Or.inr rfl) se_kept hf fun b31 hb31 hf => ?_
                    refine r_getI dX7_digest_275 hb31 ft_X7_206 rfl ?_
                    refine r_goto 282 dX7_digest_278 (by decide) ?_
                    cases hf; exact key30
            · refine r_ldc2 dX7_digest_222 cn_X7_365 ?_
              refine r_lload_n dX7_digest_225 rfl ?_
              refine r_lmul dX7_digest_226 ?_
              refine r_aload_n dX7_digest_227 rfl ?_
              refine r_getS (b := 18) dX7_digest_228 sh_0 ft_X7_31 rfl rfl ?_
              refine r_getS (b := 19) dX7_digest_231 sh_18 ft_X7_373 rfl rfl ?_
              refine r_iload_n dX7_digest_234 rfl ?_
              refine r_iald dX7_digest_235 sh_19 hf fun v35 hf => ?_
              refine r_i2l dX7_digest_236 ?_
              refine r_ladd dX7_digest_237 ?_
              refine r_lstore_n dX7_digest_238 (by decide) hf fun x36 hf => ?_
              refine r_iincA (v := 1) dX7_digest_239 rfl (by decide) (by decide) ?_
              refine r_goto 211 dX7_digest_242 (by decide) ?_
              exact ih22 _ hf
          · refine r_ldc2 dX7_digest_177 cn_X7_365 ?_
            refine r_ldc2 dX7_digest_180 cn_X7_365 ?_
            refine r_lload_n dX7_digest_183 rfl ?_
            refine r_lmul dX7_digest_184 ?_
            refine r_aload_n dX7_digest_185 rfl ?_
            refine r_getS (b := 38) dX7_digest_186 sh_0 ft_X7_64 rfl rfl ?_
            refine r_iload_n dX7_digest_189 rfl ?_
            refine r_iald dX7_digest_190 sh_38 hf fun v38 hf => ?_
            refine r_i2l dX7_digest_191 ?_
            refine r_ladd dX7_digest_192 ?_
            refine r_lmul dX7_digest_193 ?_
            refine r_aload_n dX7_digest_194 rfl ?_
            refine r_getS (b := 39) dX7_digest_195 sh_0 ft_X7_68 rfl rfl ?_
            refine r_iload_n dX7_digest_198 rfl ?_
            refine r_iald dX7_digest_199 sh_39 hf fun v39 hf => ?_
            refine r_i2l dX7_digest_200 ?_
            refine r_ladd dX7_digest_201 ?_
            refine r_lstore_n dX7_digest_202 (by decide) hf fun x40 hf => ?_
            refine r_iincA (v := 1) dX7_digest_203 rfl (by decide) (by decide) ?_
            refine r_goto 169 dX7_digest_206 (by decide) ?_
            exact ih19 _ hf
        · refine r_ldc2 dX7_digest_143 cn_X7_365 ?_
          refine r_lload_n dX7_digest_146 rfl ?_
          refine r_lmul dX7_digest_147 ?_
          refine r_aload_n dX7_digest_148 rfl ?_
          refine r_iload_n dX7_digest_149 rfl ?_
          refine r_iconst (v := 4) dX7_digest_150 (by decide) ?_
          refine r_idivK dX7_digest_151 (by decide) ?_
          refine r_iload_n dX7_digest_152 rfl ?_
          refine r_iconst (v := 4) dX7_digest_153 (by decide) ?_
          refine r_iremK dX7_digest_154 (by decide) ?_
          obtain ⟨v42, hv, hf⟩ := bnd hf
          refine r_callV (lv := 3) dX7_digest_155 yo_X7_ofChain yi_X7_ofChain ml_X7_166 ya_X7_ofChain sh_0 ⟨_, rfl, rfl⟩ (Fits.vm (by decide)) rfl rfl (Nat.le_of_ble_eq_true rfl) (S_X7_ofChain (s13.2 / (4 : Int32)) (rem32 s13.2 (4 : Int32)) h  _ hv) ?_
          refine r_i2l dX7_digest_158 ?_
          refine r_ladd dX7_digest_159 ?_
          refine r_lstore_n dX7_digest_160 (by decide) hf fun x43 hf => ?_
          refine r_iincA (v := 1) dX7_digest_161 rfl (by decide) (by decide) ?_
          refine r_goto 130 dX7_digest_164 (by decide) ?_
          exact ih15 _ hf
      · refine r_ldc2 dX7_digest_104 cn_X7_365 ?_
        refine r_lload_n dX7_digest_107 rfl ?_
        refine r_lmul dX7_digest_108 ?_
        refine r_aload_n dX7_digest_109 rfl ?_
        refine r_iload_n dX7_digest_110 rfl ?_
        refine r_iconst (v := 4) dX7_digest_111 (by decide) ?_
        refine r_idivK dX7_digest_112 (by decide) ?_
        refine r_iload_n dX7_digest_113 rfl ?_
        refine r_iconst (v := 4) dX7_digest_114 (by decide) ?_
        refine r_iremK dX7_digest_115 (by decide) ?_
        obtain ⟨v45, hv, hf⟩ := bnd hf
        refine r_callV (lv := 2) dX7_digest_116 yo_X7_ofMan yi_X7_ofMan ml_X7_160 ya_X7_ofMan sh_0 ⟨_, rfl, rfl⟩ (Fits.vm (by decide)) rfl rfl (Nat.le_of_ble_eq_true rfl) (S_X7_ofMan F (s9.2 / (4 : Int32)) (rem32 s9.2 (4 : Int32)) h  _ hv) ?_
        refine r_i2l dX7_digest_119 ?_
        refine r_ladd dX7_digest_120 ?_
        refine r_lstore_n dX7_digest_121 (by decide) hf fun x46 hf => ?_
        refine r_iincA (v := 1) dX7_digest_122 rfl (by decide) (by decide) ?_
        refine r_goto 91 dX7_digest_125 (by decide) ?_
        exact ih11 _ hf
    · refine r_ldc2 dX7_digest_59 cn_X7_365 ?_
      refine r_lload_n dX7_digest_62 rfl ?_
      refine r_lmul dX7_digest_63 ?_
      refine r_aload_n dX7_digest_64 rfl ?_
      refine r_getR (E := (0, 6, 14)) dX7_digest_65 sh_0 ft_X7_77 rfl hf fun y48 hy48 hf => ?_
      refine r_iload_n dX7_digest_68 rfl ?_
      obtain ⟨v49, hv, hf⟩ := bnd hf
      refine r_callV (lv := 1) dX7_digest_69 yo_X6_isWall yi_X6_isWall ml_X7_370 ya_X6_isWall hy48 ⟨_, rfl, rfl⟩ (Fits.vm (by decide)) rfl rfl (Nat.le_of_ble_eq_true rfl) (S_X6_isWall y48 s5.2 hy48 h  _ hv) ?_
      refine r_reg (P := fun t50 => Run Y_X7_digest (VM 4 (some (.long r), h)) 80 [some (.ref 0), some (.long s5.1), none, some (.int s5.2)] [.int t50, .long ((31 : Int64) * s5.1)] h) hf (fun t50 hf => ?_) (fun t50 key51 hf => ?_)
      · refine r_i2l dX7_digest_80 ?_
        refine r_ladd dX7_digest_81 ?_
        refine r_lstore_n dX7_digest_82 (by decide) hf fun x53 hf => ?_
        refine r_iincA (v := 1) dX7_digest_83 rfl (by decide) (by decide) ?_
        refine r_goto 48 dX7_digest_86 (by decide) ?_
        exact ih7 _ hf
      · refine r_if_eq 79 dX7_digest_72 (by decide) hf (fun c52 hf => ?_) (fun c52 hf => ?_)
        · refine r_iconst (v := 0) dX7_digest_79 (by decide) ?_
          cases hf; exact key51
        · refine r_iconst (v := 1) dX7_digest_75 (by decide) ?_
          refine r_goto 80 dX7_digest_76 (by decide) ?_
          cases hf; exact key51
  · refine r_ldc2 dX7_digest_12 cn_X7_365 ?_
    refine r_lload_n dX7_digest_15 rfl ?_
    refine r_lmul dX7_digest_16 ?_
    refine r_aload_n dX7_digest_17 rfl ?_
    refine r_iload_n dX7_digest_18 rfl ?_
    obtain ⟨v55, hv, hf⟩ := bnd hf
    refine r_callV (lv := 3) dX7_digest_19 yo_X7_count yi_X7_count ml_X7_367 ya_X7_count sh_0 ⟨_, rfl, rfl⟩ (Fits.vm (by decide)) rfl rfl (Nat.le_of_ble_eq_true rfl) (S_X7_count F s1.2 h  _ hv) ?_
    refine r_i2l dX7_digest_22 ?_
    refine r_ladd dX7_digest_23 ?_
    refine r_lstore_n dX7_digest_24 (by decide) hf fun x56 hf => ?_
    refine r_iincA (v := 1) dX7_digest_25 rfl (by decide) (by decide) ?_
    refine r_goto 6 dX7_digest_28 (by decide) ?_
    exact ih3 _ hf
