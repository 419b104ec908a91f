def f_X8_layFromNow (F : Nat)  (h : Hp) : Option Hp :=
  (f_X8_lookAtNow F h).bind fun h1 =>
  (f_X8_codeOf F h1).bind fun v2 =>
  (f_X8_layStands F v2 h1).bind fun h3 =>
  some h3
set_option maxRecDepth 100000 in
set_option maxHeartbeats 4000000 in
theorem S_X8_layFromNow (F : Nat)  (h : Hp) (r : Hp) (hf : f_X8_layFromNow F h = some r) : MetP Y_X8_layFromNow 8 [.ref 66] h (none, r) := by
  unfold f_X8_layFromNow at hf
  refine met_of yo_X8_layFromNow (Nat.le_of_ble_eq_true rfl) ?_
  show Run Y_X8_layFromNow _ 0 [some (.ref 66)] [] h
  refine r_aload_n dX8_layFromNow_0 rfl ?_
  obtain ⟨h1, hv, hf⟩ := bnd hf
  refine r_callV (lv := 1) dX8_layFromNow_1 yo_X8_lookAtNow yi_X8_lookAtNow ml_X8_293 ya_X8_lookAtNow sh_66 ⟨_, rfl, rfl⟩ (Fits.vm (by decide)) rfl rfl (Nat.le_of_ble_eq_true rfl) (S_X8_lookAtNow F h  _ hv) ?_
  refine r_aload_n dX8_layFromNow_4 rfl ?_
  refine r_aload_n dX8_layFromNow_5 rfl ?_
  obtain ⟨v2, hv, hf⟩ := bnd hf
  refine r_callV (lv := 1) dX8_layFromNow_6 yo_X8_codeOf yi_X8_codeOf ml_X8_336 ya_X8_codeOf sh_66 ⟨_, rfl, rfl⟩ (Fits.vm (by decide)) rfl rfl (Nat.le_of_ble_eq_true rfl) (S_X8_codeOf F h1  _ hv) ?_
  obtain ⟨h3, hv, hf⟩ := bnd hf
  refine r_callV (lv := 7) dX8_layFromNow_9 yo_X8_layStands yi_X8_layStands ml_X8_339 ya_X8_layStands sh_66 ⟨_, rfl, rfl⟩ (Fits.vm (by decide)) rfl rfl (Nat.le_of_ble_eq_true rfl) (S_X8_layStands F v2 h1  _ hv) ?_
  exact e_vH dX8_layFromNow_12 rfl hf
def f_X8_isWanted (F : Nat)  (h : Hp) : Option Int32 :=
  fix (σ := Int32 × Int32) (ρ := Int32) (fun self2 s1 =>
    (if (gI h 66 10) ≤ s1.2 then (
      ckZ s1.1)
    else (
      (Option.bind (α := Int32) (
        (if s1.1 = 0 then (
          some (0 : Int32))
        else (
          (ldI h 96 s1.2).bind fun v6 =>
          (if v6 = (-9 : Int32) then (
            some (1 : Int32))
          else (
            (ldI h 96 s1.2).bind fun v7 =>
            (ldI h 82 s1.2).bind fun v8 =>
            (if v7 = v8 then (
              some (1 : Int32))
            else (
              some (0 : Int32)))))))) fun t4 =>
      self2 (t4, (s1.2 + 1)))))) F ((1 : Int32), (0 : Int32))
set_option maxRecDepth 100000 in
set_option maxHeartbeats 4000000 in
theorem S_X8_isWanted (F : Nat)  (h : Hp) (r : Int32) (hf : f_X8_isWanted F h = some r) : MetP Y_X8_isWanted 1 [.ref 66] h (some (.int r), h) := by
  unfold f_X8_isWanted at hf
  refine met_of yo_X8_isWanted (Nat.le_of_ble_eq_true rfl) ?_
  show Run Y_X8_isWanted _ 0 [some (.ref 66), none, none] [] h
  refine r_iconst (v := 1) dX8_isWanted_0 (by decide) ?_
  refine r_istore_nA dX8_isWanted_1 (by decide) ?_
  refine r_iconst (v := 0) dX8_isWanted_2 (by decide) ?_
  refine r_istore_nA dX8_isWanted_3 (by decide) ?_
  refine r_fix (σ := Int32 × Int32) (fun s1 => [some (.ref 66), some (.int s1.1), some (.int s1.2)]) (fun s1 => h) (fun self2 ih3 s1 hf => ?_) F ((1 : Int32), (0 : Int32)) hf
  refine r_iload_n dX8_isWanted_4 rfl ?_
  refine r_aload_n dX8_isWanted_5 rfl ?_
  refine r_getI dX8_isWanted_6 sh_66 ft_X8_221 rfl ?_
  refine r_icmp_ge 54 dX8_isWanted_9 (by decide) hf (fun c12 hf => ?_) (fun c12 hf => ?_)
  · refine r_iload_n dX8_isWanted_54 rfl ?_
    exact e_zP dX8_isWanted_55 rfl hf
  · refine r_iload_n dX8_isWanted_12 rfl ?_
    refine r_reg (P := fun t4 => Run Y_X8_isWanted (VM 1 (some (.int r), h)) 47 [some (.ref 66), some (.int s1.1), some (.int s1.2)] [.int t4] h) hf (fun t4 hf => ?_) (fun t4 key5 hf => ?_)
    · refine r_istore_nA dX8_isWanted_47 (by decide) ?_
      refine r_iincA (v := 1) dX8_isWanted_48 rfl (by decide) (by decide) ?_
      refine r_goto 4 dX8_isWanted_51 (by decide) ?_
      exact ih3 _ hf
    · refine r_if_eq 46 dX8_isWanted_13 (by decide) hf (fun c11 hf => ?_) (fun c11 hf => ?_)
      · refine r_iconst (v := 0) dX8_isWanted_46 (by decide) ?_
        cases hf; exact key5
      · refine r_aload_n dX8_isWanted_16 rfl ?_
        refine r_getS (b := 96) dX8_isWanted_17 sh_66 ft_X8_99 rfl rfl ?_
        refine r_iload_n dX8_isWanted_20 rfl ?_
        refine r_iald dX8_isWanted_21 sh_96 hf fun v6 hf => ?_
        refine r_bipush (v := -9) dX8_isWanted_22 (by decide) ?_
        refine r_icmp_eq 42 dX8_isWanted_24 (by decide) hf (fun c10 hf => ?_) (fun c10 hf => ?_)
        · refine r_iconst (v := 1) dX8_isWanted_42 (by decide) ?_
          refine r_goto 47 dX8_isWanted_43 (by decide) ?_
          cases hf; exact key5
        · refine r_aload_n dX8_isWanted_27 rfl ?_
          refine r_getS (b := 96) dX8_isWanted_28 sh_66 ft_X8_99 rfl rfl ?_
          refine r_iload_n dX8_isWanted_31 rfl ?_
          refine r_iald dX8_isWanted_32 sh_96 hf fun v7 hf => ?_
          refine r_aload_n dX8_isWanted_33 rfl ?_
          refine r_getS (b := 82) dX8_isWanted_34 sh_66 ft_X8_56 rfl rfl ?_
          refine r_iload_n dX8_isWanted_37 rfl ?_
          refine r_iald dX8_isWanted_38 sh_82 hf fun v8 hf => ?_
          refine r_icmp_ne 46 dX8_isWanted_39 (by decide) hf (fun c9 hf => ?_) (fun c9 hf => ?_)
          · refine r_iconst (v := 0) dX8_isWanted_46 (by decide) ?_
            cases hf; exact key5
          · refine r_iconst (v := 1) dX8_isWanted_42 (by decide) ?_
            refine r_goto 47 dX8_isWanted_43 (by decide) ?_
            cases hf; exact key5
def f_X8_firstWanted (F : Nat)  (h : Hp) : Option (Int32 × Hp) :=
  fix (σ := Int32 × Hp) (ρ := (Int32 × Hp)) (fun self2 s1 =>
    (if (gI s1.2 66 42) ≤ s1.1 then (
      some ((-9 : Int32), s1.2))
    else (
      (ldI s1.2 92 s1.1).bind fun v4 =>
      (f_X8_lookAt F v4 s1.2).bind fun h5 =>
      (f_X8_isWanted F h5).bind fun v6 =>
      (if v6 = 0 then (
        self2 ((s1.1 + 1), h5))
      else (
        (ldI h5 92 s1.1).bind fun v7 =>
        some (v7, h5)))))) F ((0 : Int32), h)
set_option maxRecDepth 100000 in
set_option maxHeartbeats 4000000 in
theorem S_X8_firstWanted (F : Nat)  (h : Hp) (r : (Int32 × Hp)) (hf : f_X8_firstWanted F h = some r) : MetP Y_X8_firstWanted 2 [.ref 66] h (some (.int r.1), r.2) := by
  unfold f_X8_firstWanted at hf
  refine met_of yo_X8_firstWanted (Nat.le_of_ble_eq_true rfl) ?_
  show Run Y_X8_firstWanted _ 0 [some (.ref 66), none] [] h
  refine r_iconst (v := 0) dX8_firstWanted_0 (by decide) ?_
  refine r_istore_nA dX8_firstWanted_1 (by decide) ?_
  refine r_fix (σ := Int32 × Hp) (fun s1 => [some (.ref 66), some (.int s1.1)]) (fun s1 => s1.2) (fun self2 ih3 s1 hf => ?_) F ((0 : Int32), h) hf
  refine r_iload_n dX8_firstWanted_2 rfl ?_
  refine r_aload_n dX8_firstWanted_3 rfl ?_
  refine r_getI dX8_firstWanted_4 sh_66 ft_X8_326 rfl ?_
  refine r_icmp_ge 40 dX8_firstWanted_7 (by decide) hf (fun c9 hf => ?_) (fun c9 hf => ?_)
  · refine r_bipush (v := -9) dX8_firstWanted_40 (by decide) ?_
    exact e_iH dX8_firstWanted_42 rfl hf
  · refine r_aload_n dX8_firstWanted_10 rfl ?_
    refine r_aload_n dX8_firstWanted_11 rfl ?_
    refine r_getS (b := 92) dX8_firstWanted_12 sh_66 ft_X8_87 rfl rfl ?_
    refine r_iload_n dX8_firstWanted_15 rfl ?_
    refine r_iald dX8_firstWanted_16 sh_92 hf fun v4 hf => ?_
    obtain ⟨h5, hv, hf⟩ := bnd hf
    refine r_callV (lv := 1) dX8_firstWanted_17 yo_X8_lookAt yi_X8_lookAt ml_X8_329 ya_X8_lookAt sh_66 ⟨_, rfl, rfl⟩ (Fits.vm (by decide)) rfl rfl (Nat.le_of_ble_eq_true rfl) (S_X8_lookAt F v4 s1.2  _ hv) ?_
    refine r_aload_n dX8_firstWanted_20 rfl ?_
    obtain ⟨v6, hv, hf⟩ := bnd hf
    refine r_callV (lv := 1) dX8_firstWanted_21 yo_X8_isWanted yi_X8_isWanted ml_X8_342 ya_X8_isWanted sh_66 ⟨_, rfl, rfl⟩ (Fits.vm (by decide)) rfl rfl (Nat.le_of_ble_eq_true rfl) (S_X8_isWanted F h5  _ hv) ?_
    refine r_if_eq 34 dX8_firstWanted_24 (by decide) hf (fun c8 hf => ?_) (fun c8 hf => ?_)
    · refine r_iincA (v := 1) dX8_firstWanted_34 rfl (by decide) (by decide) ?_
      refine r_goto 2 dX8_firstWanted_37 (by decide) ?_
      exact ih3 _ hf
    · refine r_aload_n dX8_firstWanted_27 rfl ?_
      refine r_getS (b := 92) dX8_firstWanted_28 sh_66 ft_X8_87 rfl rfl ?_
      refine r_iload_n dX8_firstWanted_31 rfl ?_
      refine r_iald dX8_firstWanted_32 sh_92 hf fun v7 hf => ?_
      exact e_iH dX8_firstWanted_33 rfl hf
def f_X8_needWanted (F : Nat) (x1_ : Int32) (x2_ : Int32) (h : Hp) : Option (Int32 × Hp) :=
  (if x1_ = 0 then (
    some ((-1 : Int32), h))
  else (
    (f_X8_isRow x2_ h).bind fun v1 =>
    (if v1 = 0 then (
      some ((-1 : Int32), h))
    else (
      (if (gI h 66 10) = 0 then (
        some ((-4 : Int32), h))
      else (
        (ldI h 68 x2_).bind fun v2 =>
        (if 0 ≤ v2 then (
          (ldI h 68 x2_).bind fun v3 =>
          (if v3 = (gI h 66 10) then (
            fix (σ := Int32 × Int32) (ρ := (Int32 × Hp)) (fun self5 s4 =>
              (if (gI h 66 10) ≤ s4.2 then (
                (if s4.1 = 0 then (
                  (f_X8_meets (3 : Int32) h).bind fun v14 =>
                  some (v14.1, v14.2))
                else (
                  fix (σ := Int32 × Hp) (ρ := (Int32 × Hp)) (fun self8 s7 =>
                    (if (gI s7.2 66 10) ≤ s7.1 then (
                      (f_X8_layFromNow F s7.2).bind fun h10 =>
                      some ((0 : Int32), h10))
                    else (
                      (f_X8_rowAt x2_ s7.1 s7.2).bind fun v11 =>
                      (stI s7.2 96 s7.1 v11).bind fun h12 =>
                      self8 ((s7.1 + 1), h12)))) F ((0 : Int32), h))))
              else (
                (Option.bind (α := Int32) (
                  (if s4.1 = 0 then (
                    some (0 : Int32))
                  else (
                    (f_X8_rowAt x2_ s4.2 h).bind fun v18 =>
                    (if v18 = (-9 : Int32) then (
                      some (1 : Int32))
                    else (
                      (f_X8_rowAt x2_ s4.2 h).bind fun v19 =>
                      (f_X8_isCell v19 h).bind fun v20 =>
                      (if v20 = 0 then (
                        some (0 : Int32))
                      else (
                        some (1 : Int32)))))))) fun t16 =>
                self5 (t16, (s4.2 + 1)))))) F ((1 : Int32), (0 : Int32)))
          else (
            (f_X8_meets (5 : Int32) h).bind fun v25 =>
            some (v25.1, v25.2))))
        else (
          (f_X8_meets (1 : Int32) h).bind fun v27 =>
          some (v27.1, v27.2)))))))))
set_option maxRecDepth 100000 in
set_option maxHeartbeats 4000000 in
theorem S_X8_needWanted (F : Nat) (x1_ : Int32) (x2_ : Int32) (h : Hp) (r : (Int32 × Hp)) (hf : f_X8_needWanted F x1_ x2_ h = some r) : MetP Y_X8_needWanted 9 [.ref 66, .int x1_, .int x2_] h (some (.int r.1), r.2) := by
  unfold f_X8_needWanted at hf
  refine met_of yo_X8_needWanted (Nat.le_of_ble_eq_true rfl) ?_
  show Run Y_X8_needWanted _ 0 [some (.ref 66), some (.int x1_), some (.int x2_), none, none] [] h
  refine r_iload_n dX8_needWanted_0 rfl ?_
  refine r_if_eq 11 dX8_needWanted_1 (by decide) hf (fun c31 hf => ?_) (fun c31 hf => ?_)
  · refine r_iconst (v := -1) dX8_needWanted_11 (by decide) ?_
    exact e_iH dX8_needWanted_12 rfl hf
  · refine r_iload_n dX8_needWanted_4 rfl ?_
    obtain ⟨v1, hv, hf⟩ := bnd hf
    refine r_callS (lv := 2) dX8_needWanted_5 yo_X8_isRow ys_X8_isRow ml_X8_140 ya_X8_isRow (Fits.vm (by decide)) rfl rfl (Nat.le_of_ble_eq_true rfl) (S_X8_isRow x2_ h  _ hv) ?_
    refine r_if_ne 13 dX8_needWanted_8 (by decide) hf (fun c30 hf => ?_) (fun c30 hf => ?_)
    · refine r_aload_n dX8_needWanted_13 rfl ?_
      refine r_getI dX8_needWanted_14 sh_66 ft_X8_221 rfl ?_
      refine r_if_ne 23 dX8_needWanted_17 (by decide) hf (fun c29 hf => ?_) (fun c29 hf => ?_)
      · refine r_aload_n dX8_needWanted_23 rfl ?_
        refine r_getS (b := 68) dX8_needWanted_24 sh_66 ft_X8_13 rfl rfl ?_
        refine r_iload_n dX8_needWanted_27 rfl ?_
        refine r_iald dX8_needWanted_28 sh_68 hf fun v2 hf => ?_
        refine r_if_ge 38 dX8_needWanted_29 (by decide) hf (fun c28 hf => ?_) (fun c28 hf => ?_)
        · refine r_aload_n dX8_needWanted_38 rfl ?_
          refine r_getS (b := 68) dX8_needWanted_39 sh_66 ft_X8_13 rfl rfl ?_
          refine r_iload_n dX8_needWanted_42 rfl ?_
          refine r_iald dX8_needWanted_43 sh_68 hf fun v3 hf => ?_
          refine r_aload_n dX8_needWanted_44 rfl ?_
          refine r_getI dX8_needWanted_45 sh_66 ft_X8_221 rfl ?_
          refine r_icmp_eq 57 dX8_needWanted_48 (by decide) hf (fun c26 hf => ?_) (fun c26 hf => ?_)
          · refine r_iconst (v := 1) dX8_needWanted_57 (by decide) ?_
            refine r_istore_nA dX8_needWanted_58 (by decide) ?_
            refine r_iconst (v := 0) dX8_needWanted_59 (by decide) ?_
            refine r_istoreA dX8_needWanted_60 (by decide) ?_
            refine r_fix (σ := Int32 × Int32) (fun s4 => [some (.ref 66), some (.int x1_), some (.int x2_), some (.int s4.1), some (.int s4.2)]) (fun s4 => h) (fun self5 ih6 s4 hf => ?_) F ((1 : Int32), (0 : Int32)) hf
            refine r_iload dX8_needWanted_62 rfl ?_
            refine r_aload_n dX8_needWanted_64 rfl ?_
            refine r_getI dX8_needWanted_65 sh_66 ft_X8_221 rfl ?_
            refine r_icmp_ge 113 dX8_needWanted_68 (by decide) hf (fun c24 hf => ?_) (fun c24 hf => ?_)
            · refine r_iload_n dX8_needWanted_113 rfl ?_
              refine r_if_ne 123 dX8_needWanted_114 (by decide) hf (fun c15 hf => ?_) (fun c15 hf => ?_)
              · refine r_iconst (v := 0) dX8_needWanted_123 (by decide) ?_
                refine r_istoreA dX8_needWanted_124 (by decide) ?_
                refine r_fix (σ := Int32 × Hp) (fun s7 => [some (.ref 66), some (.int x1_), some (.int x2_), some (.int s4.1), some (.int s7.1)]) (fun s7 => s7.2) (fun self8 ih9 s7 hf => ?_) F ((0 : Int32), h) hf
                refine r_iload dX8_needWanted_126 rfl ?_
                refine r_aload_n dX8_needWanted_128 rfl ?_
                refine r_getI dX8_needWanted_129 sh_66 ft_X8_221 rfl ?_
                refine r_icmp_ge 155 dX8_needWanted_132 (by decide) hf (fun c13 hf => ?_) (fun c13 hf => ?_)
                · refine r_aload_n dX8_needWanted_155 rfl ?_
                  obtain ⟨h10, hv, hf⟩ := bnd hf
                  refine r_callV (lv := 8) dX8_needWanted_156 yo_X8_layFromNow yi_X8_layFromNow ml_X8_345 ya_X8_layFromNow sh_66 ⟨_, rfl, rfl⟩ (Fits.vm (by decide)) rfl rfl (Nat.le_of_ble_eq_true rfl) (S_X8_layFromNow F s7.2  _ hv) ?_
                  refine r_iconst (v := 0) dX8_needWanted_159 (by decide) ?_
                  exact e_iH dX8_needWanted_160 rfl hf
                · refine r_aload_n dX8_needWanted_135 rfl ?_
                  refine r_getS (b := 96) dX8_needWanted_136 sh_66 ft_X8_99 rfl rfl ?_
                  refine r_iload dX8_needWanted_139 rfl ?_
                  refine r_aload_n dX8_needWanted_141 rfl ?_
                  refine r_iload_n dX8_needWanted_142 rfl ?_
                  refine r_iload dX8_needWanted_143 rfl ?_
                  obtain ⟨v11, hv, hf⟩ := bnd hf
                  refine r_callV (lv := 1) dX8_needWanted_145 yo_X8_rowAt yi_X8_rowAt ml_X8_148 ya_X8_rowAt sh_66 ⟨_, rfl, rfl⟩ (Fits.vm (by decide)) rfl rfl (Nat.le_of_ble_eq_true rfl) (S_X8_rowAt x2_ s7.1 s7.2  _ hv) ?_
                  refine r_iast dX8_needWanted_148 sh_96 hf fun h12 hf => ?_
                  refine r_iincA (v := 1) dX8_needWanted_149 rfl (by decide) (by decide) ?_
                  refine r_goto 126 dX8_needWanted_152 (by decide) ?_
                  exact ih9 _ hf
              · refine r_aload_n dX8_needWanted_117 rfl ?_
                refine r_iconst (v := 3) dX8_needWanted_118 (by decide) ?_
                obtain ⟨v14, hv, hf⟩ := bnd hf
                refine r_callV (lv := 1) dX8_needWanted_119 yo_X8_meets yi_X8_meets ml_X8_144 ya_X8_meets sh_66 ⟨_, rfl, rfl⟩ (Fits.vm (by decide)) rfl rfl (Nat.le_of_ble_eq_true rfl) (S_X8_meets (3 : Int32) h  _ hv) ?_
                exact e_iH dX8_needWanted_122 rfl hf
            · refine r_iload_n dX8_needWanted_71 rfl ?_
              refine r_reg (P := fun t16 => Run Y_X8_needWanted (VM 9 (some (.int r.1), r.2)) 106 [some (.ref 66), some (.int x1_), some (.int x2_), some (.int s4.1), some (.int s4.2)] [.int t16] h) hf (fun t16 hf => ?_) (fun t16 key17 hf => ?_)
              · refine r_istore_nA dX8_needWanted_106 (by decide) ?_
                refine r_iincA (v := 1) dX8_needWanted_107 rfl (by decide) (by decide) ?_
                refine r_goto 62 dX8_needWanted_110 (by decide) ?_
                exact ih6 _ hf
              · refine r_if_eq 105 dX8_needWanted_72 (by decide) hf (fun c23 hf => ?_) (fun c23 hf => ?_)
                · refine r_iconst (v := 0) dX8_needWanted_105 (by decide) ?_
                  cases hf; exact key17
                · refine r_aload_n dX8_needWanted_75 rfl ?_
                  refine r_iload_n dX8_needWanted_76 rfl ?_
                  refine r_iload dX8_needWanted_77 rfl ?_
                  obtain ⟨v18, hv, hf⟩ := bnd hf
                  refine r_callV (lv := 1) dX8_needWanted_79 yo_X8_rowAt yi_X8_rowAt ml_X8_148 ya_X8_rowAt sh_66 ⟨_, rfl, rfl⟩ (Fits.vm (by decide)) rfl rfl (Nat.le_of_ble_eq_true rfl) (S_X8_rowAt x2_ s4.2 h  _ hv) ?_
                  refine r_bipush (v := -9) dX8_needWanted_82 (by decide) ?_
                  refine r_icmp_eq 101 dX8_needWanted_84 (by decide) hf (fun c22 hf => ?_) (fun c22 hf => ?_)
                  · refine r_iconst (v := 1) dX8_needWanted_101 (by decide) ?_
                    refine r_goto 106 dX8_needWanted_102 (by decide) ?_
                    cases hf; exact key17
                  · refine r_aload_n dX8_needWanted_87 rfl ?_
                    refine r_aload_n dX8_needWanted_88 rfl ?_
                    refine r_iload_n dX8_needWanted_89 rfl ?_
                    refine r_iload dX8_needWanted_90 rfl ?_
                    obtain ⟨v19, hv, hf⟩ := bnd hf
                    refine r_callV (lv := 1) dX8_needWanted_92 yo_X8_rowAt yi_X8_rowAt ml_X8_148 ya_X8_rowAt sh_66 ⟨_, rfl, rfl⟩ (Fits.vm (by decide)) rfl rfl (Nat.le_of_ble_eq_true rfl) (S_X8_rowAt x2_ s4.2 h  _ hv) ?_
                    obtain ⟨v20, hv, hf⟩ := bnd hf
                    refine r_callV (lv := 2) dX8_needWanted_95 yo_X8_isCell yi_X8_isCell ml_X8_323 ya_X8_isCell sh_66 ⟨_, rfl, rfl⟩ (Fits.vm (by decide)) rfl rfl (Nat.le_of_ble_eq_true rfl) (S_X8_isCell v19 h  _ hv) ?_
                    refine r_if_eq 105 dX8_needWanted_98 (by decide) hf (fun c21 hf => ?_) (fun c21 hf => ?_)
                    · refine r_iconst (v := 0) dX8_needWanted_105 (by decide) ?_
                      cases hf; exact key17
                    · refine r_iconst (v := 1) dX8_needWanted_101 (by decide) ?_
                      refine r_goto 106 dX8_needWanted_102 (by decide) ?_
                      cases hf; exact key17
          · refine r_aload_n dX8_needWanted_51 rfl ?_
            refine r_iconst (v := 5) dX8_needWanted_52 (by decide) ?_
            obtain ⟨v25, hv, hf⟩ := bnd hf
            refine r_callV (lv := 1) dX8_needWanted_53 yo_X8_meets yi_X8_meets ml_X8_144 ya_X8_meets sh_66 ⟨_, rfl, rfl⟩ (Fits.vm (by decide)) rfl rfl (Nat.le_of_ble_eq_true rfl) (S_X8_meets (5 : Int32) h  _ hv) ?_
            exact e_iH dX8_needWanted_56 rfl hf
        · refine r_aload_n dX8_needWanted_32 rfl ?_
          refine r_iconst (v := 1) dX8_needWanted_33 (by decide) ?_
          obtain ⟨v27, hv, hf⟩ := bnd hf
          refine r_callV (lv := 1) dX8_needWanted_34 yo_X8_meets yi_X8_meets ml_X8_144 ya_X8_meets sh_66 ⟨_, rfl, rfl⟩ (Fits.vm (by decide)) rfl rfl (Nat.le_of_ble_eq_true rfl) (S_X8_meets (1 : Int32) h  _ hv) ?_
          exact e_iH dX8_needWanted_37 rfl hf
      · refine r_bipush (v := -4) dX8_needWanted_20 (by decide) ?_
        exact e_iH dX8_needWanted_22 rfl hf
    · refine r_iconst (v := -1) dX8_needWanted_11 (by decide) ?_
      exact e_iH dX8_needWanted_12 rfl hf
def f_X8_firstStep (F : Nat) (x1_ : Int32) (h : Hp) : Option Int32 :=
  fix (σ := Int32 × Int32) (ρ := Int32) (fun self2 s1 =>
    (ldI h 93 s1.1).bind fun v4 =>
    (if v4 ≤ 0 then (
      some s1.2)
    else (
      (ldI h 95 s1.1).bind fun v5 =>
      (ldI h 94 s1.1).bind fun v6 =>
      self2 (v6, v5)))) F (x1_, (-9 : Int32))
set_option maxRecDepth 100000 in
set_option maxHeartbeats 4000000 in
theorem S_X8_firstStep (F : Nat) (x1_ : Int32) (h : Hp) (r : Int32) (hf : f_X8_firstStep F x1_ h = some r) : MetP Y_X8_firstStep 1 [.ref 66, .int x1_] h (some (.int r), h) := by
  unfold f_X8_firstStep at hf
  refine met_of yo_X8_firstStep (Nat.le_of_ble_eq_true rfl) ?_
  show Run Y_X8_firstStep _ 0 [some (.ref 66), some (.int x1_), none, none] [] h
  refine r_iload_n dX8_firstStep_0 rfl ?_
  refine r_istore_nA dX8_firstStep_1 (by decide) ?_
  refine r_bipush (v := -9) dX8_firstStep_2 (by decide) ?_
  refine r_istore_nA dX8_firstStep_4 (by decide) ?_
  refine r_fix (σ := Int32 × Int32) (fun s1 => [some (.ref 66), some (.int x1_), some (.int s1.1), some (.int s1.2)]) (fun s1 => h) (fun self2 ih3 s1 hf => ?_) F (x1_, (-9 : Int32)) hf
  refine r_aload_n dX8_firstStep_5 rfl ?_
  refine r_getS (b := 93) dX8_firstStep_6 sh_66 ft_X8_90 rfl rfl ?_
  refine r_iload_n dX8_firstStep_9 rfl ?_
  refine r_iald dX8_firstStep_10 sh_93 hf fun v4 hf => ?_
  refine r_if_le 31 dX8_firstStep_11 (by decide) hf (fun c7 hf => ?_) (fun c7 hf => ?_)
  · refine r_iload_n dX8_firstStep_31 rfl ?_
    exact e_iP dX8_firstStep_32 rfl hf
  · refine r_aload_n dX8_firstStep_14 rfl ?_
    refine r_getS (b := 95) dX8_firstStep_15 sh_66 ft_X8_96 rfl rfl ?_
    refine r_iload_n dX8_firstStep_18 rfl ?_
    refine r_iald dX8_firstStep_19 sh_95 hf fun v5 hf => ?_
    refine r_istore_nA dX8_firstStep_20 (by decide) ?_
    refine r_aload_n dX8_firstStep_21 rfl ?_
    refine r_getS (b := 94) dX8_firstStep_22 sh_66 ft_X8_93 rfl rfl ?_
    refine r_iload_n dX8_firstStep_25 rfl ?_
    refine r_iald dX8_firstStep_26 sh_94 hf fun v6 hf => ?_
    refine r_istore_nA dX8_firstStep_27 (by decide) ?_
    refine r_goto 5 dX8_firstStep_28 (by decide) ?_
    exact ih3 _ hf
def f_X8_near (F : Nat) (x1_ : Int32) (h : Hp) : Option (Int32 × Hp) :=
  (f_X8_needWanted F (1 : Int32) x1_ h).bind fun v1 =>
  (if 0 ≤ v1.1 then (
    (f_X8_firstWanted F v1.2).bind fun v2 =>
    (Option.bind (α := Int32 × Hp) (
      (if v2.1 = (-9 : Int32) then (
        some ((-9 : Int32), v2.2))
      else (
        (f_X8_firstStep F v2.1 v2.2).bind fun v5 =>
        (ldI v2.2 93 v2.1).bind fun v6 =>
        (f_X8_tells v5 v6 v2.2).bind fun v7 =>
        some (v7.1, v7.2)))) fun t3 =>
    some (t3.1, t3.2)))
  else (
    some (v1.1, v1.2)))
set_option maxRecDepth 100000 in
set_option maxHeartbeats 4000000 in
theorem S_X8_near (F : Nat) (x1_ : Int32) (h : Hp) (r : (Int32 × Hp)) (hf : f_X8_near F x1_ h = some r) : MetP Y_X8_near 10 [.ref 66, .int x1_] h (some (.int r.1), r.2) := by
  unfold f_X8_near at hf
  refine met_of yo_X8_near (Nat.le_of_ble_eq_true rfl) ?_
  show Run Y_X8_near _ 0 [some (.ref 66), some (.int x1_), none, none] [] h
  refine r_aload_n dX8_near_0 rfl ?_
  refine r_iconst (v := 1) dX8_near_1 (by decide) ?_
  refine r_iload_n dX8_near_2 rfl ?_
  obtain ⟨v1, hv, hf⟩ := bnd hf
  refine r_callV (lv := 9) dX8_near_3 yo_X8_needWanted yi_X8_needWanted ml_X8_348 ya_X8_needWanted sh_66 ⟨_, rfl, rfl⟩ (Fits.vm (by decide)) rfl rfl (Nat.le_of_ble_eq_true rfl) (S_X8_needWanted F (1 : Int32) x1_ h  _ hv) ?_
  refine r_istore_nA dX8_near_6 (by decide) ?_
  refine r_iload_n dX8_near_7 rfl ?_
  refine r_if_ge 13 dX8_near_8 (by decide) hf (fun c9 hf => ?_) (fun c9 hf => ?_)
  · refine r_aload_n dX8_near_13 rfl ?_
    obtain ⟨v2, hv, hf⟩ := bnd hf
    refine r_callV (lv := 2) dX8_near_14 yo_X8_firstWanted yi_X8_firstWanted ml_X8_352 ya_X8_firstWanted sh_66 ⟨_, rfl, rfl⟩ (Fits.vm (by decide)) rfl rfl (Nat.le_of_ble_eq_true rfl) (S_X8_firstWanted F v1.2  _ hv) ?_
    refine r_istore_nA dX8_near_17 (by decide) ?_
    refine r_iload_n dX8_near_18 rfl ?_
    refine r_bipush (v := -9) dX8_near_19 (by decide) ?_
    refine r_reg (P := fun t3 => Run Y_X8_near (VM 10 (some (.int r.1), r.2)) 44 [some (.ref 66), some (.int x1_), some (.int v1.1), some (.int v2.1)] [.int t3.1] t3.2) hf (fun t3 hf => ?_) (fun t3 key4 hf => ?_)
    · exact e_iH dX8_near_44 rfl hf
    · refine r_icmp_ne 29 dX8_near_21 (by decide) hf (fun c8 hf => ?_) (fun c8 hf => ?_)
      · refine r_aload_n dX8_near_29 rfl ?_
        refine r_aload_n dX8_near_30 rfl ?_
        refine r_iload_n dX8_near_31 rfl ?_
        obtain ⟨v5, hv, hf⟩ := bnd hf
        refine r_callV (lv := 1) dX8_near_32 yo_X8_firstStep yi_X8_firstStep ml_X8_355 ya_X8_firstStep sh_66 ⟨_, rfl, rfl⟩ (Fits.vm (by decide)) rfl rfl (Nat.le_of_ble_eq_true rfl) (S_X8_firstStep F v2.1 v2.2  _ hv) ?_
        refine r_aload_n dX8_near_35 rfl ?_
        refine r_getS (b := 93) dX8_near_36 sh_66 ft_X8_90 rfl rfl ?_
        refine r_iload_n dX8_near_39 rfl ?_
        refine r_iald dX8_near_40 sh_93 hf fun v6 hf => ?_
        obtain ⟨v7, hv, hf⟩ := bnd hf
        refine r_callV (lv := 1) dX8_near_41 yo_X8_tells yi_X8_tells ml_X8_152 ya_X8_tells sh_66 ⟨_, rfl, rfl⟩ (Fits.vm (by decide)) rfl rfl (Nat.le_of_ble_eq_true rfl) (S_X8_tells v5 v6 v2.2  _ hv) ?_
        cases hf; exact key4
      · refine r_bipush (v := -9) dX8_near_24 (by decide) ?_
        refine r_goto 44 dX8_near_26 (by decide) ?_
        cases hf; exact key4
  · refine r_iload_n dX8_near_11 rfl ?_
    exact e_iH dX8_near_12 rfl hf
def f_X8_path (F : Nat) (x1_ : Int32) (x2_ : Int32) (h : Hp) : Option (Int32 × Hp) :=
  (f_X8_isRow x2_ h).bind fun v1 =>
  (f_X8_needWanted F v1 x1_ h).bind fun v2 =>
  (if 0 ≤ v2.1 then (
    (f_X8_firstWanted F v2.2).bind fun v3 =>
    (if v3.1 = (-9 : Int32) then (
      some ((-9 : Int32), v3.2))
    else (
      (ldI v3.2 93 v3.1).bind fun v4 =>
      (if v4 ≤ (40 : Int32) then (
        (ldI v3.2 93 v3.1).bind fun v5 =>
        (stI v3.2 68 x2_ v5).bind fun h6 =>
        fix (σ := Int32 × Int32 × Hp) (ρ := (Int32 × Hp)) (fun self8 s7 =>
          (if s7.2.1 < 0 then (
            some (v5, s7.2.2))
          else (
            (Option.bind (α := Int32) (
              (if v5 ≤ s7.2.1 then (
                some (0 : Int32))
              else (
                (ldI s7.2.2 95 s7.1).bind fun v12 =>
                some v12))) fun t10 =>
            (stI s7.2.2 69 (((40 : Int32) * x2_) + s7.2.1) t10).bind fun h14 =>
            (Option.bind (α := Int32) (
              (if v5 ≤ s7.2.1 then (
                some s7.1)
              else (
                (ldI h14 94 s7.1).bind fun v17 =>
                some v17))) fun t15 =>
            self8 (t15, (s7.2.1 + (-1)), h14)))))) F (v3.1, (39 : Int32), h6))
      else (
        some ((-9 : Int32), v3.2))))))
  else (
    some (v2.1, v2.2)))
set_option maxRecDepth 100000 in
set_option maxHeartbeats 4000000 in
theorem S_X8_path (F : Nat) (x1_ : Int32) (x2_ : Int32) (h : Hp) (r : (Int32 × Hp)) (hf : f_X8_path F x1_ x2_ h = some r) : MetP Y_X8_path 10 [.ref 66, .int x1_, .int x2_] h (some (.int r.1), r.2) := by
  unfold f_X8_path at hf
  refine met_of yo_X8_path (Nat.le_of_ble_eq_true rfl) ?_
  show Run Y_X8_path _ 0 [some (.ref 66), some (.int x1_), some (.int x2_), none, none, none, none] [] h
  refine r_aload_n dX8_path_0 rfl ?_
  refine r_iload_n dX8_path_1 rfl ?_
  obtain ⟨v1, hv, hf⟩ := bnd hf
  refine r_callS (lv := 2) dX8_path_2 yo_X8_isRow ys_X8_isRow ml_X8_140 ya_X8_isRow (Fits.vm (by decide)) rfl rfl (Nat.le_of_ble_eq_true rfl) (S_X8_isRow x2_ h  _ hv) ?_
  refine r_iload_n dX8_path_5 rfl ?_
  obtain ⟨v2, hv, hf⟩ := bnd hf
  refine r_callV (lv := 9) dX8_path_6 yo_X8_needWanted yi_X8_needWanted ml_X8_348 ya_X8_needWanted sh_66 ⟨_, rfl, rfl⟩ (Fits.vm (by decide)) rfl rfl (Nat.le_of_ble_eq_true rfl) (S_X8_needWanted F v1 x1_ h  _ hv) ?_
  refine r_istore_nA dX8_path_9 (by decide) ?_
  refine r_iload_n dX8_path_10 rfl ?_
  refine r_if_ge 16 dX8_path_11 (by decide) hf (fun c22 hf => ?_) (fun c22 hf => ?_)
  · refine r_aload_n dX8_path_16 rfl ?_
    obtain ⟨v3, hv, hf⟩ := bnd hf
    refine r_callV (lv := 2) dX8_path_17 yo_X8_firstWanted yi_X8_firstWanted ml_X8_352 ya_X8_firstWanted sh_66 ⟨_, rfl, rfl⟩ (Fits.vm (by decide)) rfl rfl (Nat.le_of_ble_eq_true rfl) (S_X8_firstWanted F v2.2  _ hv) ?_
    refine r_istoreA dX8_path_20 (by decide) ?_
    refine r_iload dX8_path_22 rfl ?_
    refine r_bipush (v := -9) dX8_path_24 (by decide) ?_
    refine r_icmp_eq 41 dX8_path_26 (by decide) hf (fun c21 hf => ?_) (fun c21 hf => ?_)
    · refine r_bipush (v := -9) dX8_path_41 (by decide) ?_
      exact e_iH dX8_path_43 rfl hf
    · refine r_aload_n dX8_path_29 rfl ?_
      refine r_getS (b := 93) dX8_path_30 sh_66 ft_X8_90 rfl rfl ?_
      refine r_iload dX8_path_33 rfl ?_
      refine r_iald dX8_path_35 sh_93 hf fun v4 hf => ?_
      refine r_bipush (v := 40) dX8_path_36 (by decide) ?_
      refine r_icmp_le 44 dX8_path_38 (by decide) hf (fun c20 hf => ?_) (fun c20 hf => ?_)
      · refine r_aload_n dX8_path_44 rfl ?_
        refine r_getS (b := 93) dX8_path_45 sh_66 ft_X8_90 rfl rfl ?_
        refine r_iload dX8_path_48 rfl ?_
        refine r_iald dX8_path_50 sh_93 hf fun v5 hf => ?_
        refine r_istoreA dX8_path_51 (by decide) ?_
        refine r_aload_n dX8_path_53 rfl ?_
        refine r_getS (b := 68) dX8_path_54 sh_66 ft_X8_13 rfl rfl ?_
        refine r_iload_n dX8_path_57 rfl ?_
        refine r_iload dX8_path_58 rfl ?_
        refine r_iast dX8_path_60 sh_68 hf fun h6 hf => ?_
        refine r_bipush (v := 39) dX8_path_61 (by decide) ?_
        refine r_istoreA dX8_path_63 (by decide) ?_
        refine r_fix (σ := Int32 × Int32 × Hp) (fun s7 => [some (.ref 66), some (.int x1_), some (.int x2_), some (.int v2.1), some (.int s7.1), some (.int v5), some (.int s7.2.1)]) (fun s7 => s7.2.2) (fun self8 ih9 s7 hf => ?_) F (v3.1, (39 : Int32), h6) hf
        refine r_iload dX8_path_65 rfl ?_
        refine r_if_lt 127 dX8_path_67 (by decide) hf (fun c19 hf => ?_) (fun c19 hf => ?_)
        · refine r_iload dX8_path_127 rfl ?_
          exact e_iH dX8_path_129 rfl hf
        · refine r_aload_n dX8_path_70 rfl ?_
          refine r_getS (b := 69) dX8_path_71 sh_66 ft_X8_16 rfl rfl ?_
          refine r_bipush (v := 40) dX8_path_74 (by decide) ?_
          refine r_iload_n dX8_path_76 rfl ?_
          refine r_imul dX8_path_77 ?_
          refine r_iload dX8_path_78 rfl ?_
          refine r_iadd dX8_path_80 ?_
          refine r_iload dX8_path_81 rfl ?_
          refine r_iload dX8_path_83 rfl ?_
          refine r_reg (P := fun t10 => Run Y_X8_path (VM 10 (some (.int r.1), r.2)) 99 [some (.ref 66), some (.int x1_), some (.int x2_), some (.int v2.1), some (.int s7.1), some (.int v5), some (.int s7.2.1)] [.int t10, .int (((40 : Int32) * x2_) + s7.2.1), .ref 69] s7.2.2) hf (fun t10 hf => ?_) (fun t10 key11 hf => ?_)
          · refine r_iast dX8_path_99 sh_69 hf fun h14 hf => ?_
            refine r_iload dX8_path_100 rfl ?_
            refine r_iload dX8_path_102 rfl ?_
            refine r_reg (P := fun t15 => Run Y_X8_path (VM 10 (some (.int r.1), r.2)) 119 [some (.ref 66), some (.int x1_), some (.int x2_), some (.int v2.1), some (.int s7.1), some (.int v5), some (.int s7.2.1)] [.int t15] h14) hf (fun t15 hf => ?_) (fun t15 key16 hf => ?_)
            · refine r_istoreA dX8_path_119 (by decide) ?_
              refine r_iincA (v := -1) dX8_path_121 rfl (by decide) (by decide) ?_
              refine r_goto 65 dX8_path_124 (by decide) ?_
              exact ih9 _ hf
            · refine r_icmp_ge 117 dX8_path_104 (by decide) hf (fun c18 hf => ?_) (fun c18 hf => ?_)
              · refine r_iload dX8_path_117 rfl ?_
                cases hf; exact key16
              · refine r_aload_n dX8_path_107 rfl ?_
                refine r_getS (b := 94) dX8_path_108 sh_66 ft_X8_93 rfl rfl ?_
                refine r_iload dX8_path_111 rfl ?_
                refine r_iald dX8_path_113 sh_94 hf fun v17 hf => ?_
                refine r_goto 119 dX8_path_114 (by decide) ?_
                cases hf; exact key16
          · refine r_icmp_ge 98 dX8_path_85 (by decide) hf (fun c13 hf => ?_) (fun c13 hf => ?_)
            · refine r_iconst (v := 0) dX8_path_98 (by decide) ?_
              cases hf; exact key11
            · refine r_aload_n dX8_path_88 rfl ?_
              refine r_getS (b := 95) dX8_path_89 sh_66 ft_X8_96 rfl rfl ?_
              refine r_iload dX8_path_92 rfl ?_
              refine r_iald dX8_path_94 sh_95 hf fun v12 hf => ?_
              refine r_goto 99 dX8_path_95 (by decide) ?_
              cases hf; exact key11
      · refine r_bipush (v := -9) dX8_path_41 (by decide) ?_
        exact e_iH dX8_path_43 rfl hf
  · refine r_iload_n dX8_path_14 rfl ?_
    exact e_iH dX8_path_15 rfl hf
def f_X8_reach (F : Nat)  (h : Hp) : Option (Int32 × Hp) :=
  (if (gI h 66 10) = 0 then (
    some ((-4 : Int32), h))
  else (
    (f_X8_layFromNow F h).bind fun h1 =>
    (ldI h1 92 ((gI h1 66 42) - (1 : Int32))).bind fun v2 =>
    (ldI h1 93 v2).bind fun v3 =>
    (f_X8_tells v3 (gI h1 66 42) h1).bind fun v4 =>
    some (v4.1, v4.2)))
set_option maxRecDepth 100000 in
set_option maxHeartbeats 4000000 in
theorem S_X8_reach (F : Nat)  (h : Hp) (r : (Int32 × Hp)) (hf : f_X8_reach F h = some r) : MetP Y_X8_reach 9 [.ref 66] h (some (.int r.1), r.2) := by
  unfold f_X8_reach at hf
  refine met_of yo_X8_reach (Nat.le_of_ble_eq_true rfl) ?_
  show Run Y_X8_reach _ 0 [some (.ref 66)] [] h
  refine r_aload_n dX8_reach_0 rfl ?_
  refine r_getI dX8_reach_1 sh_66 ft_X8_221 rfl ?_
  refine r_if_ne 10 dX8_reach_4 (by decide) hf (fun c5 hf => ?_) (fun c5 hf => ?_)
  · refine r_aload_n dX8_reach_10 rfl ?_
    obtain ⟨h1, hv, hf⟩ := bnd hf
    refine r_callV (lv := 8) dX8_reach_11 yo_X8_layFromNow yi_X8_layFromNow ml_X8_345 ya_X8_layFromNow sh_66 ⟨_, rfl, rfl⟩ (Fits.vm (by decide)) rfl rfl (Nat.le_of_ble_eq_true rfl) (S_X8_layFromNow F h  _ hv) ?_
    refine r_aload_n dX8_reach_14 rfl ?_
    refine r_aload_n dX8_reach_15 rfl ?_
    refine r_getS (b := 93) dX8_reach_16 sh_66 ft_X8_90 rfl rfl ?_
    refine r_aload_n dX8_reach_19 rfl ?_
    refine r_getS (b := 92) dX8_reach_20 sh_66 ft_X8_87 rfl rfl ?_
    refine r_aload_n dX8_reach_23 rfl ?_
    refine r_getI dX8_reach_24 sh_66 ft_X8_326 rfl ?_
    refine r_iconst (v := 1) dX8_reach_27 (by decide) ?_
    refine r_isub dX8_reach_28 ?_
    refine r_iald dX8_reach_29 sh_92 hf fun v2 hf => ?_
    refine r_iald dX8_reach_30 sh_93 hf fun v3 hf => ?_
    refine r_aload_n dX8_reach_31 rfl ?_
    refine r_getI dX8_reach_32 sh_66 ft_X8_326 rfl ?_
    obtain ⟨v4, hv, hf⟩ := bnd hf
    refine r_callV (lv := 1) dX8_reach_35 yo_X8_tells yi_X8_tells ml_X8_152 ya_X8_tells sh_66 ⟨_, rfl, rfl⟩ (Fits.vm (by decide)) rfl rfl (Nat.le_of_ble_eq_true rfl) (S_X8_tells v3 (gI h1 66 42) h1  _ hv) ?_
    exact e_iH dX8_reach_38 rfl hf
  · refine r_bipush (v := -4) dX8_reach_7 (by decide) ?_
    exact e_iH dX8_reach_9 rfl hf
def f_X8_where (F : Nat) (x1_ : Int32) (h : Hp) : Option (Int32 × Hp) :=
  (f_X8_isMan x1_ h).bind fun v1 =>
  (if v1 = 0 then (
    some ((-1 : Int32), h))
  else (
    (f_X8_layFromNow F h).bind fun h2 =>
    fix (σ := Int32 × Int32 × Int32 × Hp) (ρ := (Int32 × Hp)) (fun self4 s3 =>
      (if (gI s3.2.2.2 66 42) ≤ s3.2.2.1 then (
        (f_X8_tells s3.2.1 s3.1 s3.2.2.2).bind fun v6 =>
        some (v6.1, v6.2))
      else (
        (ldI s3.2.2.2 92 s3.2.2.1).bind fun v7 =>
        (f_X8_lookAt F v7 s3.2.2.2).bind fun h8 =>
        (ldI h8 82 x1_).bind fun v9 =>
        (f_X8_has s3.1 v9 h8).bind fun v10 =>
        (Option.bind (α := Int32) (
          (if v10 = 0 then (
            (ldI h8 92 s3.2.2.1).bind fun v13 =>
            (ldI h8 93 v13).bind fun v14 =>
            some v14)
          else (
            some s3.2.1))) fun t11 =>
        (ldI h8 82 x1_).bind fun v16 =>
        nm ((s3.1 ||| ((1 : Int32) <<< (v16 &&& 31)))) fun x17 =>
        self4 (x17, t11, (s3.2.2.1 + 1), h8))))) F ((0 : Int32), (0 : Int32), (0 : Int32), h2)))
set_option maxRecDepth 100000 in
set_option maxHeartbeats 4000000 in
theorem S_X8_where (F : Nat) (x1_ : Int32) (h : Hp) (r : (Int32 × Hp)) (hf : f_X8_where F x1_ h = some r) : MetP Y_X8_where 9 [.ref 66, .int x1_] h (some (.int r.1), r.2) := by
  unfold f_X8_where at hf
  refine met_of yo_X8_where (Nat.le_of_ble_eq_true rfl) ?_
  show Run Y_X8_where _ 0 [some (.ref 66), some (.int x1_), none, none, none] [] h
  refine r_aload_n dX8_where_0 rfl ?_
  refine r_iload_n dX8_where_1 rfl ?_
  obtain ⟨v1, hv, hf⟩ := bnd hf
  refine r_callV (lv := 2) dX8_where_2 yo_X8_isMan yi_X8_isMan ml_X8_287 ya_X8_isMan sh_66 ⟨_, rfl, rfl⟩ (Fits.vm (by decide)) rfl rfl (Nat.le_of_ble_eq_true rfl) (S_X8_isMan x1_ h  _ hv) ?_
  refine r_if_ne 10 dX8_where_5 (by decide) hf (fun c19 hf => ?_) (fun c19 hf => ?_)
  · refine r_aload_n dX8_where_10 rfl ?_
    obtain ⟨h2, hv, hf⟩ := bnd hf
    refine r_callV (lv := 8) dX8_where_11 yo_X8_layFromNow yi_X8_layFromNow ml_X8_345 ya_X8_layFromNow sh_66 ⟨_, rfl, rfl⟩ (Fits.vm (by decide)) rfl rfl (Nat.le_of_ble_eq_true rfl) (S_X8_layFromNow F h  _ hv) ?_
    refine r_iconst (v := 0) dX8_where_14 (by decide) ?_
    refine r_istore_nA dX8_where_15 (by decide) ?_
    refine r_iconst (v := 0) dX8_where_16 (by decide) ?_
    refine r_istore_nA dX8_where_17 (by decide) ?_
    refine r_iconst (v := 0) dX8_where_18 (by decide) ?_
    refine r_istoreA dX8_where_19 (by decide) ?_
    refine r_fix (σ := Int32 × Int32 × Int32 × Hp) (fun s3 => [some (.ref 66), some (.int x1_), some (.int s3.1), some (.int s3.2.1), some (.int s3.2.2.1)]) (fun s3 => s3.2.2.2) (fun self4 ih5 s3 hf => ?_) F ((0 : Int32), (0 : Int32), (0 : Int32), h2) hf
    refine r_iload dX8_where_21 rfl ?_
    refine r_aload_n dX8_where_23 rfl ?_
    refine r_getI dX8_where_24 sh_66 ft_X8_326 rfl ?_
    refine r_icmp_ge 88 dX8_where_27 (by decide) hf (fun c18 hf => ?_) (fun c18 hf => ?_)
    · refine r_aload_n dX8_where_88 rfl ?_
      refine r_iload_n dX8_where_89 rfl ?_
      refine r_iload_n dX8_where_90 rfl ?_
      obtain ⟨v6, hv, hf⟩ := bnd hf
      refine r_callV (lv := 1) dX8_where_91 yo_X8_tells yi_X8_tells ml_X8_152 ya_X8_tells sh_66 ⟨_, rfl, rfl⟩ (Fits.vm (by decide)) rfl rfl (Nat.le_of_ble_eq_true rfl) (S_X8_tells s3.2.1 s3.1 s3.2.2.2  _ hv) ?_
      exact e_iH dX8_where_94 rfl hf
    · refine r_aload_n dX8_where_30 rfl ?_
      refine r_aload_n dX8_where_31 rfl ?_
      refine r_getS (b := 92) dX8_where_32 sh_66 ft_X8_87 rfl rfl ?_
      refine r_iload dX8_where_35 rfl ?_
      refine r_iald dX8_where_37 sh_92 hf fun v7 hf => ?_
      obtain ⟨h8, hv, hf⟩ := bnd hf
      refine r_callV (lv := 1) dX8_where_38 yo_X8_lookAt yi_X8_lookAt ml_X8_329 ya_X8_lookAt sh_66 ⟨_, rfl, rfl⟩ (Fits.vm (by decide)) rfl rfl (Nat.le_of_ble_eq_true rfl) (S_X8_lookAt F v7 s3.2.2.2  _ hv) ?_
      refine r_iload_n dX8_where_41 rfl ?_
      refine r_aload_n dX8_where_42 rfl ?_
      refine r_getS (b := 82) dX8_where_43 sh_66 ft_X8_56 rfl rfl ?_
      refine r_iload_n dX8_where_46 rfl ?_
      refine r_iald dX8_where_47 sh_82 hf fun v9 hf => ?_
      obtain ⟨v10, hv, hf⟩ := bnd hf
      refine r_callS (lv := 1) dX8_where_48 yo_X8_has ys_X8_has ml_X8_358 ya_X8_has (Fits.vm (by decide)) rfl rfl (Nat.le_of_ble_eq_true rfl) (S_X8_has s3.1 v9 h8  _ hv) ?_
      refine r_reg (P := fun t11 => Run Y_X8_where (VM 9 (some (.int r.1), r.2)) 70 [some (.ref 66), some (.int x1_), some (.int s3.1), some (.int s3.2.1), some (.int s3.2.2.1)] [.int t11] h8) hf (fun t11 hf => ?_) (fun t11 key12 hf => ?_)
      · refine r_istore_nA dX8_where_70 (by decide) ?_
        refine r_iload_n dX8_where_71 rfl ?_
        refine r_iconst (v := 1) dX8_where_72 (by decide) ?_
        refine r_aload_n dX8_where_73 rfl ?_
        refine r_getS (b := 82) dX8_where_74 sh_66 ft_X8_56 rfl rfl ?_
        refine r_iload_n dX8_where_77 rfl ?_
        refine r_iald dX8_where_78 sh_82 hf fun v16 hf => ?_
        refine r_ishl dX8_where_79 ?_
        refine r_ior dX8_where_80 ?_
        refine r_istore_n dX8_where_81 (by decide) hf fun x17 hf => ?_
        refine r_iincA (v := 1) dX8_where_82 rfl (by decide) (by decide) ?_
        refine r_goto 21 dX8_where_85 (by decide) ?_
        exact ih5 _ hf
      · refine r_if_eq 58 dX8_where_51 (by decide) hf (fun c15 hf => ?_) (fun c15 hf => ?_)
        · refine r_aload_n dX8_where_58 rfl ?_
          refine r_getS (b := 93) dX8_where_59 sh_66 ft_X8_90 rfl rfl ?_
          refine r_aload_n dX8_where_62 rfl ?_
          refine r_getS (b := 92) dX8_where_63 sh_66 ft_X8_87 rfl rfl ?_
          refine r_iload dX8_where_66 rfl ?_
          refine r_iald dX8_where_68 sh_92 hf fun v13 hf => ?_
          refine r_iald dX8_where_69 sh_93 hf fun v14 hf => ?_
          cases hf; exact key12
        · refine r_iload_n dX8_where_54 rfl ?_
          refine r_goto 70 dX8_where_55 (by decide) ?_
          cases hf; exact key12
  · refine r_iconst (v := -1) dX8_where_8 (by decide) ?_
    exact e_iH dX8_where_9 rfl hf
def f_X8_meet (F : Nat) (x1_ : Int32) (x2_ : Int32) (h : Hp) : Option (Int32 × Hp) :=
  (f_X8_isMan x1_ h).bind fun v1 =>
  (if v1 = 0 then (
    some ((-1 : Int32), h))
  else (
    (f_X8_isMan x2_ h).bind fun v2 =>
    (if v2 = 0 then (
      some ((-1 : Int32), h))
    else (
      (if x1_ = x2_ then (
        some ((-1 : Int32), h))
      else (
        (f_X8_layFromNow F h).bind fun h3 =>
        fix (σ := Int32 × Hp) (ρ := (Int32 × Hp)) (fun self5 s4 =>
          (if (gI s4.2 66 42) ≤ s4.1 then (
            some ((-9 : Int32), s4.2))
          else (
            (ldI s4.2 92 s4.1).bind fun v7 =>
            (f_X8_lookAt F v7 s4.2).bind fun h8 =>
            (ldI h8 82 x1_).bind fun v9 =>
            (ldI h8 82 x2_).bind fun v10 =>
            (f_X8_farIn v9 v10 (gI h8 66 9) h8).bind fun v11 =>
            (if v11 = (1 : Int32) then (
              (ldI h8 92 s4.1).bind fun v12 =>
              (ldI h8 93 v12).bind fun v13 =>
              some (v13, h8))
            else (
              self5 ((s4.1 + 1), h8)))))) F ((0 : Int32), h3)))))))
set_option maxRecDepth 100000 in
set_option maxHeartbeats 4000000 in
theorem S_X8_meet (F : Nat) (x1_ : Int32) (x2_ : Int32) (h : Hp) (r : (Int32 × Hp)) (hf : f_X8_meet F x1_ x2_ h = some r) : MetP Y_X8_meet 9 [.ref 66, .int x1_, .int x2_] h (some (.int r.1), r.2) := by
  unfold f_X8_meet at hf
  refine met_of yo_X8_meet (Nat.le_of_ble_eq_true rfl) ?_
  show Run Y_X8_meet _ 0 [some (.ref 66), some (.int x1_), some (.int x2_), none] [] h
  refine r_aload_n dX8_meet_0 rfl ?_
  refine r_iload_n dX8_meet_1 rfl ?_
  obtain ⟨v1, hv, hf⟩ := bnd hf
  refine r_callV (lv := 2) dX8_meet_2 yo_X8_isMan yi_X8_isMan ml_X8_287 ya_X8_isMan sh_66 ⟨_, rfl, rfl⟩ (Fits.vm (by decide)) rfl rfl (Nat.le_of_ble_eq_true rfl) (S_X8_isMan x1_ h  _ hv) ?_
  refine r_if_eq 21 dX8_meet_5 (by decide) hf (fun c18 hf => ?_) (fun c18 hf => ?_)
  · refine r_iconst (v := -1) dX8_meet_21 (by decide) ?_
    exact e_iH dX8_meet_22 rfl hf
  · refine r_aload_n dX8_meet_8 rfl ?_
    refine r_iload_n dX8_meet_9 rfl ?_
    obtain ⟨v2, hv, hf⟩ := bnd hf
    refine r_callV (lv := 2) dX8_meet_10 yo_X8_isMan yi_X8_isMan ml_X8_287 ya_X8_isMan sh_66 ⟨_, rfl, rfl⟩ (Fits.vm (by decide)) rfl rfl (Nat.le_of_ble_eq_true rfl) (S_X8_isMan x2_ h  _ hv) ?_
    refine r_if_eq 21 dX8_meet_13 (by decide) hf (fun c17 hf => ?_) (fun c17 hf => ?_)
    · refine r_iconst (v := -1) dX8_meet_21 (by decide) ?_
      exact e_iH dX8_meet_22 rfl hf
    · refine r_iload_n dX8_meet_16 rfl ?_
      refine r_iload_n dX8_meet_17 rfl ?_
      refine r_icmp_ne 23 dX8_meet_18 (by decide) hf (fun c16 hf => ?_) (fun c16 hf => ?_)
      · refine r_aload_n dX8_meet_23 rfl ?_
        obtain ⟨h3, hv, hf⟩ := bnd hf
        refine r_callV (lv := 8) dX8_meet_24 yo_X8_layFromNow yi_X8_layFromNow ml_X8_345 ya_X8_layFromNow sh_66 ⟨_, rfl, rfl⟩ (Fits.vm (by decide)) rfl rfl (Nat.le_of_ble_eq_true rfl) (S_X8_layFromNow F h  _ hv) ?_
        refine r_iconst (v := 0) dX8_meet_27 (by decide) ?_
        refine r_istore_nA dX8_meet_28 (by decide) ?_
        refine r_fix (σ := Int32 × Hp) (fun s4 => [some (.ref 66), some (.int x1_), some (.int x2_), some (.int s4.1)]) (fun s4 => s4.2) (fun self5 ih6 s4 hf => ?_) F ((0 : Int32), h3) hf
        refine r_iload_n dX8_meet_29 rfl ?_
        refine r_aload_n dX8_meet_30 rfl ?_
        refine r_getI dX8_meet_31 sh_66 ft_X8_326 rfl ?_
        refine r_icmp_ge 88 dX8_meet_34 (by decide) hf (fun c15 hf => ?_) (fun c15 hf => ?_)
        · refine r_bipush (v := -9) dX8_meet_88 (by decide) ?_
          exact e_iH dX8_meet_90 rfl hf
        · refine r_aload_n dX8_meet_37 rfl ?_
          refine r_aload_n dX8_meet_38 rfl ?_
          refine r_getS (b := 92) dX8_meet_39 sh_66 ft_X8_87 rfl rfl ?_
          refine r_iload_n dX8_meet_42 rfl ?_
          refine r_iald dX8_meet_43 sh_92 hf fun v7 hf => ?_
          obtain ⟨h8, hv, hf⟩ := bnd hf
          refine r_callV (lv := 1) dX8_meet_44 yo_X8_lookAt yi_X8_lookAt ml_X8_329 ya_X8_lookAt sh_66 ⟨_, rfl, rfl⟩ (Fits.vm (by decide)) rfl rfl (Nat.le_of_ble_eq_true rfl) (S_X8_lookAt F v7 s4.2  _ hv) ?_
          refine r_aload_n dX8_meet_47 rfl ?_
          refine r_getS (b := 82) dX8_meet_48 sh_66 ft_X8_56 rfl rfl ?_
          refine r_iload_n dX8_meet_51 rfl ?_
          refine r_iald dX8_meet_52 sh_82 hf fun v9 hf => ?_
          refine r_aload_n dX8_meet_53 rfl ?_
          refine r_getS (b := 82) dX8_meet_54 sh_66 ft_X8_56 rfl rfl ?_
          refine r_iload_n dX8_meet_57 rfl ?_
          refine r_iald dX8_meet_58 sh_82 hf fun v10 hf => ?_
          refine r_aload_n dX8_meet_59 rfl ?_
          refine r_getI dX8_meet_60 sh_66 ft_X8_218 rfl ?_
          obtain ⟨v11, hv, hf⟩ := bnd hf
          refine r_callS (lv := 2) dX8_meet_63 yo_X8_farIn ys_X8_farIn ml_X8_199 ya_X8_farIn (Fits.vm (by decide)) rfl rfl (Nat.le_of_ble_eq_true rfl) (S_X8_farIn v9 v10 (gI h8 66 9) h8  _ hv) ?_
          refine r_iconst (v := 1) dX8_meet_66 (by decide) ?_
          refine r_icmp_ne 82 dX8_meet_67 (by decide) hf (fun c14 hf => ?_) (fun c14 hf => ?_)
          · refine r_iincA (v := 1) dX8_meet_82 rfl (by decide) (by decide) ?_
            refine r_goto 29 dX8_meet_85 (by decide) ?_
            exact ih6 _ hf
          · refine r_aload_n dX8_meet_70 rfl ?_
            refine r_getS (b := 93) dX8_meet_71 sh_66 ft_X8_90 rfl rfl ?_
            refine r_aload_n dX8_meet_74 rfl ?_
            refine r_getS (b := 92) dX8_meet_75 sh_66 ft_X8_87 rfl rfl ?_
            refine r_iload_n dX8_meet_78 rfl ?_
            refine r_iald dX8_meet_79 sh_92 hf fun v12 hf => ?_
            refine r_iald dX8_meet_80 sh_93 hf fun v13 hf => ?_
            exact e_iH dX8_meet_81 rfl hf
      · refine r_iconst (v := -1) dX8_meet_21 (by decide) ?_
        exact e_iH dX8_meet_22 rfl hf
def f_X8_window (F : Nat) (x1_ : Int32) (h : Hp) : Option (Int32 × Hp) :=
  (f_X8_in x1_ (0 : Int32) ((gI h 66 9) - (1 : Int32)) h).bind fun v1 =>
  (if v1 = 0 then (
    some ((-1 : Int32), h))
  else (
    (if (gI h 66 10) = 0 then (
      some ((-4 : Int32), h))
    else (
      (f_X8_layFromNow F h).bind fun h2 =>
      fix (σ := Int32 × Hp) (ρ := (Int32 × Hp)) (fun self4 s3 =>
        (if (gI s3.2 66 42) ≤ s3.1 then (
          some ((-9 : Int32), s3.2))
        else (
          (ldI s3.2 92 s3.1).bind fun v6 =>
          (f_X8_lookAt F v6 s3.2).bind fun h7 =>
          fix (σ := Int32 × Int32) (ρ := (Int32 × Hp)) (fun self9 s8 =>
            (if (gI h7 66 10) ≤ s8.2 then (
              (if s8.1 = 0 then (
                self4 ((s3.1 + 1), h7))
              else (
                (ldI h7 92 s3.1).bind fun v11 =>
                (ldI h7 93 v11).bind fun v12 =>
                some (v12, h7))))
            else (
              (Option.bind (α := Int32) (
                (if s8.1 = 0 then (
                  some (0 : Int32))
                else (
                  (ldI h7 82 s8.2).bind fun v16 =>
                  (rmI v16 (gI h7 66 9)).bind fun v17 =>
                  (if v17 = x1_ then (
                    some (1 : Int32))
                  else (
                    some (0 : Int32)))))) fun t14 =>
              self9 (t14, (s8.2 + 1)))))) F ((1 : Int32), (0 : Int32))))) F ((0 : Int32), h2)))))
set_option maxRecDepth 100000 in
set_option maxHeartbeats 4000000 in
theorem S_X8_window (F : Nat) (x1_ : Int32) (h : Hp) (r : (Int32 × Hp)) (hf : f_X8_window F x1_ h = some r) : MetP Y_X8_window 9 [.ref 66, .int x1_] h (some (.int r.1), r.2) := by
  unfold f_X8_window at hf
  refine met_of yo_X8_window (Nat.le_of_ble_eq_true rfl) ?_
  show Run Y_X8_window _ 0 [some (.ref 66), some (.int x1_), none, none, none] [] h
  refine r_iload_n dX8_window_0 rfl ?_
  refine r_iconst (v := 0) dX8_window_1 (by decide) ?_
  refine r_aload_n dX8_window_2 rfl ?_
  refine r_getI dX8_window_3 sh_66 ft_X8_218 rfl ?_
  refine r_iconst (v := 1) dX8_window_6 (by decide) ?_
  refine r_isub dX8_window_7 ?_
  obtain ⟨v1, hv, hf⟩ := bnd hf
  refine r_callS (lv := 1) dX8_window_8 yo_X8_in ys_X8_in ml_X8_133 ya_X8_in (Fits.vm (by decide)) rfl rfl (Nat.le_of_ble_eq_true rfl) (S_X8_in x1_ (0 : Int32) ((gI h 66 9) - (1 : Int32)) h  _ hv) ?_
  refine r_if_ne 16 dX8_window_11 (by decide) hf (fun c23 hf => ?_) (fun c23 hf => ?_)
  · refine r_aload_n dX8_window_16 rfl ?_
    refine r_getI dX8_window_17 sh_66 ft_X8_221 rfl ?_
    refine r_if_ne 26 dX8_window_20 (by decide) hf (fun c22 hf => ?_) (fun c22 hf => ?_)
    · refine r_aload_n dX8_window_26 rfl ?_
      obtain ⟨h2, hv, hf⟩ := bnd hf
      refine r_callV (lv := 8) dX8_window_27 yo_X8_layFromNow yi_X8_layFromNow ml_X8_345 ya_X8_layFromNow sh_66 ⟨_, rfl, rfl⟩ (Fits.vm (by decide)) rfl rfl (Nat.le_of_ble_eq_true rfl) (S_X8_layFromNow F h  _ hv) ?_
      refine r_iconst (v := 0) dX8_window_30 (by decide) ?_
      refine r_istore_nA dX8_window_31 (by decide) ?_
      refine r_fix (σ := Int32 × Hp) (fun s3 => [some (.ref 66), some (.int x1_), some (.int s3.1), none, none]) (fun s3 => s3.2) (fun self4 ih5 s3 hf => ?_) F ((0 : Int32), h2) hf
      refine r_iload_n dX8_window_32 rfl ?_
      refine r_aload_n dX8_window_33 rfl ?_
      refine r_getI dX8_window_34 sh_66 ft_X8_326 rfl ?_
      refine r_icmp_ge 118 dX8_window_37 (by decide) hf (fun c21 hf => ?_) (fun c21 hf => ?_)
      · refine r_bipush (v := -9) dX8_window_118 (by decide) ?_
        exact e_iH dX8_window_120 rfl hf
      · refine r_aload_n dX8_window_40 rfl ?_
        refine r_aload_n dX8_window_41 rfl ?_
        refine r_getS (b := 92) dX8_window_42 sh_66 ft_X8_87 rfl rfl ?_
        refine r_iload_n dX8_window_45 rfl ?_
        refine r_iald dX8_window_46 sh_92 hf fun v6 hf => ?_
        obtain ⟨h7, hv, hf⟩ := bnd hf
        refine r_callV (lv := 1) dX8_window_47 yo_X8_lookAt yi_X8_lookAt ml_X8_329 ya_X8_lookAt sh_66 ⟨_, rfl, rfl⟩ (Fits.vm (by decide)) rfl rfl (Nat.le_of_ble_eq_true rfl) (S_X8_lookAt F v6 s3.2  _ hv) ?_
        refine r_iconst (v := 1) dX8_window_50 (by decide) ?_
        refine r_istore_nA dX8_window_51 (by decide) ?_
        refine r_iconst (v := 0) dX8_window_52 (by decide) ?_
        refine r_istoreA dX8_window_53 (by decide) ?_
        refine r_fix (σ := Int32 × Int32) (fun s8 => [some (.ref 66), some (.int x1_), some (.int s3.1), some (.int s8.1), some (.int s8.2)]) (fun s8 => h7) (fun self9 ih10 s8 hf => ?_) F ((1 : Int32), (0 : Int32)) hf
        refine r_iload dX8_window_55 rfl ?_
        refine r_aload_n dX8_window_57 rfl ?_
        refine r_getI dX8_window_58 sh_66 ft_X8_221 rfl ?_
        refine r_icmp_ge 96 dX8_window_61 (by decide) hf (fun c20 hf => ?_) (fun c20 hf => ?_)
        · refine r_iload_n dX8_window_96 rfl ?_
          refine r_if_eq 112 dX8_window_97 (by decide) hf (fun c13 hf => ?_) (fun c13 hf => ?_)
          · refine r_iincA (v := 1) dX8_window_112 rfl (by decide) (by decide) ?_
            refine r_goto 32 dX8_window_115 (by decide) ?_
            refine r_lt (ll_s (ll_s (ll_s (ll_n (ll_n ll_0))))) ?_
            exact ih5 _ hf
          · refine r_aload_n dX8_window_100 rfl ?_
            refine r_getS (b := 93) dX8_window_101 sh_66 ft_X8_90 rfl rfl ?_
            refine r_aload_n dX8_window_104 rfl ?_
            refine r_getS (b := 92) dX8_window_105 sh_66 ft_X8_87 rfl rfl ?_
            refine r_iload_n dX8_window_108 rfl ?_
            refine r_iald dX8_window_109 sh_92 hf fun v11 hf => ?_
            refine r_iald dX8_window_110 sh_93 hf fun v12 hf => ?_
            exact e_iH dX8_window_111 rfl hf
        · refine r_iload_n dX8_window_64 rfl ?_
          refine r_reg (P := fun t14 => Run Y_X8_window (VM 9 (some (.int r.1), r.2)) 89 [some (.ref 66), some (.int x1_), some (.int s3.1), some (.int s8.1), some (.int s8.2)] [.int t14] h7) hf (fun t14 hf => ?_) (fun t14 key15 hf => ?_)
          · refine r_istore_nA dX8_window_89 (by decide) ?_
            refine r_iincA (v := 1) dX8_window_90 rfl (by decide) (by decide) ?_
            refine r_goto 55 dX8_window_93 (by decide) ?_
            exact ih10 _ hf
          · refine r_if_eq 88 dX8_window_65 (by decide) hf (fun c19 hf => ?_) (fun c19 hf => ?_)
            · refine r_iconst (v := 0) dX8_window_88 (by decide) ?_
              cases hf; exact key15
            · refine r_aload_n dX8_window_68 rfl ?_
              refine r_getS (b := 82) dX8_window_69 sh_66 ft_X8_56 rfl rfl ?_
              refine r_iload dX8_window_72 rfl ?_
              refine r_iald dX8_window_74 sh_82 hf fun v16 hf => ?_
              refine r_aload_n dX8_window_75 rfl ?_
              refine r_getI dX8_window_76 sh_66 ft_X8_218 rfl ?_
              refine r_irem dX8_window_79 hf fun v17 hf => ?_
              refine r_iload_n dX8_window_80 rfl ?_
              refine r_icmp_ne 88 dX8_window_81 (by decide) hf (fun c18 hf => ?_) (fun c18 hf => ?_)
              · refine r_iconst (v := 0) dX8_window_88 (by decide) ?_
                cases hf; exact key15
              · refine r_iconst (v := 1) dX8_window_84 (by decide) ?_
                refine r_goto 89 dX8_window_85 (by decide) ?_
                cases hf; exact key15
    · refine r_bipush (v := -4) dX8_window_23 (by decide) ?_
      exact e_iH dX8_window_25 rfl hf
  · refine r_iconst (v := -1) dX8_window_14 (by decide) ?_
    exact e_iH dX8_window_15 rfl hf
def f_X8_isStand (F : Nat) (x1_ : Int32) (h : Hp) : Option (Int32 × Hp) :=
  fix (σ := Int32 × Int32 × Hp) (ρ := (Int32 × Hp)) (fun self2 s1 =>
    (if (gI s1.2.2 66 10) ≤ s1.2.1 then (
      (Option.bind (α := Int32) (
        (if s1.1 = 0 then (
          some (0 : Int32))
        else (
          (f_X8_allKept F s1.2.2).bind fun v6 =>
          (if v6 = 0 then (
            some (0 : Int32))
          else (
            some (1 : Int32)))))) fun t4 =>
      (ckZ t4).bind fun z => some (z, s1.2.2)))
    else (
      (f_X8_rowAt x1_ s1.2.1 s1.2.2).bind fun v9 =>
      (Option.bind (α := Int32) (
        (if s1.1 = 0 then (
          some (0 : Int32))
        else (
          (f_X8_isCell v9 s1.2.2).bind fun v12 =>
          (if v12 = 0 then (
            some (0 : Int32))
          else (
            some (1 : Int32)))))) fun t10 =>
      (Option.bind (α := Int32) (
        (if t10 = 0 then (
          some (0 : Int32))
        else (
          (ldI s1.2.2 73 v9).bind fun v17 =>
          (if v17 = 0 then (
            some (1 : Int32))
          else (
            some (0 : Int32)))))) fun t15 =>
      fix (σ := Int32 × Int32) (ρ := (Int32 × Hp)) (fun self21 s20 =>
        (if s1.2.1 ≤ s20.2 then (
          (stI s1.2.2 82 s1.2.1 v9).bind fun h23 =>
          self2 (s20.1, (s1.2.1 + 1), h23))
        else (
          (Option.bind (α := Int32) (
            (if s20.1 = 0 then (
              some (0 : Int32))
            else (
              (f_X8_rowAt x1_ s20.2 s1.2.2).bind fun v26 =>
              (if v26 = v9 then (
                some (0 : Int32))
              else (
                some (1 : Int32)))))) fun t24 =>
          self21 (t24, (s20.2 + 1)))))) F (t15, (0 : Int32))))))) F ((1 : Int32), (0 : Int32), h)
set_option maxRecDepth 100000 in
set_option maxHeartbeats 4000000 in
theorem S_X8_isStand (F : Nat) (x1_ : Int32) (h : Hp) (r : (Int32 × Hp)) (hf : f_X8_isStand F x1_ h = some r) : MetP Y_X8_isStand 6 [.ref 66, .int x1_] h (some (.int r.1), r.2) := by
  unfold f_X8_isStand at hf
  refine met_of yo_X8_isStand (Nat.le_of_ble_eq_true rfl) ?_
  show Run Y_X8_isStand _ 0 [some (.ref 66), some (.int x1_), none, none, none, none] [] h
  refine r_iconst (v := 1) dX8_isStand_0 (by decide) ?_
  refine r_istore_nA dX8_isStand_1 (by decide) ?_
  refine r_iconst (v := 0) dX8_isStand_2 (by decide) ?_
  refine r_istore_nA dX8_isStand_3 (by decide) ?_
  refine r_fix (σ := Int32 × Int32 × Hp) (fun s1 => [some (.ref 66), some (.int x1_), some (.int s1.1), some (.int s1.2.1), none, none]) (fun s1 => s1.2.2) (fun self2 ih3 s1 hf => ?_) F ((1 : Int32), (0 : Int32), h) hf
  refine r_iload_n dX8_isStand_4 rfl ?_
  refine r_aload_n dX8_isStand_5 rfl ?_
  refine r_getI dX8_isStand_6 sh_66 ft_X8_221 rfl ?_
  refine r_icmp_ge 110 dX8_isStand_9 (by decide) hf (fun c30 hf => ?_) (fun c30 hf => ?_)
  · refine r_iload_n dX8_isStand_110 rfl ?_
    refine r_reg (P := fun t4 => Run Y_X8_isStand (VM 6 (some (.int r.1), r.2)) 126 [some (.ref 66), some (.int x1_), some (.int s1.1), some (.int s1.2.1), none, none] [.int t4] s1.2.2) hf (fun t4 hf => ?_) (fun t4 key5 hf => ?_)
    · exact e_zH dX8_isStand_126 rfl hf
    · refine r_if_eq 125 dX8_isStand_111 (by decide) hf (fun c8 hf => ?_) (fun c8 hf => ?_)
      · refine r_iconst (v := 0) dX8_isStand_125 (by decide) ?_
        cases hf; exact key5
      · refine r_aload_n dX8_isStand_114 rfl ?_
        obtain ⟨v6, hv, hf⟩ := bnd hf
        refine r_callV (lv := 5) dX8_isStand_115 yo_X8_allKept yi_X8_allKept ml_X8_278 ya_X8_allKept sh_66 ⟨_, rfl, rfl⟩ (Fits.vm (by decide)) rfl rfl (Nat.le_of_ble_eq_true rfl) (S_X8_allKept F s1.2.2  _ hv) ?_
        refine r_if_eq 125 dX8_isStand_118 (by decide) hf (fun c7 hf => ?_) (fun c7 hf => ?_)
        · refine r_iconst (v := 0) dX8_isStand_125 (by decide) ?_
          cases hf; exact key5
        · refine r_iconst (v := 1) dX8_isStand_121 (by decide) ?_
          refine r_goto 126 dX8_isStand_122 (by decide) ?_
          cases hf; exact key5
  · refine r_aload_n dX8_isStand_12 rfl ?_
    refine r_iload_n dX8_isStand_13 rfl ?_
    refine r_iload_n dX8_isStand_14 rfl ?_
    obtain ⟨v9, hv, hf⟩ := bnd hf
    refine r_callV (lv := 1) dX8_isStand_15 yo_X8_rowAt yi_X8_rowAt ml_X8_148 ya_X8_rowAt sh_66 ⟨_, rfl, rfl⟩ (Fits.vm (by decide)) rfl rfl (Nat.le_of_ble_eq_true rfl) (S_X8_rowAt x1_ s1.2.1 s1.2.2  _ hv) ?_
    refine r_istoreA dX8_isStand_18 (by decide) ?_
    refine r_iload_n dX8_isStand_20 rfl ?_
    refine r_reg (P := fun t10 => Run Y_X8_isStand (VM 6 (some (.int r.1), r.2)) 38 [some (.ref 66), some (.int x1_), some (.int s1.1), some (.int s1.2.1), some (.int v9), none] [.int t10] s1.2.2) hf (fun t10 hf => ?_) (fun t10 key11 hf => ?_)
    · refine r_istore_nA dX8_isStand_38 (by decide) ?_
      refine r_iload_n dX8_isStand_39 rfl ?_
      refine r_reg (P := fun t15 => Run Y_X8_isStand (VM 6 (some (.int r.1), r.2)) 58 [some (.ref 66), some (.int x1_), some (.int t10), some (.int s1.2.1), some (.int v9), none] [.int t15] s1.2.2) hf (fun t15 hf => ?_) (fun t15 key16 hf => ?_)
      · refine r_istore_nA dX8_isStand_58 (by decide) ?_
        refine r_iconst (v := 0) dX8_isStand_59 (by decide) ?_
        refine r_istoreA dX8_isStand_60 (by decide) ?_
        refine r_fix (σ := Int32 × Int32) (fun s20 => [some (.ref 66), some (.int x1_), some (.int s20.1), some (.int s1.2.1), some (.int v9), some (.int s20.2)]) (fun s20 => s1.2.2) (fun self21 ih22 s20 hf => ?_) F (t15, (0 : Int32)) hf
        refine r_iload dX8_isStand_62 rfl ?_
        refine r_iload_n dX8_isStand_64 rfl ?_
        refine r_icmp_ge 96 dX8_isStand_65 (by decide) hf (fun c29 hf => ?_) (fun c29 hf => ?_)
        · refine r_aload_n dX8_isStand_96 rfl ?_
          refine r_getS (b := 82) dX8_isStand_97 sh_66 ft_X8_56 rfl rfl ?_
          refine r_iload_n dX8_isStand_100 rfl ?_
          refine r_iload dX8_isStand_101 rfl ?_
          refine r_iast dX8_isStand_103 sh_82 hf fun h23 hf => ?_
          refine r_iincA (v := 1) dX8_isStand_104 rfl (by decide) (by decide) ?_
          refine r_goto 4 dX8_isStand_107 (by decide) ?_
          refine r_lt (ll_s (ll_s (ll_s (ll_s (ll_n (ll_n ll_0)))))) ?_
          exact ih3 _ hf
        · refine r_iload_n dX8_isStand_68 rfl ?_
          refine r_reg (P := fun t24 => Run Y_X8_isStand (VM 6 (some (.int r.1), r.2)) 89 [some (.ref 66), some (.int x1_), some (.int s20.1), some (.int s1.2.1), some (.int v9), some (.int s20.2)] [.int t24] s1.2.2) hf (fun t24 hf => ?_) (fun t24 key25 hf => ?_)
          · refine r_istore_nA dX8_isStand_89 (by decide) ?_
            refine r_iincA (v := 1) dX8_isStand_90 rfl (by decide) (by decide) ?_
            refine r_goto 62 dX8_isStand_93 (by decide) ?_
            exact ih22 _ hf
          · refine r_if_eq 88 dX8_isStand_69 (by decide) hf (fun c28 hf => ?_) (fun c28 hf => ?_)
            · refine r_iconst (v := 0) dX8_isStand_88 (by decide) ?_
              cases hf; exact key25
            · refine r_aload_n dX8_isStand_72 rfl ?_
              refine r_iload_n dX8_isStand_73 rfl ?_
              refine r_iload dX8_isStand_74 rfl ?_
              obtain ⟨v26, hv, hf⟩ := bnd hf
              refine r_callV (lv := 1) dX8_isStand_76 yo_X8_rowAt yi_X8_rowAt ml_X8_148 ya_X8_rowAt sh_66 ⟨_, rfl, rfl⟩ (Fits.vm (by decide)) rfl rfl (Nat.le_of_ble_eq_true rfl) (S_X8_rowAt x1_ s20.2 s1.2.2  _ hv) ?_
              refine r_iload dX8_isStand_79 rfl ?_
              refine r_icmp_eq 88 dX8_isStand_81 (by decide) hf (fun c27 hf => ?_) (fun c27 hf => ?_)
              · refine r_iconst (v := 0) dX8_isStand_88 (by decide) ?_
                cases hf; exact key25
              · refine r_iconst (v := 1) dX8_isStand_84 (by decide) ?_
                refine r_goto 89 dX8_isStand_85 (by decide) ?_
                cases hf; exact key25
      · refine r_if_eq 57 dX8_isStand_40 (by decide) hf (fun c19 hf => ?_) (fun c19 hf => ?_)
        · refine r_iconst (v := 0) dX8_isStand_57 (by decide) ?_
          cases hf; exact key16
        · refine r_aload_n dX8_isStand_43 rfl ?_
          refine r_getS (b := 73) dX8_isStand_44 sh_66 ft_X8_29 rfl rfl ?_
          refine r_iload dX8_isStand_47 rfl ?_
          refine r_iald dX8_isStand_49 sh_73 hf fun v17 hf => ?_
          refine r_if_ne 57 dX8_isStand_50 (by decide) hf (fun c18 hf => ?_) (fun c18 hf => ?_)
          · refine r_iconst (v := 0) dX8_isStand_57 (by decide) ?_
            cases hf; exact key16
          · refine r_iconst (v := 1) dX8_isStand_53 (by decide) ?_
            refine r_goto 58 dX8_isStand_54 (by decide) ?_
            cases hf; exact key16
    · refine r_if_eq 37 dX8_isStand_21 (by decide) hf (fun c14 hf => ?_) (fun c14 hf => ?_)
      · refine r_iconst (v := 0) dX8_isStand_37 (by decide) ?_
        cases hf; exact key11
      · refine r_aload_n dX8_isStand_24 rfl ?_
        refine r_iload dX8_isStand_25 rfl ?_
        obtain ⟨v12, hv, hf⟩ := bnd hf
        refine r_callV (lv := 2) dX8_isStand_27 yo_X8_isCell yi_X8_isCell ml_X8_323 ya_X8_isCell sh_66 ⟨_, rfl, rfl⟩ (Fits.vm (by decide)) rfl rfl (Nat.le_of_ble_eq_true rfl) (S_X8_isCell v9 s1.2.2  _ hv) ?_
        refine r_if_eq 37 dX8_isStand_30 (by decide) hf (fun c13 hf => ?_) (fun c13 hf => ?_)
        · refine r_iconst (v := 0) dX8_isStand_37 (by decide) ?_
          cases hf; exact key11
        · refine r_iconst (v := 1) dX8_isStand_33 (by decide) ?_
          refine r_goto 38 dX8_isStand_34 (by decide) ?_
          cases hf; exact key11
