def f_X8_steps (F : Nat) (x1_ : Int32) (x2_ : Int32) (h : Hp) : Option (Int32 × Hp) :=
  (ldI h 82 x1_).bind fun v1 =>
  (f_X8_mayGo x1_ x2_ h).bind fun v2 =>
  (Option.bind (α := Int32) (
    (if v2 = 0 then (
      some (-9 : Int32))
    else (
      (f_X8_nextCell v1 x2_ h).bind fun v5 =>
      some v5))) fun t3 =>
  (if t3 = (-9 : Int32) then (
    (ckZ (0 : Int32)).bind fun z => some (z, h))
  else (
    (ldI h 73 t3).bind fun v7 =>
    (if v7 = (1 : Int32) then (
      (ckZ (0 : Int32)).bind fun z => some (z, h))
    else (
      (f_X8_whoOn F t3 h).bind fun v8 =>
      (if v8 = (-9 : Int32) then (
        (f_X8_isWet t3 h).bind fun v9 =>
        (if v9 = 0 then (
          (stI h 82 x1_ t3).bind fun h10 =>
          nm (sI h10 66 31 (-9 : Int32)) fun h11 =>
          (ldI h11 74 x1_).bind fun v12 =>
          (Option.bind (α := Hp) (
            (if v12 = (1 : Int32) then (
              (f_X8_findTaken F x1_ h11).bind fun h15 =>
              some h15)
            else (
              some h11))) fun t13 =>
          (Option.bind (α := Int32) (
            (if (gI t13 66 31) < 0 then (
              some (-9 : Int32))
            else (
              (ldI t13 82 (gI t13 66 31)).bind fun v19 =>
              some v19))) fun t17 =>
          (Option.bind (α := Int32) (
            (if (gI t13 66 31) < (-9 : Int32) then (
              some (0 : Int32))
            else (
              (if (gI t13 66 31) = (-9 : Int32) then (
                some (1 : Int32))
              else (
                (f_X8_isWet v1 t13).bind fun v23 =>
                (if v23 = 0 then (
                  some (1 : Int32))
                else (
                  some (0 : Int32)))))))) fun t21 =>
          (Option.bind (α := Hp) (
            (if t21 = 0 then (
              some t13)
            else (
              (if (gI t13 66 31) < 0 then (
                some t13)
              else (
                (stI t13 82 (gI t13 66 31) v1).bind fun h29 =>
                some h29))))) fun t27 =>
          jn (α := (Unit) → Option (Int32 × Hp)) (fun t32 =>
            (Option.bind (α := Hp) (
              (if t21 = 0 then (
                some t27)
              else (
                (if (gI t27 66 31) < 0 then (
                  some t27)
                else (
                  (stI t27 82 (gI t27 66 31) t17).bind fun h37 =>
                  some h37))))) fun t35 =>
            (stI t35 82 x1_ v1).bind fun h40 =>
            (ckZ (0 : Int32)).bind fun z => some (z, h40))) fun j33 =>
          (if t21 = 0 then (
            j33 ())
          else (
            (f_X8_allKept F t27).bind fun v41 =>
            (if v41 = 0 then (
              j33 ())
            else (
              (ckZ (1 : Int32)).bind fun z => some (z, t27))))))))))
        else (
          (ckZ (0 : Int32)).bind fun z => some (z, h))))
      else (
        (ckZ (0 : Int32)).bind fun z => some (z, h))))))))
set_option maxRecDepth 100000 in
set_option maxHeartbeats 4000000 in
theorem S_X8_steps (F : Nat) (x1_ : Int32) (x2_ : Int32) (h : Hp) (r : (Int32 × Hp)) (hf : f_X8_steps F x1_ x2_ h = some r) : MetP Y_X8_steps 6 [.ref 66, .int x1_, .int x2_] h (some (.int r.1), r.2) := by
  unfold f_X8_steps at hf
  refine met_of yo_X8_steps (Nat.le_of_ble_eq_true rfl) ?_
  show Run Y_X8_steps _ 0 [some (.ref 66), some (.int x1_), some (.int x2_), none, none, none, none] [] h
  refine r_aload_n dX8_steps_0 rfl ?_
  refine r_getS (b := 82) dX8_steps_1 sh_66 ft_X8_56 rfl rfl ?_
  refine r_iload_n dX8_steps_4 rfl ?_
  refine r_iald dX8_steps_5 sh_82 hf fun v1 hf => ?_
  refine r_istore_nA dX8_steps_6 (by decide) ?_
  refine r_aload_n dX8_steps_7 rfl ?_
  refine r_iload_n dX8_steps_8 rfl ?_
  refine r_iload_n dX8_steps_9 rfl ?_
  obtain ⟨v2, hv, hf⟩ := bnd hf
  refine r_callV (lv := 1) dX8_steps_10 yo_X8_mayGo yi_X8_mayGo ml_X8_261 ya_X8_mayGo sh_66 ⟨_, rfl, rfl⟩ (Fits.vm (by decide)) rfl rfl (Nat.le_of_ble_eq_true rfl) (S_X8_mayGo x1_ x2_ h  _ hv) ?_
  refine r_reg (P := fun t3 => Run Y_X8_steps (VM 6 (some (.int r.1), r.2)) 27 [some (.ref 66), some (.int x1_), some (.int x2_), some (.int v1), none, none, none] [.int t3] h) hf (fun t3 hf => ?_) (fun t3 key4 hf => ?_)
  · refine r_istoreA dX8_steps_27 (by decide) ?_
    refine r_iload dX8_steps_29 rfl ?_
    refine r_bipush (v := -9) dX8_steps_31 (by decide) ?_
    refine r_icmp_eq 67 dX8_steps_33 (by decide) hf (fun c47 hf => ?_) (fun c47 hf => ?_)
    · refine r_iconst (v := 0) dX8_steps_67 (by decide) ?_
      exact e_zH dX8_steps_68 rfl hf
    · refine r_aload_n dX8_steps_36 rfl ?_
      refine r_getS (b := 73) dX8_steps_37 sh_66 ft_X8_29 rfl rfl ?_
      refine r_iload dX8_steps_40 rfl ?_
      refine r_iald dX8_steps_42 sh_73 hf fun v7 hf => ?_
      refine r_iconst (v := 1) dX8_steps_43 (by decide) ?_
      refine r_icmp_eq 67 dX8_steps_44 (by decide) hf (fun c46 hf => ?_) (fun c46 hf => ?_)
      · refine r_iconst (v := 0) dX8_steps_67 (by decide) ?_
        exact e_zH dX8_steps_68 rfl hf
      · refine r_aload_n dX8_steps_47 rfl ?_
        refine r_iload dX8_steps_48 rfl ?_
        obtain ⟨v8, hv, hf⟩ := bnd hf
        refine r_callV (lv := 1) dX8_steps_50 yo_X8_whoOn yi_X8_whoOn ml_X8_268 ya_X8_whoOn sh_66 ⟨_, rfl, rfl⟩ (Fits.vm (by decide)) rfl rfl (Nat.le_of_ble_eq_true rfl) (S_X8_whoOn F t3 h  _ hv) ?_
        refine r_bipush (v := -9) dX8_steps_53 (by decide) ?_
        refine r_icmp_ne 67 dX8_steps_55 (by decide) hf (fun c45 hf => ?_) (fun c45 hf => ?_)
        · refine r_iconst (v := 0) dX8_steps_67 (by decide) ?_
          exact e_zH dX8_steps_68 rfl hf
        · refine r_aload_n dX8_steps_58 rfl ?_
          refine r_iload dX8_steps_59 rfl ?_
          obtain ⟨v9, hv, hf⟩ := bnd hf
          refine r_callV (lv := 1) dX8_steps_61 yo_X8_isWet yi_X8_isWet ml_X8_271 ya_X8_isWet sh_66 ⟨_, rfl, rfl⟩ (Fits.vm (by decide)) rfl rfl (Nat.le_of_ble_eq_true rfl) (S_X8_isWet t3 h  _ hv) ?_
          refine r_if_eq 69 dX8_steps_64 (by decide) hf (fun c44 hf => ?_) (fun c44 hf => ?_)
          · refine r_aload_n dX8_steps_69 rfl ?_
            refine r_getS (b := 82) dX8_steps_70 sh_66 ft_X8_56 rfl rfl ?_
            refine r_iload_n dX8_steps_73 rfl ?_
            refine r_iload dX8_steps_74 rfl ?_
            refine r_iast dX8_steps_76 sh_82 hf fun h10 hf => ?_
            refine r_aload_n dX8_steps_77 rfl ?_
            refine r_bipush (v := -9) dX8_steps_78 (by decide) ?_
            refine r_putI dX8_steps_80 sh_66 ft_X8_255 rfl hf fun h11 hf => ?_
            refine r_aload_n dX8_steps_83 rfl ?_
            refine r_getS (b := 74) dX8_steps_84 sh_66 ft_X8_32 rfl rfl ?_
            refine r_iload_n dX8_steps_87 rfl ?_
            refine r_iald dX8_steps_88 sh_74 hf fun v12 hf => ?_
            refine r_iconst (v := 1) dX8_steps_89 (by decide) ?_
            refine r_reg (P := fun t13 => Run Y_X8_steps (VM 6 (some (.int r.1), r.2)) 98 [some (.ref 66), some (.int x1_), some (.int x2_), some (.int v1), some (.int t3), none, none] [] t13) hf (fun t13 hf => ?_) (fun t13 key14 hf => ?_)
            · refine r_aload_n dX8_steps_98 rfl ?_
              refine r_getI dX8_steps_99 sh_66 ft_X8_255 rfl ?_
              refine r_reg (P := fun t17 => Run Y_X8_steps (VM 6 (some (.int r.1), r.2)) 119 [some (.ref 66), some (.int x1_), some (.int x2_), some (.int v1), some (.int t3), none, none] [.int t17] t13) hf (fun t17 hf => ?_) (fun t17 key18 hf => ?_)
              · refine r_istoreA dX8_steps_119 (by decide) ?_
                refine r_aload_n dX8_steps_121 rfl ?_
                refine r_getI dX8_steps_122 sh_66 ft_X8_255 rfl ?_
                refine r_bipush (v := -9) dX8_steps_125 (by decide) ?_
                refine r_reg (P := fun t21 => Run Y_X8_steps (VM 6 (some (.int r.1), r.2)) 152 [some (.ref 66), some (.int x1_), some (.int x2_), some (.int v1), some (.int t3), some (.int t17), none] [.int t21] t13) hf (fun t21 hf => ?_) (fun t21 key22 hf => ?_)
                · refine r_istoreA dX8_steps_152 (by decide) ?_
                  refine r_iload dX8_steps_154 rfl ?_
                  refine r_reg (P := fun t27 => Run Y_X8_steps (VM 6 (some (.int r.1), r.2)) 176 [some (.ref 66), some (.int x1_), some (.int x2_), some (.int v1), some (.int t3), some (.int t17), some (.int t21)] [] t27) hf (fun t27 hf => ?_) (fun t27 key28 hf => ?_)
                  · refine r_iload dX8_steps_176 rfl ?_
                    refine r_jn (P := fun t32 => Run Y_X8_steps (VM 6 (some (.int r.1), r.2)) 190 [some (.ref 66), some (.int x1_), some (.int x2_), some (.int v1), some (.int t3), some (.int t17), some (.int t21)] [] t27) hf (fun t32 hf => ?_) (fun j33 ih34 hf => ?_)
                    · refine r_iload dX8_steps_190 rfl ?_
                      refine r_reg (P := fun t35 => Run Y_X8_steps (VM 6 (some (.int r.1), r.2)) 213 [some (.ref 66), some (.int x1_), some (.int x2_), some (.int v1), some (.int t3), some (.int t17), some (.int t21)] [] t35) hf (fun t35 hf => ?_) (fun t35 key36 hf => ?_)
                      · refine r_aload_n dX8_steps_213 rfl ?_
                        refine r_getS (b := 82) dX8_steps_214 sh_66 ft_X8_56 rfl rfl ?_
                        refine r_iload_n dX8_steps_217 rfl ?_
                        refine r_iload_n dX8_steps_218 rfl ?_
                        refine r_iast dX8_steps_219 sh_82 hf fun h40 hf => ?_
                        refine r_iconst (v := 0) dX8_steps_220 (by decide) ?_
                        exact e_zH dX8_steps_221 rfl hf
                      · refine r_if_eq 213 dX8_steps_192 (by decide) hf (fun c39 hf => ?_) (fun c39 hf => ?_)
                        · cases hf; exact key36
                        · refine r_aload_n dX8_steps_195 rfl ?_
                          refine r_getI dX8_steps_196 sh_66 ft_X8_255 rfl ?_
                          refine r_if_lt 213 dX8_steps_199 (by decide) hf (fun c38 hf => ?_) (fun c38 hf => ?_)
                          · cases hf; exact key36
                          · refine r_aload_n dX8_steps_202 rfl ?_
                            refine r_getS (b := 82) dX8_steps_203 sh_66 ft_X8_56 rfl rfl ?_
                            refine r_aload_n dX8_steps_206 rfl ?_
                            refine r_getI dX8_steps_207 sh_66 ft_X8_255 rfl ?_
                            refine r_iload dX8_steps_210 rfl ?_
                            refine r_iast dX8_steps_212 sh_82 hf fun h37 hf => ?_
                            cases hf; exact key36
                    refine r_if_eq 190 dX8_steps_178 (by decide) hf (fun c43 hf => ?_) (fun c43 hf => ?_)
                    · exact ih34 _ hf
                    · refine r_aload_n dX8_steps_181 rfl ?_
                      obtain ⟨v41, hv, hf⟩ := bnd hf
                      refine r_callV (lv := 5) dX8_steps_182 yo_X8_allKept yi_X8_allKept ml_X8_278 ya_X8_allKept sh_66 ⟨_, rfl, rfl⟩ (Fits.vm (by decide)) rfl rfl (Nat.le_of_ble_eq_true rfl) (S_X8_allKept F t27  _ hv) ?_
                      refine r_if_eq 190 dX8_steps_185 (by decide) hf (fun c42 hf => ?_) (fun c42 hf => ?_)
                      · exact ih34 _ hf
                      · refine r_iconst (v := 1) dX8_steps_188 (by decide) ?_
                        exact e_zH dX8_steps_189 rfl hf
                  · refine r_if_eq 176 dX8_steps_156 (by decide) hf (fun c31 hf => ?_) (fun c31 hf => ?_)
                    · cases hf; exact key28
                    · refine r_aload_n dX8_steps_159 rfl ?_
                      refine r_getI dX8_steps_160 sh_66 ft_X8_255 rfl ?_
                      refine r_if_lt 176 dX8_steps_163 (by decide) hf (fun c30 hf => ?_) (fun c30 hf => ?_)
                      · cases hf; exact key28
                      · refine r_aload_n dX8_steps_166 rfl ?_
                        refine r_getS (b := 82) dX8_steps_167 sh_66 ft_X8_56 rfl rfl ?_
                        refine r_aload_n dX8_steps_170 rfl ?_
                        refine r_getI dX8_steps_171 sh_66 ft_X8_255 rfl ?_
                        refine r_iload_n dX8_steps_174 rfl ?_
                        refine r_iast dX8_steps_175 sh_82 hf fun h29 hf => ?_
                        cases hf; exact key28
                · refine r_icmp_lt 151 dX8_steps_127 (by decide) hf (fun c26 hf => ?_) (fun c26 hf => ?_)
                  · refine r_iconst (v := 0) dX8_steps_151 (by decide) ?_
                    cases hf; exact key22
                  · refine r_aload_n dX8_steps_130 rfl ?_
                    refine r_getI dX8_steps_131 sh_66 ft_X8_255 rfl ?_
                    refine r_bipush (v := -9) dX8_steps_134 (by decide) ?_
                    refine r_icmp_eq 147 dX8_steps_136 (by decide) hf (fun c25 hf => ?_) (fun c25 hf => ?_)
                    · refine r_iconst (v := 1) dX8_steps_147 (by decide) ?_
                      refine r_goto 152 dX8_steps_148 (by decide) ?_
                      cases hf; exact key22
                    · refine r_aload_n dX8_steps_139 rfl ?_
                      refine r_iload_n dX8_steps_140 rfl ?_
                      obtain ⟨v23, hv, hf⟩ := bnd hf
                      refine r_callV (lv := 1) dX8_steps_141 yo_X8_isWet yi_X8_isWet ml_X8_271 ya_X8_isWet sh_66 ⟨_, rfl, rfl⟩ (Fits.vm (by decide)) rfl rfl (Nat.le_of_ble_eq_true rfl) (S_X8_isWet v1 t13  _ hv) ?_
                      refine r_if_ne 151 dX8_steps_144 (by decide) hf (fun c24 hf => ?_) (fun c24 hf => ?_)
                      · refine r_iconst (v := 0) dX8_steps_151 (by decide) ?_
                        cases hf; exact key22
                      · refine r_iconst (v := 1) dX8_steps_147 (by decide) ?_
                        refine r_goto 152 dX8_steps_148 (by decide) ?_
                        cases hf; exact key22
              · refine r_if_lt 117 dX8_steps_102 (by decide) hf (fun c20 hf => ?_) (fun c20 hf => ?_)
                · refine r_bipush (v := -9) dX8_steps_117 (by decide) ?_
                  cases hf; exact key18
                · refine r_aload_n dX8_steps_105 rfl ?_
                  refine r_getS (b := 82) dX8_steps_106 sh_66 ft_X8_56 rfl rfl ?_
                  refine r_aload_n dX8_steps_109 rfl ?_
                  refine r_getI dX8_steps_110 sh_66 ft_X8_255 rfl ?_
                  refine r_iald dX8_steps_113 sh_82 hf fun v19 hf => ?_
                  refine r_goto 119 dX8_steps_114 (by decide) ?_
                  cases hf; exact key18
            · refine r_icmp_ne 98 dX8_steps_90 (by decide) hf (fun c16 hf => ?_) (fun c16 hf => ?_)
              · cases hf; exact key14
              · refine r_aload_n dX8_steps_93 rfl ?_
                refine r_iload_n dX8_steps_94 rfl ?_
                obtain ⟨h15, hv, hf⟩ := bnd hf
                refine r_callV (lv := 5) dX8_steps_95 yo_X8_findTaken yi_X8_findTaken ml_X8_274 ya_X8_findTaken sh_66 ⟨_, rfl, rfl⟩ (Fits.vm (by decide)) rfl rfl (Nat.le_of_ble_eq_true rfl) (S_X8_findTaken F x1_ h11  _ hv) ?_
                cases hf; exact key14
          · refine r_iconst (v := 0) dX8_steps_67 (by decide) ?_
            exact e_zH dX8_steps_68 rfl hf
  · refine r_if_eq 25 dX8_steps_13 (by decide) hf (fun c6 hf => ?_) (fun c6 hf => ?_)
    · refine r_bipush (v := -9) dX8_steps_25 (by decide) ?_
      cases hf; exact key4
    · refine r_aload_n dX8_steps_16 rfl ?_
      refine r_iload_n dX8_steps_17 rfl ?_
      refine r_iload_n dX8_steps_18 rfl ?_
      obtain ⟨v5, hv, hf⟩ := bnd hf
      refine r_callV (lv := 2) dX8_steps_19 yo_X8_nextCell yi_X8_nextCell ml_X8_265 ya_X8_nextCell sh_66 ⟨_, rfl, rfl⟩ (Fits.vm (by decide)) rfl rfl (Nat.le_of_ble_eq_true rfl) (S_X8_nextCell v1 x2_ h  _ hv) ?_
      refine r_goto 27 dX8_steps_22 (by decide) ?_
      cases hf; exact key4
def f_X8_steppedOf (F : Nat) (x1_ : Int32) (h : Hp) : Option Int32 :=
  fix (σ := Int32 × Int32) (ρ := Int32) (fun self2 s1 =>
    (if (gI h 66 32) ≤ s1.2 then (
      some s1.1)
    else (
      (ldI h 83 s1.2).bind fun v4 =>
      (Option.bind (α := Int32) (
        (if (v4 / (10 : Int32)) = x1_ then (
          some (1 : Int32))
        else (
          some (0 : Int32)))) fun t5 =>
      self2 ((s1.1 + t5), (s1.2 + 1)))))) F ((0 : Int32), (0 : Int32))
set_option maxRecDepth 100000 in
set_option maxHeartbeats 4000000 in
theorem S_X8_steppedOf (F : Nat) (x1_ : Int32) (h : Hp) (r : Int32) (hf : f_X8_steppedOf F x1_ h = some r) : MetP Y_X8_steppedOf 1 [.ref 66, .int x1_] h (some (.int r), h) := by
  unfold f_X8_steppedOf at hf
  refine met_of yo_X8_steppedOf (Nat.le_of_ble_eq_true rfl) ?_
  show Run Y_X8_steppedOf _ 0 [some (.ref 66), some (.int x1_), none, none] [] h
  refine r_iconst (v := 0) dX8_steppedOf_0 (by decide) ?_
  refine r_istore_nA dX8_steppedOf_1 (by decide) ?_
  refine r_iconst (v := 0) dX8_steppedOf_2 (by decide) ?_
  refine r_istore_nA dX8_steppedOf_3 (by decide) ?_
  refine r_fix (σ := Int32 × Int32) (fun s1 => [some (.ref 66), some (.int x1_), some (.int s1.1), some (.int s1.2)]) (fun s1 => h) (fun self2 ih3 s1 hf => ?_) F ((0 : Int32), (0 : Int32)) hf
  refine r_iload_n dX8_steppedOf_4 rfl ?_
  refine r_aload_n dX8_steppedOf_5 rfl ?_
  refine r_getI dX8_steppedOf_6 sh_66 ft_X8_233 rfl ?_
  refine r_icmp_ge 39 dX8_steppedOf_9 (by decide) hf (fun c8 hf => ?_) (fun c8 hf => ?_)
  · refine r_iload_n dX8_steppedOf_39 rfl ?_
    exact e_iP dX8_steppedOf_40 rfl hf
  · refine r_iload_n dX8_steppedOf_12 rfl ?_
    refine r_aload_n dX8_steppedOf_13 rfl ?_
    refine r_getS (b := 83) dX8_steppedOf_14 sh_66 ft_X8_59 rfl rfl ?_
    refine r_iload_n dX8_steppedOf_17 rfl ?_
    refine r_iald dX8_steppedOf_18 sh_83 hf fun v4 hf => ?_
    refine r_bipush (v := 10) dX8_steppedOf_19 (by decide) ?_
    refine r_idivK dX8_steppedOf_21 (by decide) ?_
    refine r_iload_n dX8_steppedOf_22 rfl ?_
    refine r_reg (P := fun t5 => Run Y_X8_steppedOf (VM 1 (some (.int r), h)) 31 [some (.ref 66), some (.int x1_), some (.int s1.1), some (.int s1.2)] [.int t5, .int s1.1] h) hf (fun t5 hf => ?_) (fun t5 key6 hf => ?_)
    · refine r_iadd dX8_steppedOf_31 ?_
      refine r_istore_nA dX8_steppedOf_32 (by decide) ?_
      refine r_iincA (v := 1) dX8_steppedOf_33 rfl (by decide) (by decide) ?_
      refine r_goto 4 dX8_steppedOf_36 (by decide) ?_
      exact ih3 _ hf
    · refine r_icmp_ne 30 dX8_steppedOf_23 (by decide) hf (fun c7 hf => ?_) (fun c7 hf => ?_)
      · refine r_iconst (v := 0) dX8_steppedOf_30 (by decide) ?_
        cases hf; exact key6
      · refine r_iconst (v := 1) dX8_steppedOf_26 (by decide) ?_
        refine r_goto 31 dX8_steppedOf_27 (by decide) ?_
        cases hf; exact key6
def f_X8_chainsOf (F : Nat) (x1_ : Int32) (h : Hp) : Option Int32 :=
  fix (σ := Int32 × Int32) (ρ := Int32) (fun self2 s1 =>
    (if (gI h 66 11) ≤ s1.2 then (
      some s1.1)
    else (
      (ldI h 77 s1.2).bind fun v4 =>
      (Option.bind (α := Int32) (
        (if v4 = 0 then (
          (if s1.2 = x1_ then (
            some (1 : Int32))
          else (
            (f_X8_otherEnd s1.2 h).bind fun v7 =>
            (if v7 = x1_ then (
              some (1 : Int32))
            else (
              some (0 : Int32))))))
        else (
          some (0 : Int32)))) fun t5 =>
      self2 ((s1.1 + t5), (s1.2 + 1)))))) F ((0 : Int32), (0 : Int32))
set_option maxRecDepth 100000 in
set_option maxHeartbeats 4000000 in
theorem S_X8_chainsOf (F : Nat) (x1_ : Int32) (h : Hp) (r : Int32) (hf : f_X8_chainsOf F x1_ h = some r) : MetP Y_X8_chainsOf 2 [.ref 66, .int x1_] h (some (.int r), h) := by
  unfold f_X8_chainsOf at hf
  refine met_of yo_X8_chainsOf (Nat.le_of_ble_eq_true rfl) ?_
  show Run Y_X8_chainsOf _ 0 [some (.ref 66), some (.int x1_), none, none] [] h
  refine r_iconst (v := 0) dX8_chainsOf_0 (by decide) ?_
  refine r_istore_nA dX8_chainsOf_1 (by decide) ?_
  refine r_iconst (v := 0) dX8_chainsOf_2 (by decide) ?_
  refine r_istore_nA dX8_chainsOf_3 (by decide) ?_
  refine r_fix (σ := Int32 × Int32) (fun s1 => [some (.ref 66), some (.int x1_), some (.int s1.1), some (.int s1.2)]) (fun s1 => h) (fun self2 ih3 s1 hf => ?_) F ((0 : Int32), (0 : Int32)) hf
  refine r_iload_n dX8_chainsOf_4 rfl ?_
  refine r_aload_n dX8_chainsOf_5 rfl ?_
  refine r_getI dX8_chainsOf_6 sh_66 ft_X8_227 rfl ?_
  refine r_icmp_ge 49 dX8_chainsOf_9 (by decide) hf (fun c11 hf => ?_) (fun c11 hf => ?_)
  · refine r_iload_n dX8_chainsOf_49 rfl ?_
    exact e_iP dX8_chainsOf_50 rfl hf
  · refine r_iload_n dX8_chainsOf_12 rfl ?_
    refine r_aload_n dX8_chainsOf_13 rfl ?_
    refine r_getS (b := 77) dX8_chainsOf_14 sh_66 ft_X8_41 rfl rfl ?_
    refine r_iload_n dX8_chainsOf_17 rfl ?_
    refine r_iald dX8_chainsOf_18 sh_77 hf fun v4 hf => ?_
    refine r_reg (P := fun t5 => Run Y_X8_chainsOf (VM 2 (some (.int r), h)) 41 [some (.ref 66), some (.int x1_), some (.int s1.1), some (.int s1.2)] [.int t5, .int s1.1] h) hf (fun t5 hf => ?_) (fun t5 key6 hf => ?_)
    · refine r_iadd dX8_chainsOf_41 ?_
      refine r_istore_nA dX8_chainsOf_42 (by decide) ?_
      refine r_iincA (v := 1) dX8_chainsOf_43 rfl (by decide) (by decide) ?_
      refine r_goto 4 dX8_chainsOf_46 (by decide) ?_
      exact ih3 _ hf
    · refine r_if_ne 40 dX8_chainsOf_19 (by decide) hf (fun c10 hf => ?_) (fun c10 hf => ?_)
      · refine r_iconst (v := 0) dX8_chainsOf_40 (by decide) ?_
        cases hf; exact key6
      · refine r_iload_n dX8_chainsOf_22 rfl ?_
        refine r_iload_n dX8_chainsOf_23 rfl ?_
        refine r_icmp_eq 36 dX8_chainsOf_24 (by decide) hf (fun c9 hf => ?_) (fun c9 hf => ?_)
        · refine r_iconst (v := 1) dX8_chainsOf_36 (by decide) ?_
          refine r_goto 41 dX8_chainsOf_37 (by decide) ?_
          cases hf; exact key6
        · refine r_aload_n dX8_chainsOf_27 rfl ?_
          refine r_iload_n dX8_chainsOf_28 rfl ?_
          obtain ⟨v7, hv, hf⟩ := bnd hf
          refine r_callV (lv := 1) dX8_chainsOf_29 yo_X8_otherEnd yi_X8_otherEnd ml_X8_243 ya_X8_otherEnd sh_66 ⟨_, rfl, rfl⟩ (Fits.vm (by decide)) rfl rfl (Nat.le_of_ble_eq_true rfl) (S_X8_otherEnd s1.2 h  _ hv) ?_
          refine r_iload_n dX8_chainsOf_32 rfl ?_
          refine r_icmp_ne 40 dX8_chainsOf_33 (by decide) hf (fun c8 hf => ?_) (fun c8 hf => ?_)
          · refine r_iconst (v := 0) dX8_chainsOf_40 (by decide) ?_
            cases hf; exact key6
          · refine r_iconst (v := 1) dX8_chainsOf_36 (by decide) ?_
            refine r_goto 41 dX8_chainsOf_37 (by decide) ?_
            cases hf; exact key6
def f_X8_manTells (F : Nat) (x1_ : Int32) (x2_ : Int32) (h : Hp) : Option Int32 :=
  (Option.bind (α := Int32) (
    (if x2_ = 0 then (
      (ldI h 74 x1_).bind fun v8 =>
      some v8)
    else (
      (if x2_ = (1 : Int32) then (
        (ldI h 75 x1_).bind fun v6 =>
        some v6)
      else (
        (if x2_ = (2 : Int32) then (
          (f_X8_chainsOf F x1_ h).bind fun v4 =>
          some v4)
        else (
          (f_X8_steppedOf F x1_ h).bind fun v3 =>
          some v3))))))) fun t1 =>
  some t1)
set_option maxRecDepth 100000 in
set_option maxHeartbeats 4000000 in
theorem S_X8_manTells (F : Nat) (x1_ : Int32) (x2_ : Int32) (h : Hp) (r : Int32) (hf : f_X8_manTells F x1_ x2_ h = some r) : MetP Y_X8_manTells 3 [.ref 66, .int x1_, .int x2_] h (some (.int r), h) := by
  unfold f_X8_manTells at hf
  refine met_of yo_X8_manTells (Nat.le_of_ble_eq_true rfl) ?_
  show Run Y_X8_manTells _ 0 [some (.ref 66), some (.int x1_), some (.int x2_)] [] h
  refine r_iload_n dX8_manTells_0 rfl ?_
  refine r_reg (P := fun t1 => Run Y_X8_manTells (VM 3 (some (.int r), h)) 45 [some (.ref 66), some (.int x1_), some (.int x2_)] [.int t1] h) hf (fun t1 hf => ?_) (fun t1 key2 hf => ?_)
  · exact e_iP dX8_manTells_45 rfl hf
  · refine r_if_ne 13 dX8_manTells_1 (by decide) hf (fun c9 hf => ?_) (fun c9 hf => ?_)
    · refine r_iload_n dX8_manTells_13 rfl ?_
      refine r_iconst (v := 1) dX8_manTells_14 (by decide) ?_
      refine r_icmp_ne 27 dX8_manTells_15 (by decide) hf (fun c7 hf => ?_) (fun c7 hf => ?_)
      · refine r_iload_n dX8_manTells_27 rfl ?_
        refine r_iconst (v := 2) dX8_manTells_28 (by decide) ?_
        refine r_icmp_ne 40 dX8_manTells_29 (by decide) hf (fun c5 hf => ?_) (fun c5 hf => ?_)
        · refine r_aload_n dX8_manTells_40 rfl ?_
          refine r_iload_n dX8_manTells_41 rfl ?_
          obtain ⟨v3, hv, hf⟩ := bnd hf
          refine r_callV (lv := 1) dX8_manTells_42 yo_X8_steppedOf yi_X8_steppedOf ml_X8_284 ya_X8_steppedOf sh_66 ⟨_, rfl, rfl⟩ (Fits.vm (by decide)) rfl rfl (Nat.le_of_ble_eq_true rfl) (S_X8_steppedOf F x1_ h  _ hv) ?_
          cases hf; exact key2
        · refine r_aload_n dX8_manTells_32 rfl ?_
          refine r_iload_n dX8_manTells_33 rfl ?_
          obtain ⟨v4, hv, hf⟩ := bnd hf
          refine r_callV (lv := 2) dX8_manTells_34 yo_X8_chainsOf yi_X8_chainsOf ml_X8_281 ya_X8_chainsOf sh_66 ⟨_, rfl, rfl⟩ (Fits.vm (by decide)) rfl rfl (Nat.le_of_ble_eq_true rfl) (S_X8_chainsOf F x1_ h  _ hv) ?_
          refine r_goto 45 dX8_manTells_37 (by decide) ?_
          cases hf; exact key2
      · refine r_aload_n dX8_manTells_18 rfl ?_
        refine r_getS (b := 75) dX8_manTells_19 sh_66 ft_X8_35 rfl rfl ?_
        refine r_iload_n dX8_manTells_22 rfl ?_
        refine r_iald dX8_manTells_23 sh_75 hf fun v6 hf => ?_
        refine r_goto 45 dX8_manTells_24 (by decide) ?_
        cases hf; exact key2
    · refine r_aload_n dX8_manTells_4 rfl ?_
      refine r_getS (b := 74) dX8_manTells_5 sh_66 ft_X8_32 rfl rfl ?_
      refine r_iload_n dX8_manTells_8 rfl ?_
      refine r_iald dX8_manTells_9 sh_74 hf fun v8 hf => ?_
      refine r_goto 45 dX8_manTells_10 (by decide) ?_
      cases hf; exact key2
def f_X8_man (F : Nat) (x1_ : Int32) (x2_ : Int32) (h : Hp) : Option (Int32 × Hp) :=
  (f_X8_isMan x1_ h).bind fun v1 =>
  (Option.bind (α := Int32 × Hp) (
    (if v1 = 0 then (
      some ((-1 : Int32), h))
    else (
      (f_X8_in x2_ (0 : Int32) (3 : Int32) h).bind fun v4 =>
      (if v4 = 0 then (
        some ((-1 : Int32), h))
      else (
        (f_X8_manTells F x1_ x2_ h).bind fun v5 =>
        (f_X8_tells v5 (1 : Int32) h).bind fun v6 =>
        some (v6.1, v6.2)))))) fun t2 =>
  some (t2.1, t2.2))
set_option maxRecDepth 100000 in
set_option maxHeartbeats 4000000 in
theorem S_X8_man (F : Nat) (x1_ : Int32) (x2_ : Int32) (h : Hp) (r : (Int32 × Hp)) (hf : f_X8_man F x1_ x2_ h = some r) : MetP Y_X8_man 4 [.ref 66, .int x1_, .int x2_] h (some (.int r.1), r.2) := by
  unfold f_X8_man at hf
  refine met_of yo_X8_man (Nat.le_of_ble_eq_true rfl) ?_
  show Run Y_X8_man _ 0 [some (.ref 66), some (.int x1_), some (.int x2_)] [] h
  refine r_aload_n dX8_man_0 rfl ?_
  refine r_iload_n dX8_man_1 rfl ?_
  obtain ⟨v1, hv, hf⟩ := bnd hf
  refine r_callV (lv := 2) dX8_man_2 yo_X8_isMan yi_X8_isMan ml_X8_287 ya_X8_isMan sh_66 ⟨_, rfl, rfl⟩ (Fits.vm (by decide)) rfl rfl (Nat.le_of_ble_eq_true rfl) (S_X8_isMan x1_ h  _ hv) ?_
  refine r_reg (P := fun t2 => Run Y_X8_man (VM 4 (some (.int r.1), r.2)) 32 [some (.ref 66), some (.int x1_), some (.int x2_)] [.int t2.1] t2.2) hf (fun t2 hf => ?_) (fun t2 key3 hf => ?_)
  · exact e_iH dX8_man_32 rfl hf
  · refine r_if_eq 31 dX8_man_5 (by decide) hf (fun c8 hf => ?_) (fun c8 hf => ?_)
    · refine r_iconst (v := -1) dX8_man_31 (by decide) ?_
      cases hf; exact key3
    · refine r_iload_n dX8_man_8 rfl ?_
      refine r_iconst (v := 0) dX8_man_9 (by decide) ?_
      refine r_iconst (v := 3) dX8_man_10 (by decide) ?_
      obtain ⟨v4, hv, hf⟩ := bnd hf
      refine r_callS (lv := 1) dX8_man_11 yo_X8_in ys_X8_in ml_X8_133 ya_X8_in (Fits.vm (by decide)) rfl rfl (Nat.le_of_ble_eq_true rfl) (S_X8_in x2_ (0 : Int32) (3 : Int32) h  _ hv) ?_
      refine r_if_eq 31 dX8_man_14 (by decide) hf (fun c7 hf => ?_) (fun c7 hf => ?_)
      · refine r_iconst (v := -1) dX8_man_31 (by decide) ?_
        cases hf; exact key3
      · refine r_aload_n dX8_man_17 rfl ?_
        refine r_aload_n dX8_man_18 rfl ?_
        refine r_iload_n dX8_man_19 rfl ?_
        refine r_iload_n dX8_man_20 rfl ?_
        obtain ⟨v5, hv, hf⟩ := bnd hf
        refine r_callV (lv := 3) dX8_man_21 yo_X8_manTells yi_X8_manTells ml_X8_290 ya_X8_manTells sh_66 ⟨_, rfl, rfl⟩ (Fits.vm (by decide)) rfl rfl (Nat.le_of_ble_eq_true rfl) (S_X8_manTells F x1_ x2_ h  _ hv) ?_
        refine r_iconst (v := 1) dX8_man_24 (by decide) ?_
        obtain ⟨v6, hv, hf⟩ := bnd hf
        refine r_callV (lv := 1) dX8_man_25 yo_X8_tells yi_X8_tells ml_X8_152 ya_X8_tells sh_66 ⟨_, rfl, rfl⟩ (Fits.vm (by decide)) rfl rfl (Nat.le_of_ble_eq_true rfl) (S_X8_tells v5 (1 : Int32) h  _ hv) ?_
        refine r_goto 32 dX8_man_28 (by decide) ?_
        cases hf; exact key3
def f_X8_chainTells (F : Nat) (x1_ : Int32) (x2_ : Int32) (h : Hp) : Option (Int32 × Hp) :=
  (f_X8_lookAtNow F h).bind fun h1 =>
  (Option.bind (α := Int32) (
    (if x2_ = 0 then (
      (ldI h1 76 x1_).bind fun v9 =>
      some v9)
    else (
      (if x2_ = (1 : Int32) then (
        (f_X8_reachOf x1_ h1).bind fun v7 =>
        some v7)
      else (
        (if x2_ = (2 : Int32) then (
          (f_X8_farOf x1_ h1).bind fun v5 =>
          some v5)
        else (
          (ldI h1 77 x1_).bind fun v4 =>
          some v4))))))) fun t2 =>
  some (t2, h1))
set_option maxRecDepth 100000 in
set_option maxHeartbeats 4000000 in
theorem S_X8_chainTells (F : Nat) (x1_ : Int32) (x2_ : Int32) (h : Hp) (r : (Int32 × Hp)) (hf : f_X8_chainTells F x1_ x2_ h = some r) : MetP Y_X8_chainTells 4 [.ref 66, .int x1_, .int x2_] h (some (.int r.1), r.2) := by
  unfold f_X8_chainTells at hf
  refine met_of yo_X8_chainTells (Nat.le_of_ble_eq_true rfl) ?_
  show Run Y_X8_chainTells _ 0 [some (.ref 66), some (.int x1_), some (.int x2_)] [] h
  refine r_aload_n dX8_chainTells_0 rfl ?_
  obtain ⟨h1, hv, hf⟩ := bnd hf
  refine r_callV (lv := 1) dX8_chainTells_1 yo_X8_lookAtNow yi_X8_lookAtNow ml_X8_293 ya_X8_lookAtNow sh_66 ⟨_, rfl, rfl⟩ (Fits.vm (by decide)) rfl rfl (Nat.le_of_ble_eq_true rfl) (S_X8_lookAtNow F h  _ hv) ?_
  refine r_iload_n dX8_chainTells_4 rfl ?_
  refine r_reg (P := fun t2 => Run Y_X8_chainTells (VM 4 (some (.int r.1), r.2)) 49 [some (.ref 66), some (.int x1_), some (.int x2_)] [.int t2] h1) hf (fun t2 hf => ?_) (fun t2 key3 hf => ?_)
  · exact e_iH dX8_chainTells_49 rfl hf
  · refine r_if_ne 17 dX8_chainTells_5 (by decide) hf (fun c10 hf => ?_) (fun c10 hf => ?_)
    · refine r_iload_n dX8_chainTells_17 rfl ?_
      refine r_iconst (v := 1) dX8_chainTells_18 (by decide) ?_
      refine r_icmp_ne 30 dX8_chainTells_19 (by decide) hf (fun c8 hf => ?_) (fun c8 hf => ?_)
      · refine r_iload_n dX8_chainTells_30 rfl ?_
        refine r_iconst (v := 2) dX8_chainTells_31 (by decide) ?_
        refine r_icmp_ne 43 dX8_chainTells_32 (by decide) hf (fun c6 hf => ?_) (fun c6 hf => ?_)
        · refine r_aload_n dX8_chainTells_43 rfl ?_
          refine r_getS (b := 77) dX8_chainTells_44 sh_66 ft_X8_41 rfl rfl ?_
          refine r_iload_n dX8_chainTells_47 rfl ?_
          refine r_iald dX8_chainTells_48 sh_77 hf fun v4 hf => ?_
          cases hf; exact key3
        · refine r_aload_n dX8_chainTells_35 rfl ?_
          refine r_iload_n dX8_chainTells_36 rfl ?_
          obtain ⟨v5, hv, hf⟩ := bnd hf
          refine r_callV (lv := 3) dX8_chainTells_37 yo_X8_farOf yi_X8_farOf ml_X8_246 ya_X8_farOf sh_66 ⟨_, rfl, rfl⟩ (Fits.vm (by decide)) rfl rfl (Nat.le_of_ble_eq_true rfl) (S_X8_farOf x1_ h1  _ hv) ?_
          refine r_goto 49 dX8_chainTells_40 (by decide) ?_
          cases hf; exact key3
      · refine r_aload_n dX8_chainTells_22 rfl ?_
        refine r_iload_n dX8_chainTells_23 rfl ?_
        obtain ⟨v7, hv, hf⟩ := bnd hf
        refine r_callV (lv := 3) dX8_chainTells_24 yo_X8_reachOf yi_X8_reachOf ml_X8_249 ya_X8_reachOf sh_66 ⟨_, rfl, rfl⟩ (Fits.vm (by decide)) rfl rfl (Nat.le_of_ble_eq_true rfl) (S_X8_reachOf x1_ h1  _ hv) ?_
        refine r_goto 49 dX8_chainTells_27 (by decide) ?_
        cases hf; exact key3
    · refine r_aload_n dX8_chainTells_8 rfl ?_
      refine r_getS (b := 76) dX8_chainTells_9 sh_66 ft_X8_38 rfl rfl ?_
      refine r_iload_n dX8_chainTells_12 rfl ?_
      refine r_iald dX8_chainTells_13 sh_76 hf fun v9 hf => ?_
      refine r_goto 49 dX8_chainTells_14 (by decide) ?_
      cases hf; exact key3
def f_X8_chain (F : Nat) (x1_ : Int32) (x2_ : Int32) (h : Hp) : Option (Int32 × Hp) :=
  (f_X8_isChain x1_ h).bind fun v1 =>
  (Option.bind (α := Int32 × Hp) (
    (if v1 = 0 then (
      some ((-1 : Int32), h))
    else (
      (f_X8_in x2_ (0 : Int32) (3 : Int32) h).bind fun v4 =>
      (if v4 = 0 then (
        some ((-1 : Int32), h))
      else (
        (f_X8_chainTells F x1_ x2_ h).bind fun v5 =>
        (f_X8_tells v5.1 (1 : Int32) v5.2).bind fun v6 =>
        some (v6.1, v6.2)))))) fun t2 =>
  some (t2.1, t2.2))
set_option maxRecDepth 100000 in
set_option maxHeartbeats 4000000 in
theorem S_X8_chain (F : Nat) (x1_ : Int32) (x2_ : Int32) (h : Hp) (r : (Int32 × Hp)) (hf : f_X8_chain F x1_ x2_ h = some r) : MetP Y_X8_chain 5 [.ref 66, .int x1_, .int x2_] h (some (.int r.1), r.2) := by
  unfold f_X8_chain at hf
  refine met_of yo_X8_chain (Nat.le_of_ble_eq_true rfl) ?_
  show Run Y_X8_chain _ 0 [some (.ref 66), some (.int x1_), some (.int x2_)] [] h
  refine r_aload_n dX8_chain_0 rfl ?_
  refine r_iload_n dX8_chain_1 rfl ?_
  obtain ⟨v1, hv, hf⟩ := bnd hf
  refine r_callV (lv := 2) dX8_chain_2 yo_X8_isChain yi_X8_isChain ml_X8_296 ya_X8_isChain sh_66 ⟨_, rfl, rfl⟩ (Fits.vm (by decide)) rfl rfl (Nat.le_of_ble_eq_true rfl) (S_X8_isChain x1_ h  _ hv) ?_
  refine r_reg (P := fun t2 => Run Y_X8_chain (VM 5 (some (.int r.1), r.2)) 32 [some (.ref 66), some (.int x1_), some (.int x2_)] [.int t2.1] t2.2) hf (fun t2 hf => ?_) (fun t2 key3 hf => ?_)
  · exact e_iH dX8_chain_32 rfl hf
  · refine r_if_eq 31 dX8_chain_5 (by decide) hf (fun c8 hf => ?_) (fun c8 hf => ?_)
    · refine r_iconst (v := -1) dX8_chain_31 (by decide) ?_
      cases hf; exact key3
    · refine r_iload_n dX8_chain_8 rfl ?_
      refine r_iconst (v := 0) dX8_chain_9 (by decide) ?_
      refine r_iconst (v := 3) dX8_chain_10 (by decide) ?_
      obtain ⟨v4, hv, hf⟩ := bnd hf
      refine r_callS (lv := 1) dX8_chain_11 yo_X8_in ys_X8_in ml_X8_133 ya_X8_in (Fits.vm (by decide)) rfl rfl (Nat.le_of_ble_eq_true rfl) (S_X8_in x2_ (0 : Int32) (3 : Int32) h  _ hv) ?_
      refine r_if_eq 31 dX8_chain_14 (by decide) hf (fun c7 hf => ?_) (fun c7 hf => ?_)
      · refine r_iconst (v := -1) dX8_chain_31 (by decide) ?_
        cases hf; exact key3
      · refine r_aload_n dX8_chain_17 rfl ?_
        refine r_aload_n dX8_chain_18 rfl ?_
        refine r_iload_n dX8_chain_19 rfl ?_
        refine r_iload_n dX8_chain_20 rfl ?_
        obtain ⟨v5, hv, hf⟩ := bnd hf
        refine r_callV (lv := 4) dX8_chain_21 yo_X8_chainTells yi_X8_chainTells ml_X8_299 ya_X8_chainTells sh_66 ⟨_, rfl, rfl⟩ (Fits.vm (by decide)) rfl rfl (Nat.le_of_ble_eq_true rfl) (S_X8_chainTells F x1_ x2_ h  _ hv) ?_
        refine r_iconst (v := 1) dX8_chain_24 (by decide) ?_
        obtain ⟨v6, hv, hf⟩ := bnd hf
        refine r_callV (lv := 1) dX8_chain_25 yo_X8_tells yi_X8_tells ml_X8_152 ya_X8_tells sh_66 ⟨_, rfl, rfl⟩ (Fits.vm (by decide)) rfl rfl (Nat.le_of_ble_eq_true rfl) (S_X8_tells v5.1 (1 : Int32) v5.2  _ hv) ?_
        refine r_goto 32 dX8_chain_28 (by decide) ?_
        cases hf; exact key3
def f_X8_chainedTo (F : Nat) (x1_ : Int32) (x2_ : Int32) (h : Hp) : Option Int32 :=
  fix (σ := Int32 × Int32) (ρ := Int32) (fun self2 s1 =>
    (if (gI h 66 10) ≤ s1.2 then (
      some s1.1)
    else (
      fix (σ := Int32 × Int32) (ρ := Int32) (fun self5 s4 =>
        (if (gI h 66 11) ≤ s4.2 then (
          self2 (s4.1, (s1.2 + 1)))
        else (
          (ldI h 74 s1.2).bind fun v7 =>
          (Option.bind (α := Int32) (
            (if v7 = x2_ then (
              (f_X8_isChained s4.2 x1_ s1.2 h).bind fun v10 =>
              (if v10 = 0 then (
                some (0 : Int32))
              else (
                some (1 : Int32))))
            else (
              some (0 : Int32)))) fun t8 =>
          self5 ((s4.1 + t8), (s4.2 + 1)))))) F (s1.1, (0 : Int32))))) F ((0 : Int32), (0 : Int32))
set_option maxRecDepth 100000 in
set_option maxHeartbeats 4000000 in
theorem S_X8_chainedTo (F : Nat) (x1_ : Int32) (x2_ : Int32) (h : Hp) (r : Int32) (hf : f_X8_chainedTo F x1_ x2_ h = some r) : MetP Y_X8_chainedTo 3 [.ref 66, .int x1_, .int x2_] h (some (.int r), h) := by
  unfold f_X8_chainedTo at hf
  refine met_of yo_X8_chainedTo (Nat.le_of_ble_eq_true rfl) ?_
  show Run Y_X8_chainedTo _ 0 [some (.ref 66), some (.int x1_), some (.int x2_), none, none, none] [] h
  refine r_iconst (v := 0) dX8_chainedTo_0 (by decide) ?_
  refine r_istore_nA dX8_chainedTo_1 (by decide) ?_
  refine r_iconst (v := 0) dX8_chainedTo_2 (by decide) ?_
  refine r_istoreA dX8_chainedTo_3 (by decide) ?_
  refine r_fix (σ := Int32 × Int32) (fun s1 => [some (.ref 66), some (.int x1_), some (.int x2_), some (.int s1.1), some (.int s1.2), none]) (fun s1 => h) (fun self2 ih3 s1 hf => ?_) F ((0 : Int32), (0 : Int32)) hf
  refine r_iload dX8_chainedTo_5 rfl ?_
  refine r_aload_n dX8_chainedTo_7 rfl ?_
  refine r_getI dX8_chainedTo_8 sh_66 ft_X8_221 rfl ?_
  refine r_icmp_ge 69 dX8_chainedTo_11 (by decide) hf (fun c14 hf => ?_) (fun c14 hf => ?_)
  · refine r_iload_n dX8_chainedTo_69 rfl ?_
    exact e_iP dX8_chainedTo_70 rfl hf
  · refine r_iconst (v := 0) dX8_chainedTo_14 (by decide) ?_
    refine r_istoreA dX8_chainedTo_15 (by decide) ?_
    refine r_fix (σ := Int32 × Int32) (fun s4 => [some (.ref 66), some (.int x1_), some (.int x2_), some (.int s4.1), some (.int s1.2), some (.int s4.2)]) (fun s4 => h) (fun self5 ih6 s4 hf => ?_) F (s1.1, (0 : Int32)) hf
    refine r_iload dX8_chainedTo_17 rfl ?_
    refine r_aload_n dX8_chainedTo_19 rfl ?_
    refine r_getI dX8_chainedTo_20 sh_66 ft_X8_227 rfl ?_
    refine r_icmp_ge 63 dX8_chainedTo_23 (by decide) hf (fun c13 hf => ?_) (fun c13 hf => ?_)
    · refine r_iincA (v := 1) dX8_chainedTo_63 rfl (by decide) (by decide) ?_
      refine r_goto 5 dX8_chainedTo_66 (by decide) ?_
      refine r_lt (ll_s (ll_s (ll_s (ll_s (ll_s (ll_n ll_0)))))) ?_
      exact ih3 _ hf
    · refine r_iload_n dX8_chainedTo_26 rfl ?_
      refine r_aload_n dX8_chainedTo_27 rfl ?_
      refine r_getS (b := 74) dX8_chainedTo_28 sh_66 ft_X8_32 rfl rfl ?_
      refine r_iload dX8_chainedTo_31 rfl ?_
      refine r_iald dX8_chainedTo_33 sh_74 hf fun v7 hf => ?_
      refine r_iload_n dX8_chainedTo_34 rfl ?_
      refine r_reg (P := fun t8 => Run Y_X8_chainedTo (VM 3 (some (.int r), h)) 55 [some (.ref 66), some (.int x1_), some (.int x2_), some (.int s4.1), some (.int s1.2), some (.int s4.2)] [.int t8, .int s4.1] h) hf (fun t8 hf => ?_) (fun t8 key9 hf => ?_)
      · refine r_iadd dX8_chainedTo_55 ?_
        refine r_istore_nA dX8_chainedTo_56 (by decide) ?_
        refine r_iincA (v := 1) dX8_chainedTo_57 rfl (by decide) (by decide) ?_
        refine r_goto 17 dX8_chainedTo_60 (by decide) ?_
        exact ih6 _ hf
      · refine r_icmp_ne 54 dX8_chainedTo_35 (by decide) hf (fun c12 hf => ?_) (fun c12 hf => ?_)
        · refine r_iconst (v := 0) dX8_chainedTo_54 (by decide) ?_
          cases hf; exact key9
        · refine r_aload_n dX8_chainedTo_38 rfl ?_
          refine r_iload dX8_chainedTo_39 rfl ?_
          refine r_iload_n dX8_chainedTo_41 rfl ?_
          refine r_iload dX8_chainedTo_42 rfl ?_
          obtain ⟨v10, hv, hf⟩ := bnd hf
          refine r_callV (lv := 2) dX8_chainedTo_44 yo_X8_isChained yi_X8_isChained ml_X8_258 ya_X8_isChained sh_66 ⟨_, rfl, rfl⟩ (Fits.vm (by decide)) rfl rfl (Nat.le_of_ble_eq_true rfl) (S_X8_isChained s4.2 x1_ s1.2 h  _ hv) ?_
          refine r_if_eq 54 dX8_chainedTo_47 (by decide) hf (fun c11 hf => ?_) (fun c11 hf => ?_)
          · refine r_iconst (v := 0) dX8_chainedTo_54 (by decide) ?_
            cases hf; exact key9
          · refine r_iconst (v := 1) dX8_chainedTo_50 (by decide) ?_
            refine r_goto 55 dX8_chainedTo_51 (by decide) ?_
            cases hf; exact key9
def f_X8_farFrom (F : Nat) (x1_ : Int32) (h : Hp) : Option Int32 :=
  fix (σ := Int32 × Int32) (ρ := Int32) (fun self2 s1 =>
    (if (gI h 66 10) ≤ s1.2 then (
      some s1.1)
    else (
      (ldI h 75 x1_).bind fun v4 =>
      (ldI h 75 s1.2).bind fun v5 =>
      (f_X8_farIn v4 v5 (gI h 66 9) h).bind fun v6 =>
      (Option.bind (α := Int32) (
        (if v6 ≤ (2 : Int32) then (
          some (0 : Int32))
        else (
          some (1 : Int32)))) fun t7 =>
      self2 ((s1.1 + t7), (s1.2 + 1)))))) F ((0 : Int32), (0 : Int32))
set_option maxRecDepth 100000 in
set_option maxHeartbeats 4000000 in
theorem S_X8_farFrom (F : Nat) (x1_ : Int32) (h : Hp) (r : Int32) (hf : f_X8_farFrom F x1_ h = some r) : MetP Y_X8_farFrom 3 [.ref 66, .int x1_] h (some (.int r), h) := by
  unfold f_X8_farFrom at hf
  refine met_of yo_X8_farFrom (Nat.le_of_ble_eq_true rfl) ?_
  show Run Y_X8_farFrom _ 0 [some (.ref 66), some (.int x1_), none, none] [] h
  refine r_iconst (v := 0) dX8_farFrom_0 (by decide) ?_
  refine r_istore_nA dX8_farFrom_1 (by decide) ?_
  refine r_iconst (v := 0) dX8_farFrom_2 (by decide) ?_
  refine r_istore_nA dX8_farFrom_3 (by decide) ?_
  refine r_fix (σ := Int32 × Int32) (fun s1 => [some (.ref 66), some (.int x1_), some (.int s1.1), some (.int s1.2)]) (fun s1 => h) (fun self2 ih3 s1 hf => ?_) F ((0 : Int32), (0 : Int32)) hf
  refine r_iload_n dX8_farFrom_4 rfl ?_
  refine r_aload_n dX8_farFrom_5 rfl ?_
  refine r_getI dX8_farFrom_6 sh_66 ft_X8_221 rfl ?_
  refine r_icmp_ge 49 dX8_farFrom_9 (by decide) hf (fun c10 hf => ?_) (fun c10 hf => ?_)
  · refine r_iload_n dX8_farFrom_49 rfl ?_
    exact e_iP dX8_farFrom_50 rfl hf
  · refine r_iload_n dX8_farFrom_12 rfl ?_
    refine r_aload_n dX8_farFrom_13 rfl ?_
    refine r_getS (b := 75) dX8_farFrom_14 sh_66 ft_X8_35 rfl rfl ?_
    refine r_iload_n dX8_farFrom_17 rfl ?_
    refine r_iald dX8_farFrom_18 sh_75 hf fun v4 hf => ?_
    refine r_aload_n dX8_farFrom_19 rfl ?_
    refine r_getS (b := 75) dX8_farFrom_20 sh_66 ft_X8_35 rfl rfl ?_
    refine r_iload_n dX8_farFrom_23 rfl ?_
    refine r_iald dX8_farFrom_24 sh_75 hf fun v5 hf => ?_
    refine r_aload_n dX8_farFrom_25 rfl ?_
    refine r_getI dX8_farFrom_26 sh_66 ft_X8_218 rfl ?_
    obtain ⟨v6, hv, hf⟩ := bnd hf
    refine r_callS (lv := 2) dX8_farFrom_29 yo_X8_farIn ys_X8_farIn ml_X8_199 ya_X8_farIn (Fits.vm (by decide)) rfl rfl (Nat.le_of_ble_eq_true rfl) (S_X8_farIn v4 v5 (gI h 66 9) h  _ hv) ?_
    refine r_iconst (v := 2) dX8_farFrom_32 (by decide) ?_
    refine r_reg (P := fun t7 => Run Y_X8_farFrom (VM 3 (some (.int r), h)) 41 [some (.ref 66), some (.int x1_), some (.int s1.1), some (.int s1.2)] [.int t7, .int s1.1] h) hf (fun t7 hf => ?_) (fun t7 key8 hf => ?_)
    · refine r_iadd dX8_farFrom_41 ?_
      refine r_istore_nA dX8_farFrom_42 (by decide) ?_
      refine r_iincA (v := 1) dX8_farFrom_43 rfl (by decide) (by decide) ?_
      refine r_goto 4 dX8_farFrom_46 (by decide) ?_
      exact ih3 _ hf
    · refine r_icmp_le 40 dX8_farFrom_33 (by decide) hf (fun c9 hf => ?_) (fun c9 hf => ?_)
      · refine r_iconst (v := 0) dX8_farFrom_40 (by decide) ?_
        cases hf; exact key8
      · refine r_iconst (v := 1) dX8_farFrom_36 (by decide) ?_
        refine r_goto 41 dX8_farFrom_37 (by decide) ?_
        cases hf; exact key8
def f_X8_leastReach (F : Nat) (x1_ : Int32) (h : Hp) : Option Int32 :=
  fix (σ := Int32 × Int32) (ρ := Int32) (fun self2 s1 =>
    (if (gI h 66 11) ≤ s1.2 then (
      some s1.1)
    else (
      (Option.bind (α := Int32) (
        (if s1.2 = x1_ then (
          some (1 : Int32))
        else (
          (f_X8_otherEnd s1.2 h).bind fun v6 =>
          (if v6 = x1_ then (
            some (1 : Int32))
          else (
            some (0 : Int32)))))) fun t4 =>
      (Option.bind (α := Int32) (
        (if t4 = 0 then (
          some s1.1)
        else (
          jn (α := (Unit) → Option (Int32)) (fun t11 =>
            (f_X8_reachOf s1.2 h).bind fun v14 =>
            some v14) fun j12 =>
          (if s1.1 = (-9 : Int32) then (
            j12 ())
          else (
            (f_X8_reachOf s1.2 h).bind fun v15 =>
            (if s1.1 ≤ v15 then (
              some s1.1)
            else (
              j12 ()))))))) fun t9 =>
      self2 (t9, (s1.2 + 1))))))) F ((-9 : Int32), (0 : Int32))
set_option maxRecDepth 100000 in
set_option maxHeartbeats 4000000 in
theorem S_X8_leastReach (F : Nat) (x1_ : Int32) (h : Hp) (r : Int32) (hf : f_X8_leastReach F x1_ h = some r) : MetP Y_X8_leastReach 4 [.ref 66, .int x1_] h (some (.int r), h) := by
  unfold f_X8_leastReach at hf
  refine met_of yo_X8_leastReach (Nat.le_of_ble_eq_true rfl) ?_
  show Run Y_X8_leastReach _ 0 [some (.ref 66), some (.int x1_), none, none, none] [] h
  refine r_bipush (v := -9) dX8_leastReach_0 (by decide) ?_
  refine r_istore_nA dX8_leastReach_2 (by decide) ?_
  refine r_iconst (v := 0) dX8_leastReach_3 (by decide) ?_
  refine r_istore_nA dX8_leastReach_4 (by decide) ?_
  refine r_fix (σ := Int32 × Int32) (fun s1 => [some (.ref 66), some (.int x1_), some (.int s1.1), some (.int s1.2), none]) (fun s1 => h) (fun self2 ih3 s1 hf => ?_) F ((-9 : Int32), (0 : Int32)) hf
  refine r_iload_n dX8_leastReach_5 rfl ?_
  refine r_aload_n dX8_leastReach_6 rfl ?_
  refine r_getI dX8_leastReach_7 sh_66 ft_X8_227 rfl ?_
  refine r_icmp_ge 70 dX8_leastReach_10 (by decide) hf (fun c19 hf => ?_) (fun c19 hf => ?_)
  · refine r_iload_n dX8_leastReach_70 rfl ?_
    exact e_iP dX8_leastReach_71 rfl hf
  · refine r_iload_n dX8_leastReach_13 rfl ?_
    refine r_iload_n dX8_leastReach_14 rfl ?_
    refine r_reg (P := fun t4 => Run Y_X8_leastReach (VM 4 (some (.int r), h)) 32 [some (.ref 66), some (.int x1_), some (.int s1.1), some (.int s1.2), none] [.int t4] h) hf (fun t4 hf => ?_) (fun t4 key5 hf => ?_)
    · refine r_istoreA dX8_leastReach_32 (by decide) ?_
      refine r_iload dX8_leastReach_34 rfl ?_
      refine r_reg (P := fun t9 => Run Y_X8_leastReach (VM 4 (some (.int r), h)) 63 [some (.ref 66), some (.int x1_), some (.int s1.1), some (.int s1.2), some (.int t4)] [.int t9] h) hf (fun t9 hf => ?_) (fun t9 key10 hf => ?_)
      · refine r_istore_nA dX8_leastReach_63 (by decide) ?_
        refine r_iincA (v := 1) dX8_leastReach_64 rfl (by decide) (by decide) ?_
        refine r_goto 5 dX8_leastReach_67 (by decide) ?_
        refine r_lt (ll_s (ll_s (ll_s (ll_s (ll_n ll_0))))) ?_
        exact ih3 _ hf
      · refine r_if_eq 62 dX8_leastReach_36 (by decide) hf (fun c18 hf => ?_) (fun c18 hf => ?_)
        · refine r_iload_n dX8_leastReach_62 rfl ?_
          cases hf; exact key10
        · refine r_iload_n dX8_leastReach_39 rfl ?_
          refine r_bipush (v := -9) dX8_leastReach_40 (by decide) ?_
          refine r_jn (P := fun t11 => Run Y_X8_leastReach (VM 4 (some (.int r), h)) 54 [some (.ref 66), some (.int x1_), some (.int s1.1), some (.int s1.2), some (.int t4)] [] h) hf (fun t11 hf => ?_) (fun j12 ih13 hf => ?_)
          · refine r_aload_n dX8_leastReach_54 rfl ?_
            refine r_iload_n dX8_leastReach_55 rfl ?_
            obtain ⟨v14, hv, hf⟩ := bnd hf
            refine r_callV (lv := 3) dX8_leastReach_56 yo_X8_reachOf yi_X8_reachOf ml_X8_249 ya_X8_reachOf sh_66 ⟨_, rfl, rfl⟩ (Fits.vm (by decide)) rfl rfl (Nat.le_of_ble_eq_true rfl) (S_X8_reachOf s1.2 h  _ hv) ?_
            refine r_goto 63 dX8_leastReach_59 (by decide) ?_
            cases hf; exact key10
          refine r_icmp_eq 54 dX8_leastReach_42 (by decide) hf (fun c17 hf => ?_) (fun c17 hf => ?_)
          · exact ih13 _ hf
          · refine r_aload_n dX8_leastReach_45 rfl ?_
            refine r_iload_n dX8_leastReach_46 rfl ?_
            obtain ⟨v15, hv, hf⟩ := bnd hf
            refine r_callV (lv := 3) dX8_leastReach_47 yo_X8_reachOf yi_X8_reachOf ml_X8_249 ya_X8_reachOf sh_66 ⟨_, rfl, rfl⟩ (Fits.vm (by decide)) rfl rfl (Nat.le_of_ble_eq_true rfl) (S_X8_reachOf s1.2 h  _ hv) ?_
            refine r_iload_n dX8_leastReach_50 rfl ?_
            refine r_icmp_ge 62 dX8_leastReach_51 (by decide) hf (fun c16 hf => ?_) (fun c16 hf => ?_)
            · refine r_iload_n dX8_leastReach_62 rfl ?_
              cases hf; exact key10
            · exact ih13 _ hf
    · refine r_icmp_eq 27 dX8_leastReach_15 (by decide) hf (fun c8 hf => ?_) (fun c8 hf => ?_)
      · refine r_iconst (v := 1) dX8_leastReach_27 (by decide) ?_
        refine r_goto 32 dX8_leastReach_28 (by decide) ?_
        cases hf; exact key5
      · refine r_aload_n dX8_leastReach_18 rfl ?_
        refine r_iload_n dX8_leastReach_19 rfl ?_
        obtain ⟨v6, hv, hf⟩ := bnd hf
        refine r_callV (lv := 1) dX8_leastReach_20 yo_X8_otherEnd yi_X8_otherEnd ml_X8_243 ya_X8_otherEnd sh_66 ⟨_, rfl, rfl⟩ (Fits.vm (by decide)) rfl rfl (Nat.le_of_ble_eq_true rfl) (S_X8_otherEnd s1.2 h  _ hv) ?_
        refine r_iload_n dX8_leastReach_23 rfl ?_
        refine r_icmp_ne 31 dX8_leastReach_24 (by decide) hf (fun c7 hf => ?_) (fun c7 hf => ?_)
        · refine r_iconst (v := 0) dX8_leastReach_31 (by decide) ?_
          cases hf; exact key5
        · refine r_iconst (v := 1) dX8_leastReach_27 (by decide) ?_
          refine r_goto 32 dX8_leastReach_28 (by decide) ?_
          cases hf; exact key5
def f_X8_waysOf (F : Nat) (x1_ : Int32) (h : Hp) : Option (Int32 × Hp) :=
  fix (σ := Int32 × Int32 × Hp) (ρ := (Int32 × Hp)) (fun self2 s1 =>
    (if (4 : Int32) ≤ s1.2.1 then (
      some (s1.1, s1.2.2))
    else (
      (f_X8_lookAtNow F s1.2.2).bind fun h4 =>
      (f_X8_steps F x1_ s1.2.1 h4).bind fun v5 =>
      (Option.bind (α := Int32) (
        (if v5.1 = 0 then (
          some (0 : Int32))
        else (
          some ((1 : Int32) <<< (s1.2.1 &&& 31))))) fun t6 =>
      self2 ((s1.1 ||| t6), (s1.2.1 + 1), v5.2))))) F ((0 : Int32), (0 : Int32), h)
set_option maxRecDepth 100000 in
set_option maxHeartbeats 4000000 in
theorem S_X8_waysOf (F : Nat) (x1_ : Int32) (h : Hp) (r : (Int32 × Hp)) (hf : f_X8_waysOf F x1_ h = some r) : MetP Y_X8_waysOf 7 [.ref 66, .int x1_] h (some (.int r.1), r.2) := by
  unfold f_X8_waysOf at hf
  refine met_of yo_X8_waysOf (Nat.le_of_ble_eq_true rfl) ?_
  show Run Y_X8_waysOf _ 0 [some (.ref 66), some (.int x1_), none, none] [] h
  refine r_iconst (v := 0) dX8_waysOf_0 (by decide) ?_
  refine r_istore_nA dX8_waysOf_1 (by decide) ?_
  refine r_iconst (v := 0) dX8_waysOf_2 (by decide) ?_
  refine r_istore_nA dX8_waysOf_3 (by decide) ?_
  refine r_fix (σ := Int32 × Int32 × Hp) (fun s1 => [some (.ref 66), some (.int x1_), some (.int s1.1), some (.int s1.2.1)]) (fun s1 => s1.2.2) (fun self2 ih3 s1 hf => ?_) F ((0 : Int32), (0 : Int32), h) hf
  refine r_iload_n dX8_waysOf_4 rfl ?_
  refine r_iconst (v := 4) dX8_waysOf_5 (by decide) ?_
  refine r_icmp_ge 38 dX8_waysOf_6 (by decide) hf (fun c9 hf => ?_) (fun c9 hf => ?_)
  · refine r_iload_n dX8_waysOf_38 rfl ?_
    exact e_iH dX8_waysOf_39 rfl hf
  · refine r_aload_n dX8_waysOf_9 rfl ?_
    obtain ⟨h4, hv, hf⟩ := bnd hf
    refine r_callV (lv := 1) dX8_waysOf_10 yo_X8_lookAtNow yi_X8_lookAtNow ml_X8_293 ya_X8_lookAtNow sh_66 ⟨_, rfl, rfl⟩ (Fits.vm (by decide)) rfl rfl (Nat.le_of_ble_eq_true rfl) (S_X8_lookAtNow F s1.2.2  _ hv) ?_
    refine r_iload_n dX8_waysOf_13 rfl ?_
    refine r_aload_n dX8_waysOf_14 rfl ?_
    refine r_iload_n dX8_waysOf_15 rfl ?_
    refine r_iload_n dX8_waysOf_16 rfl ?_
    obtain ⟨v5, hv, hf⟩ := bnd hf
    refine r_callV (lv := 6) dX8_waysOf_17 yo_X8_steps yi_X8_steps ml_X8_317 ya_X8_steps sh_66 ⟨_, rfl, rfl⟩ (Fits.vm (by decide)) rfl rfl (Nat.le_of_ble_eq_true rfl) (S_X8_steps F x1_ s1.2.1 h4  _ hv) ?_
    refine r_reg (P := fun t6 => Run Y_X8_waysOf (VM 7 (some (.int r.1), r.2)) 30 [some (.ref 66), some (.int x1_), some (.int s1.1), some (.int s1.2.1)] [.int t6, .int s1.1] v5.2) hf (fun t6 hf => ?_) (fun t6 key7 hf => ?_)
    · refine r_ior dX8_waysOf_30 ?_
      refine r_istore_nA dX8_waysOf_31 (by decide) ?_
      refine r_iincA (v := 1) dX8_waysOf_32 rfl (by decide) (by decide) ?_
      refine r_goto 4 dX8_waysOf_35 (by decide) ?_
      exact ih3 _ hf
    · refine r_if_eq 29 dX8_waysOf_20 (by decide) hf (fun c8 hf => ?_) (fun c8 hf => ?_)
      · refine r_iconst (v := 0) dX8_waysOf_29 (by decide) ?_
        cases hf; exact key7
      · refine r_iconst (v := 1) dX8_waysOf_23 (by decide) ?_
        refine r_iload_n dX8_waysOf_24 rfl ?_
        refine r_ishl dX8_waysOf_25 ?_
        refine r_goto 30 dX8_waysOf_26 (by decide) ?_
        cases hf; exact key7
def f_X8_mark (F : Nat) (x1_ : Int32) (x2_ : Int32) (h : Hp) : Option (Int32 × Hp) :=
  (f_X8_isMan x1_ h).bind fun v1 =>
  (if v1 = 0 then (
    some ((-1 : Int32), h))
  else (
    (f_X8_in x2_ (1 : Int32) (5 : Int32) h).bind fun v2 =>
    (if v2 = 0 then (
      some ((-1 : Int32), h))
    else (
      (ldI h 74 x1_).bind fun v3 =>
      jn (α := (Unit) → Option (Int32 × Hp)) (fun t4 =>
        (if x2_ = 1 then (
          (f_X8_chainedTo F x1_ (2 : Int32) h).bind fun v8 =>
          some (v8, h))
        else
        (if x2_ = 2 then (
          (f_X8_chainedTo F x1_ (1 : Int32) h).bind fun v10 =>
          some (v10, h))
        else
        (if x2_ = 3 then (
          (f_X8_waysOf F x1_ h).bind fun v12 =>
          (f_X8_bits F v12.1 v12.2).bind fun v13 =>
          some (v13, v12.2))
        else
        (if x2_ = 4 then (
          (f_X8_farFrom F x1_ h).bind fun v15 =>
          some (v15, h))
        else
        (
          (f_X8_leastReach F x1_ h).bind fun v16 =>
          some (v16, h))))))) fun j5 =>
      (if v3 = x2_ then (
        j5 ())
      else (
        jn (α := (Unit) → Option (Int32 × Hp)) (fun t17 =>
          jn (α := (Unit) → Option (Int32 × Hp)) (fun t20 =>
            (f_X8_meets (3 : Int32) h).bind fun v23 =>
            some (v23.1, v23.2)) fun j21 =>
          (if x2_ = (3 : Int32) then (
            (if v3 = (5 : Int32) then (
              j5 ())
            else (
              j21 ())))
          else (
            j21 ()))) fun j18 =>
        (if x2_ = (2 : Int32) then (
          (if v3 = (4 : Int32) then (
            j5 ())
          else (
            j18 ())))
        else (
          j18 ()))))))))
set_option maxRecDepth 100000 in
set_option maxHeartbeats 4000000 in
theorem S_X8_mark (F : Nat) (x1_ : Int32) (x2_ : Int32) (h : Hp) (r : (Int32 × Hp)) (hf : f_X8_mark F x1_ x2_ h = some r) : MetP Y_X8_mark 8 [.ref 66, .int x1_, .int x2_] h (some (.int r.1), r.2) := by
  unfold f_X8_mark at hf
  refine met_of yo_X8_mark (Nat.le_of_ble_eq_true rfl) ?_
  show Run Y_X8_mark _ 0 [some (.ref 66), some (.int x1_), some (.int x2_), none] [] h
  refine r_aload_n dX8_mark_0 rfl ?_
  refine r_iload_n dX8_mark_1 rfl ?_
  obtain ⟨v1, hv, hf⟩ := bnd hf
  refine r_callV (lv := 2) dX8_mark_2 yo_X8_isMan yi_X8_isMan ml_X8_287 ya_X8_isMan sh_66 ⟨_, rfl, rfl⟩ (Fits.vm (by decide)) rfl rfl (Nat.le_of_ble_eq_true rfl) (S_X8_isMan x1_ h  _ hv) ?_
  refine r_if_eq 17 dX8_mark_5 (by decide) hf (fun c30 hf => ?_) (fun c30 hf => ?_)
  · refine r_iconst (v := -1) dX8_mark_17 (by decide) ?_
    exact e_iH dX8_mark_18 rfl hf
  · refine r_iload_n dX8_mark_8 rfl ?_
    refine r_iconst (v := 1) dX8_mark_9 (by decide) ?_
    refine r_iconst (v := 5) dX8_mark_10 (by decide) ?_
    obtain ⟨v2, hv, hf⟩ := bnd hf
    refine r_callS (lv := 1) dX8_mark_11 yo_X8_in ys_X8_in ml_X8_133 ya_X8_in (Fits.vm (by decide)) rfl rfl (Nat.le_of_ble_eq_true rfl) (S_X8_in x2_ (1 : Int32) (5 : Int32) h  _ hv) ?_
    refine r_if_ne 19 dX8_mark_14 (by decide) hf (fun c29 hf => ?_) (fun c29 hf => ?_)
    · refine r_aload_n dX8_mark_19 rfl ?_
      refine r_getS (b := 74) dX8_mark_20 sh_66 ft_X8_32 rfl rfl ?_
      refine r_iload_n dX8_mark_23 rfl ?_
      refine r_iald dX8_mark_24 sh_74 hf fun v3 hf => ?_
      refine r_istore_nA dX8_mark_25 (by decide) ?_
      refine r_iload_n dX8_mark_26 rfl ?_
      refine r_iload_n dX8_mark_27 rfl ?_
      refine r_jn (P := fun t4 => Run Y_X8_mark (VM 8 (some (.int r.1), r.2)) 57 [some (.ref 66), some (.int x1_), some (.int x2_), some (.int v3)] [] h) hf (fun t4 hf => ?_) (fun j5 ih6 hf => ?_)
      · refine r_iload_n dX8_mark_57 rfl ?_
        refine r_ite hf (fun c7 hf => ?_) (fun c7 hf => ?_)
        · refine r_tabIn 88 dX8_mark_58 (by rw [c7]; decide) (by rw [c7]; decide) (off := 30) (by rw [c7]; rfl) (by decide) ?_
          refine r_aload_n dX8_mark_88 rfl ?_
          refine r_iload_n dX8_mark_89 rfl ?_
          refine r_iconst (v := 2) dX8_mark_90 (by decide) ?_
          obtain ⟨v8, hv, hf⟩ := bnd hf
          refine r_callV (lv := 3) dX8_mark_91 yo_X8_chainedTo yi_X8_chainedTo ml_X8_302 ya_X8_chainedTo sh_66 ⟨_, rfl, rfl⟩ (Fits.vm (by decide)) rfl rfl (Nat.le_of_ble_eq_true rfl) (S_X8_chainedTo F x1_ (2 : Int32) h  _ hv) ?_
          exact e_iH dX8_mark_94 rfl hf
        refine r_ite hf (fun c9 hf => ?_) (fun c9 hf => ?_)
        · refine r_tabIn 95 dX8_mark_58 (by rw [c9]; decide) (by rw [c9]; decide) (off := 37) (by rw [c9]; rfl) (by decide) ?_
          refine r_aload_n dX8_mark_95 rfl ?_
          refine r_iload_n dX8_mark_96 rfl ?_
          refine r_iconst (v := 1) dX8_mark_97 (by decide) ?_
          obtain ⟨v10, hv, hf⟩ := bnd hf
          refine r_callV (lv := 3) dX8_mark_98 yo_X8_chainedTo yi_X8_chainedTo ml_X8_302 ya_X8_chainedTo sh_66 ⟨_, rfl, rfl⟩ (Fits.vm (by decide)) rfl rfl (Nat.le_of_ble_eq_true rfl) (S_X8_chainedTo F x1_ (1 : Int32) h  _ hv) ?_
          exact e_iH dX8_mark_101 rfl hf
        refine r_ite hf (fun c11 hf => ?_) (fun c11 hf => ?_)
        · refine r_tabIn 102 dX8_mark_58 (by rw [c11]; decide) (by rw [c11]; decide) (off := 44) (by rw [c11]; rfl) (by decide) ?_
          refine r_aload_n dX8_mark_102 rfl ?_
          refine r_iload_n dX8_mark_103 rfl ?_
          obtain ⟨v12, hv, hf⟩ := bnd hf
          refine r_callV (lv := 7) dX8_mark_104 yo_X8_waysOf yi_X8_waysOf ml_X8_305 ya_X8_waysOf sh_66 ⟨_, rfl, rfl⟩ (Fits.vm (by decide)) rfl rfl (Nat.le_of_ble_eq_true rfl) (S_X8_waysOf F x1_ h  _ hv) ?_
          obtain ⟨v13, hv, hf⟩ := bnd hf
          refine r_callS (lv := 1) dX8_mark_107 yo_X8_bits ys_X8_bits ml_X8_308 ya_X8_bits (Fits.vm (by decide)) rfl rfl (Nat.le_of_ble_eq_true rfl) (S_X8_bits F v12.1 v12.2  _ hv) ?_
          exact e_iH dX8_mark_110 rfl hf
        refine r_ite hf (fun c14 hf => ?_) (fun c14 hf => ?_)
        · refine r_tabIn 111 dX8_mark_58 (by rw [c14]; decide) (by rw [c14]; decide) (off := 53) (by rw [c14]; rfl) (by decide) ?_
          refine r_aload_n dX8_mark_111 rfl ?_
          refine r_iload_n dX8_mark_112 rfl ?_
          obtain ⟨v15, hv, hf⟩ := bnd hf
          refine r_callV (lv := 3) dX8_mark_113 yo_X8_farFrom yi_X8_farFrom ml_X8_311 ya_X8_farFrom sh_66 ⟨_, rfl, rfl⟩ (Fits.vm (by decide)) rfl rfl (Nat.le_of_ble_eq_true rfl) (S_X8_farFrom F x1_ h  _ hv) ?_
          exact e_iH dX8_mark_116 rfl hf
        refine r_tabDef 117 4 dX8_mark_58 (by decide) (fun i hi e => ?_) (by decide) ?_
        · have a0 : ¬ (x2_).toInt = 1 := fun q => c7 (Int32.toInt_inj.mp (by rw [q]; rfl))
          have a1 : ¬ (x2_).toInt = 2 := fun q => c9 (Int32.toInt_inj.mp (by rw [q]; rfl))
          have a2 : ¬ (x2_).toInt = 3 := fun q => c11 (Int32.toInt_inj.mp (by rw [q]; rfl))
          have a3 : ¬ (x2_).toInt = 4 := fun q => c14 (Int32.toInt_inj.mp (by rw [q]; rfl))
          exfalso; omega
        · refine r_aload_n dX8_mark_117 rfl ?_
          refine r_iload_n dX8_mark_118 rfl ?_
          obtain ⟨v16, hv, hf⟩ := bnd hf
          refine r_callV (lv := 4) dX8_mark_119 yo_X8_leastReach yi_X8_leastReach ml_X8_314 ya_X8_leastReach sh_66 ⟨_, rfl, rfl⟩ (Fits.vm (by decide)) rfl rfl (Nat.le_of_ble_eq_true rfl) (S_X8_leastReach F x1_ h  _ hv) ?_
          exact e_iH dX8_mark_122 rfl hf
      refine r_icmp_eq 57 dX8_mark_28 (by decide) hf (fun c28 hf => ?_) (fun c28 hf => ?_)
      · exact ih6 _ hf
      · refine r_iload_n dX8_mark_31 rfl ?_
        refine r_iconst (v := 2) dX8_mark_32 (by decide) ?_
        refine r_jn (P := fun t17 => Run Y_X8_mark (VM 8 (some (.int r.1), r.2)) 41 [some (.ref 66), some (.int x1_), some (.int x2_), some (.int v3)] [] h) hf (fun t17 hf => ?_) (fun j18 ih19 hf => ?_)
        · refine r_iload_n dX8_mark_41 rfl ?_
          refine r_iconst (v := 3) dX8_mark_42 (by decide) ?_
          refine r_jn (P := fun t20 => Run Y_X8_mark (VM 8 (some (.int r.1), r.2)) 51 [some (.ref 66), some (.int x1_), some (.int x2_), some (.int v3)] [] h) hf (fun t20 hf => ?_) (fun j21 ih22 hf => ?_)
          · refine r_aload_n dX8_mark_51 rfl ?_
            refine r_iconst (v := 3) dX8_mark_52 (by decide) ?_
            obtain ⟨v23, hv, hf⟩ := bnd hf
            refine r_callV (lv := 1) dX8_mark_53 yo_X8_meets yi_X8_meets ml_X8_144 ya_X8_meets sh_66 ⟨_, rfl, rfl⟩ (Fits.vm (by decide)) rfl rfl (Nat.le_of_ble_eq_true rfl) (S_X8_meets (3 : Int32) h  _ hv) ?_
            exact e_iH dX8_mark_56 rfl hf
          refine r_icmp_ne 51 dX8_mark_43 (by decide) hf (fun c25 hf => ?_) (fun c25 hf => ?_)
          · exact ih22 _ hf
          · refine r_iload_n dX8_mark_46 rfl ?_
            refine r_iconst (v := 5) dX8_mark_47 (by decide) ?_
            refine r_icmp_eq 57 dX8_mark_48 (by decide) hf (fun c24 hf => ?_) (fun c24 hf => ?_)
            · exact ih6 _ hf
            · exact ih22 _ hf
        refine r_icmp_ne 41 dX8_mark_33 (by decide) hf (fun c27 hf => ?_) (fun c27 hf => ?_)
        · exact ih19 _ hf
        · refine r_iload_n dX8_mark_36 rfl ?_
          refine r_iconst (v := 4) dX8_mark_37 (by decide) ?_
          refine r_icmp_eq 57 dX8_mark_38 (by decide) hf (fun c26 hf => ?_) (fun c26 hf => ?_)
          · exact ih6 _ hf
          · exact ih19 _ hf
    · refine r_iconst (v := -1) dX8_mark_17 (by decide) ?_
      exact e_iH dX8_mark_18 rfl hf
