def f_X8_fault (F : Nat) (x1_ : Int32) (h : Hp) : Option (Int32 × Hp) :=
  (f_X8_isText x1_ h).bind fun v1 =>
  (if v1 = 0 then (
    some ((-1 : Int32), h))
  else (
    (ldI h 71 x1_).bind fun v2 =>
    (Option.bind (α := Int32 × Hp) (
      (if 0 ≤ v2 then (
        (f_X8_faultOf F x1_ h).bind fun v5 =>
        some (v5.1, v5.2))
      else (
        (f_X8_meets (1 : Int32) h).bind fun v6 =>
        some (v6.1, v6.2)))) fun t3 =>
    some (t3.1, t3.2))))
set_option maxRecDepth 100000 in
set_option maxHeartbeats 4000000 in
theorem S_X8_fault (F : Nat) (x1_ : Int32) (h : Hp) (r : (Int32 × Hp)) (hf : f_X8_fault F x1_ h = some r) : MetP Y_X8_fault 5 [.ref 66, .int x1_] h (some (.int r.1), r.2) := by
  unfold f_X8_fault at hf
  refine met_of yo_X8_fault (Nat.le_of_ble_eq_true rfl) ?_
  show Run Y_X8_fault _ 0 [some (.ref 66), some (.int x1_)] [] h
  refine r_iload_n dX8_fault_0 rfl ?_
  obtain ⟨v1, hv, hf⟩ := bnd hf
  refine r_callS (lv := 2) dX8_fault_1 yo_X8_isText ys_X8_isText ml_X8_155 ya_X8_isText (Fits.vm (by decide)) rfl rfl (Nat.le_of_ble_eq_true rfl) (S_X8_isText x1_ h  _ hv) ?_
  refine r_if_ne 9 dX8_fault_4 (by decide) hf (fun c8 hf => ?_) (fun c8 hf => ?_)
  · refine r_aload_n dX8_fault_9 rfl ?_
    refine r_getS (b := 71) dX8_fault_10 sh_66 ft_X8_22 rfl rfl ?_
    refine r_iload_n dX8_fault_13 rfl ?_
    refine r_iald dX8_fault_14 sh_71 hf fun v2 hf => ?_
    refine r_reg (P := fun t3 => Run Y_X8_fault (VM 5 (some (.int r.1), r.2)) 31 [some (.ref 66), some (.int x1_)] [.int t3.1] t3.2) hf (fun t3 hf => ?_) (fun t3 key4 hf => ?_)
    · exact e_iH dX8_fault_31 rfl hf
    · refine r_if_ge 26 dX8_fault_15 (by decide) hf (fun c7 hf => ?_) (fun c7 hf => ?_)
      · refine r_aload_n dX8_fault_26 rfl ?_
        refine r_iload_n dX8_fault_27 rfl ?_
        obtain ⟨v5, hv, hf⟩ := bnd hf
        refine r_callV (lv := 4) dX8_fault_28 yo_X8_faultOf yi_X8_faultOf ml_X8_212 ya_X8_faultOf sh_66 ⟨_, rfl, rfl⟩ (Fits.vm (by decide)) rfl rfl (Nat.le_of_ble_eq_true rfl) (S_X8_faultOf F x1_ h  _ hv) ?_
        cases hf; exact key4
      · refine r_aload_n dX8_fault_18 rfl ?_
        refine r_iconst (v := 1) dX8_fault_19 (by decide) ?_
        obtain ⟨v6, hv, hf⟩ := bnd hf
        refine r_callV (lv := 1) dX8_fault_20 yo_X8_meets yi_X8_meets ml_X8_144 ya_X8_meets sh_66 ⟨_, rfl, rfl⟩ (Fits.vm (by decide)) rfl rfl (Nat.le_of_ble_eq_true rfl) (S_X8_meets (1 : Int32) h  _ hv) ?_
        refine r_goto 31 dX8_fault_23 (by decide) ?_
        cases hf; exact key4
  · refine r_iconst (v := -1) dX8_fault_7 (by decide) ?_
    exact e_iH dX8_fault_8 rfl hf
def f_X8_yard (F : Nat) (x1_ : Int32) (h : Hp) : Option (Int32 × Hp) :=
  (f_X8_isText x1_ h).bind fun v1 =>
  (if v1 = 0 then (
    some ((-1 : Int32), h))
  else (
    (ldI h 71 x1_).bind fun v2 =>
    (if 0 ≤ v2 then (
      (f_X8_faultOf F x1_ h).bind fun v3 =>
      (if v3.1 = (-9 : Int32) then (
        nm (sI v3.2 66 8 (gI v3.2 66 20)) fun h4 =>
        nm (sI h4 66 9 (gI h4 66 22)) fun h5 =>
        nm (sI h5 66 10 (gI h5 66 23)) fun h6 =>
        (ckZ (gI h6 66 25)).bind fun z8 => nm (sI h6 66 12 z8) fun h7 =>
        nm (sI h7 66 11 (gI h7 66 24)) fun h9 =>
        fix (σ := Int32 × Hp) (ρ := (Int32 × Hp)) (fun self11 s10 =>
          (if (gI s10.2 66 8) ≤ s10.1 then (
            fix (σ := Int32 × Hp) (ρ := (Int32 × Hp)) (fun self14 s13 =>
              (if (gI s13.2 66 10) ≤ s13.1 then (
                fix (σ := Int32 × Hp) (ρ := (Int32 × Hp)) (fun self17 s16 =>
                  (if (gI s16.2 66 11) ≤ s16.1 then (
                    nm (sI s16.2 66 13 (0 : Int32)) fun h19 =>
                    nm (sI h19 66 32 (0 : Int32)) fun h20 =>
                    nm (sI h20 66 56 (0 : Int32)) fun h21 =>
                    fix (σ := Int32 × Hp) (ρ := (Int32 × Hp)) (fun self23 s22 =>
                      (if (3 : Int32) ≤ s22.1 then (
                        some ((gI s22.2 66 10), s22.2))
                      else (
                        (stI s22.2 85 s22.1 (vp_nar .boolean (0 : Int32))).bind fun h25 =>
                        self23 ((s22.1 + 1), h25)))) F ((0 : Int32), h21))
                  else (
                    (ldI s16.2 81 s16.1).bind fun v27 =>
                    (stI s16.2 76 s16.1 v27).bind fun h28 =>
                    (stI h28 77 s16.1 (0 : Int32)).bind fun h29 =>
                    self17 ((s16.1 + 1), h29)))) F ((0 : Int32), s13.2))
              else (
                (ldI s13.2 79 s13.1).bind fun v31 =>
                (stI s13.2 74 s13.1 v31).bind fun h32 =>
                (ldI h32 80 s13.1).bind fun v33 =>
                (ldI h32 80 s13.1).bind fun v34 =>
                (stI h32 75 s13.1 (((gI h32 66 9) * (v33 / (4 : Int32))) + (rem32 v34 (4 : Int32)))).bind fun h35 =>
                self14 ((s13.1 + 1), h35)))) F ((0 : Int32), s10.2))
          else (
            fix (σ := Int32 × Hp) (ρ := (Int32 × Hp)) (fun self38 s37 =>
              (if (gI s37.2 66 9) ≤ s37.1 then (
                self11 ((s10.1 + 1), s37.2))
              else (
                (ldI s37.2 78 (((4 : Int32) * s10.1) + s37.1)).bind fun v40 =>
                (stI s37.2 73 (((gI s37.2 66 9) * s10.1) + s37.1) v40).bind fun h41 =>
                self38 ((s37.1 + 1), h41)))) F ((0 : Int32), s10.2)))) F ((0 : Int32), h9))
      else (
        some ((-4 : Int32), v3.2))))
    else (
      (f_X8_meets (1 : Int32) h).bind fun v45 =>
      some (v45.1, v45.2)))))
set_option maxRecDepth 100000 in
set_option maxHeartbeats 4000000 in
theorem S_X8_yard (F : Nat) (x1_ : Int32) (h : Hp) (r : (Int32 × Hp)) (hf : f_X8_yard F x1_ h = some r) : MetP Y_X8_yard 5 [.ref 66, .int x1_] h (some (.int r.1), r.2) := by
  unfold f_X8_yard at hf
  refine met_of yo_X8_yard (Nat.le_of_ble_eq_true rfl) ?_
  show Run Y_X8_yard _ 0 [some (.ref 66), some (.int x1_), none, none] [] h
  refine r_iload_n dX8_yard_0 rfl ?_
  obtain ⟨v1, hv, hf⟩ := bnd hf
  refine r_callS (lv := 2) dX8_yard_1 yo_X8_isText ys_X8_isText ml_X8_155 ya_X8_isText (Fits.vm (by decide)) rfl rfl (Nat.le_of_ble_eq_true rfl) (S_X8_isText x1_ h  _ hv) ?_
  refine r_if_ne 9 dX8_yard_4 (by decide) hf (fun c47 hf => ?_) (fun c47 hf => ?_)
  · refine r_aload_n dX8_yard_9 rfl ?_
    refine r_getS (b := 71) dX8_yard_10 sh_66 ft_X8_22 rfl rfl ?_
    refine r_iload_n dX8_yard_13 rfl ?_
    refine r_iald dX8_yard_14 sh_71 hf fun v2 hf => ?_
    refine r_if_ge 24 dX8_yard_15 (by decide) hf (fun c46 hf => ?_) (fun c46 hf => ?_)
    · refine r_aload_n dX8_yard_24 rfl ?_
      refine r_iload_n dX8_yard_25 rfl ?_
      obtain ⟨v3, hv, hf⟩ := bnd hf
      refine r_callV (lv := 4) dX8_yard_26 yo_X8_faultOf yi_X8_faultOf ml_X8_212 ya_X8_faultOf sh_66 ⟨_, rfl, rfl⟩ (Fits.vm (by decide)) rfl rfl (Nat.le_of_ble_eq_true rfl) (S_X8_faultOf F x1_ h  _ hv) ?_
      refine r_bipush (v := -9) dX8_yard_29 (by decide) ?_
      refine r_icmp_eq 37 dX8_yard_31 (by decide) hf (fun c44 hf => ?_) (fun c44 hf => ?_)
      · refine r_aload_n dX8_yard_37 rfl ?_
        refine r_aload_n dX8_yard_38 rfl ?_
        refine r_getI dX8_yard_39 sh_66 ft_X8_161 rfl ?_
        refine r_putI dX8_yard_42 sh_66 ft_X8_215 rfl hf fun h4 hf => ?_
        refine r_aload_n dX8_yard_45 rfl ?_
        refine r_aload_n dX8_yard_46 rfl ?_
        refine r_getI dX8_yard_47 sh_66 ft_X8_164 rfl ?_
        refine r_putI dX8_yard_50 sh_66 ft_X8_218 rfl hf fun h5 hf => ?_
        refine r_aload_n dX8_yard_53 rfl ?_
        refine r_aload_n dX8_yard_54 rfl ?_
        refine r_getI dX8_yard_55 sh_66 ft_X8_170 rfl ?_
        refine r_putI dX8_yard_58 sh_66 ft_X8_221 rfl hf fun h6 hf => ?_
        refine r_aload_n dX8_yard_61 rfl ?_
        refine r_aload_n dX8_yard_62 rfl ?_
        refine r_getI dX8_yard_63 sh_66 ft_X8_192 rfl ?_
        refine r_putZ dX8_yard_66 sh_66 ft_X8_224 rfl hf fun h7 hf => ?_
        refine r_aload_n dX8_yard_69 rfl ?_
        refine r_aload_n dX8_yard_70 rfl ?_
        refine r_getI dX8_yard_71 sh_66 ft_X8_196 rfl ?_
        refine r_putI dX8_yard_74 sh_66 ft_X8_227 rfl hf fun h9 hf => ?_
        refine r_iconst (v := 0) dX8_yard_77 (by decide) ?_
        refine r_istore_nA dX8_yard_78 (by decide) ?_
        refine r_fix (σ := Int32 × Hp) (fun s10 => [some (.ref 66), some (.int x1_), some (.int s10.1), none]) (fun s10 => s10.2) (fun self11 ih12 s10 hf => ?_) F ((0 : Int32), h9) hf
        refine r_iload_n dX8_yard_79 rfl ?_
        refine r_aload_n dX8_yard_80 rfl ?_
        refine r_getI dX8_yard_81 sh_66 ft_X8_215 rfl ?_
        refine r_icmp_ge 132 dX8_yard_84 (by decide) hf (fun c43 hf => ?_) (fun c43 hf => ?_)
        · refine r_iconst (v := 0) dX8_yard_132 (by decide) ?_
          refine r_istore_nA dX8_yard_133 (by decide) ?_
          refine r_fix (σ := Int32 × Hp) (fun s13 => [some (.ref 66), some (.int x1_), some (.int s13.1), none]) (fun s13 => s13.2) (fun self14 ih15 s13 hf => ?_) F ((0 : Int32), s10.2) hf
          refine r_iload_n dX8_yard_134 rfl ?_
          refine r_aload_n dX8_yard_135 rfl ?_
          refine r_getI dX8_yard_136 sh_66 ft_X8_221 rfl ?_
          refine r_icmp_ge 188 dX8_yard_139 (by decide) hf (fun c36 hf => ?_) (fun c36 hf => ?_)
          · refine r_iconst (v := 0) dX8_yard_188 (by decide) ?_
            refine r_istore_nA dX8_yard_189 (by decide) ?_
            refine r_fix (σ := Int32 × Hp) (fun s16 => [some (.ref 66), some (.int x1_), some (.int s16.1), none]) (fun s16 => s16.2) (fun self17 ih18 s16 hf => ?_) F ((0 : Int32), s13.2) hf
            refine r_iload_n dX8_yard_190 rfl ?_
            refine r_aload_n dX8_yard_191 rfl ?_
            refine r_getI dX8_yard_192 sh_66 ft_X8_227 rfl ?_
            refine r_icmp_ge 223 dX8_yard_195 (by decide) hf (fun c30 hf => ?_) (fun c30 hf => ?_)
            · refine r_aload_n dX8_yard_223 rfl ?_
              refine r_iconst (v := 0) dX8_yard_224 (by decide) ?_
              refine r_putI dX8_yard_225 sh_66 ft_X8_230 rfl hf fun h19 hf => ?_
              refine r_aload_n dX8_yard_228 rfl ?_
              refine r_iconst (v := 0) dX8_yard_229 (by decide) ?_
              refine r_putI dX8_yard_230 sh_66 ft_X8_233 rfl hf fun h20 hf => ?_
              refine r_aload_n dX8_yard_233 rfl ?_
              refine r_iconst (v := 0) dX8_yard_234 (by decide) ?_
              refine r_putI dX8_yard_235 sh_66 ft_X8_236 rfl hf fun h21 hf => ?_
              refine r_iconst (v := 0) dX8_yard_238 (by decide) ?_
              refine r_istore_nA dX8_yard_239 (by decide) ?_
              refine r_fix (σ := Int32 × Hp) (fun s22 => [some (.ref 66), some (.int x1_), some (.int s22.1), none]) (fun s22 => s22.2) (fun self23 ih24 s22 hf => ?_) F ((0 : Int32), h21) hf
              refine r_iload_n dX8_yard_240 rfl ?_
              refine r_iconst (v := 3) dX8_yard_241 (by decide) ?_
              refine r_icmp_ge 258 dX8_yard_242 (by decide) hf (fun c26 hf => ?_) (fun c26 hf => ?_)
              · refine r_aload_n dX8_yard_258 rfl ?_
                refine r_getI dX8_yard_259 sh_66 ft_X8_221 rfl ?_
                exact e_iH dX8_yard_262 rfl hf
              · refine r_aload_n dX8_yard_245 rfl ?_
                refine r_getS (b := 85) dX8_yard_246 sh_66 ft_X8_65 rfl rfl ?_
                refine r_iload_n dX8_yard_249 rfl ?_
                refine r_iconst (v := 0) dX8_yard_250 (by decide) ?_
                refine r_zast dX8_yard_251 sh_85 hf fun h25 hf => ?_
                refine r_iincA (v := 1) dX8_yard_252 rfl (by decide) (by decide) ?_
                refine r_goto 240 dX8_yard_255 (by decide) ?_
                exact ih24 _ hf
            · refine r_aload_n dX8_yard_198 rfl ?_
              refine r_getS (b := 76) dX8_yard_199 sh_66 ft_X8_38 rfl rfl ?_
              refine r_iload_n dX8_yard_202 rfl ?_
              refine r_aload_n dX8_yard_203 rfl ?_
              refine r_getS (b := 81) dX8_yard_204 sh_66 ft_X8_53 rfl rfl ?_
              refine r_iload_n dX8_yard_207 rfl ?_
              refine r_iald dX8_yard_208 sh_81 hf fun v27 hf => ?_
              refine r_iast dX8_yard_209 sh_76 hf fun h28 hf => ?_
              refine r_aload_n dX8_yard_210 rfl ?_
              refine r_getS (b := 77) dX8_yard_211 sh_66 ft_X8_41 rfl rfl ?_
              refine r_iload_n dX8_yard_214 rfl ?_
              refine r_iconst (v := 0) dX8_yard_215 (by decide) ?_
              refine r_iast dX8_yard_216 sh_77 hf fun h29 hf => ?_
              refine r_iincA (v := 1) dX8_yard_217 rfl (by decide) (by decide) ?_
              refine r_goto 190 dX8_yard_220 (by decide) ?_
              exact ih18 _ hf
          · refine r_aload_n dX8_yard_142 rfl ?_
            refine r_getS (b := 74) dX8_yard_143 sh_66 ft_X8_32 rfl rfl ?_
            refine r_iload_n dX8_yard_146 rfl ?_
            refine r_aload_n dX8_yard_147 rfl ?_
            refine r_getS (b := 79) dX8_yard_148 sh_66 ft_X8_47 rfl rfl ?_
            refine r_iload_n dX8_yard_151 rfl ?_
            refine r_iald dX8_yard_152 sh_79 hf fun v31 hf => ?_
            refine r_iast dX8_yard_153 sh_74 hf fun h32 hf => ?_
            refine r_aload_n dX8_yard_154 rfl ?_
            refine r_getS (b := 75) dX8_yard_155 sh_66 ft_X8_35 rfl rfl ?_
            refine r_iload_n dX8_yard_158 rfl ?_
            refine r_aload_n dX8_yard_159 rfl ?_
            refine r_getI dX8_yard_160 sh_66 ft_X8_218 rfl ?_
            refine r_aload_n dX8_yard_163 rfl ?_
            refine r_getS (b := 80) dX8_yard_164 sh_66 ft_X8_50 rfl rfl ?_
            refine r_iload_n dX8_yard_167 rfl ?_
            refine r_iald dX8_yard_168 sh_80 hf fun v33 hf => ?_
            refine r_iconst (v := 4) dX8_yard_169 (by decide) ?_
            refine r_idivK dX8_yard_170 (by decide) ?_
            refine r_imul dX8_yard_171 ?_
            refine r_aload_n dX8_yard_172 rfl ?_
            refine r_getS (b := 80) dX8_yard_173 sh_66 ft_X8_50 rfl rfl ?_
            refine r_iload_n dX8_yard_176 rfl ?_
            refine r_iald dX8_yard_177 sh_80 hf fun v34 hf => ?_
            refine r_iconst (v := 4) dX8_yard_178 (by decide) ?_
            refine r_iremK dX8_yard_179 (by decide) ?_
            refine r_iadd dX8_yard_180 ?_
            refine r_iast dX8_yard_181 sh_75 hf fun h35 hf => ?_
            refine r_iincA (v := 1) dX8_yard_182 rfl (by decide) (by decide) ?_
            refine r_goto 134 dX8_yard_185 (by decide) ?_
            exact ih15 _ hf
        · refine r_iconst (v := 0) dX8_yard_87 (by decide) ?_
          refine r_istore_nA dX8_yard_88 (by decide) ?_
          refine r_fix (σ := Int32 × Hp) (fun s37 => [some (.ref 66), some (.int x1_), some (.int s10.1), some (.int s37.1)]) (fun s37 => s37.2) (fun self38 ih39 s37 hf => ?_) F ((0 : Int32), s10.2) hf
          refine r_iload_n dX8_yard_89 rfl ?_
          refine r_aload_n dX8_yard_90 rfl ?_
          refine r_getI dX8_yard_91 sh_66 ft_X8_218 rfl ?_
          refine r_icmp_ge 126 dX8_yard_94 (by decide) hf (fun c42 hf => ?_) (fun c42 hf => ?_)
          · refine r_iincA (v := 1) dX8_yard_126 rfl (by decide) (by decide) ?_
            refine r_goto 79 dX8_yard_129 (by decide) ?_
            refine r_lt (ll_s (ll_s (ll_s (ll_n ll_0)))) ?_
            exact ih12 _ hf
          · refine r_aload_n dX8_yard_97 rfl ?_
            refine r_getS (b := 73) dX8_yard_98 sh_66 ft_X8_29 rfl rfl ?_
            refine r_aload_n dX8_yard_101 rfl ?_
            refine r_getI dX8_yard_102 sh_66 ft_X8_218 rfl ?_
            refine r_iload_n dX8_yard_105 rfl ?_
            refine r_imul dX8_yard_106 ?_
            refine r_iload_n dX8_yard_107 rfl ?_
            refine r_iadd dX8_yard_108 ?_
            refine r_aload_n dX8_yard_109 rfl ?_
            refine r_getS (b := 78) dX8_yard_110 sh_66 ft_X8_44 rfl rfl ?_
            refine r_iconst (v := 4) dX8_yard_113 (by decide) ?_
            refine r_iload_n dX8_yard_114 rfl ?_
            refine r_imul dX8_yard_115 ?_
            refine r_iload_n dX8_yard_116 rfl ?_
            refine r_iadd dX8_yard_117 ?_
            refine r_iald dX8_yard_118 sh_78 hf fun v40 hf => ?_
            refine r_iast dX8_yard_119 sh_73 hf fun h41 hf => ?_
            refine r_iincA (v := 1) dX8_yard_120 rfl (by decide) (by decide) ?_
            refine r_goto 89 dX8_yard_123 (by decide) ?_
            exact ih39 _ hf
      · refine r_bipush (v := -4) dX8_yard_34 (by decide) ?_
        exact e_iH dX8_yard_36 rfl hf
    · refine r_aload_n dX8_yard_18 rfl ?_
      refine r_iconst (v := 1) dX8_yard_19 (by decide) ?_
      obtain ⟨v45, hv, hf⟩ := bnd hf
      refine r_callV (lv := 1) dX8_yard_20 yo_X8_meets yi_X8_meets ml_X8_144 ya_X8_meets sh_66 ⟨_, rfl, rfl⟩ (Fits.vm (by decide)) rfl rfl (Nat.le_of_ble_eq_true rfl) (S_X8_meets (1 : Int32) h  _ hv) ?_
      exact e_iH dX8_yard_23 rfl hf
  · refine r_iconst (v := -1) dX8_yard_7 (by decide) ?_
    exact e_iH dX8_yard_8 rfl hf
def f_X8_cellMany  (h : Hp) : Option Int32 :=
  some ((gI h 66 8) * (gI h 66 9))
set_option maxRecDepth 100000 in
set_option maxHeartbeats 4000000 in
theorem S_X8_cellMany  (h : Hp) (r : Int32) (hf : f_X8_cellMany h = some r) : MetP Y_X8_cellMany 1 [.ref 66] h (some (.int r), h) := by
  unfold f_X8_cellMany at hf
  refine met_of yo_X8_cellMany (Nat.le_of_ble_eq_true rfl) ?_
  show Run Y_X8_cellMany _ 0 [some (.ref 66)] [] h
  refine r_aload_n dX8_cellMany_0 rfl ?_
  refine r_getI dX8_cellMany_1 sh_66 ft_X8_215 rfl ?_
  refine r_aload_n dX8_cellMany_4 rfl ?_
  refine r_getI dX8_cellMany_5 sh_66 ft_X8_218 rfl ?_
  refine r_imul dX8_cellMany_8 ?_
  exact e_iP dX8_cellMany_9 rfl hf
def f_X8_isMan (x1_ : Int32) (h : Hp) : Option Int32 :=
  (f_X8_in x1_ (0 : Int32) ((gI h 66 10) - (1 : Int32)) h).bind fun v1 =>
  ckZ v1
set_option maxRecDepth 100000 in
set_option maxHeartbeats 4000000 in
theorem S_X8_isMan (x1_ : Int32) (h : Hp) (r : Int32) (hf : f_X8_isMan x1_ h = some r) : MetP Y_X8_isMan 2 [.ref 66, .int x1_] h (some (.int r), h) := by
  unfold f_X8_isMan at hf
  refine met_of yo_X8_isMan (Nat.le_of_ble_eq_true rfl) ?_
  show Run Y_X8_isMan _ 0 [some (.ref 66), some (.int x1_)] [] h
  refine r_iload_n dX8_isMan_0 rfl ?_
  refine r_iconst (v := 0) dX8_isMan_1 (by decide) ?_
  refine r_aload_n dX8_isMan_2 rfl ?_
  refine r_getI dX8_isMan_3 sh_66 ft_X8_221 rfl ?_
  refine r_iconst (v := 1) dX8_isMan_6 (by decide) ?_
  refine r_isub dX8_isMan_7 ?_
  obtain ⟨v1, hv, hf⟩ := bnd hf
  refine r_callS (lv := 1) dX8_isMan_8 yo_X8_in ys_X8_in ml_X8_133 ya_X8_in (Fits.vm (by decide)) rfl rfl (Nat.le_of_ble_eq_true rfl) (S_X8_in x1_ (0 : Int32) ((gI h 66 10) - (1 : Int32)) h  _ hv) ?_
  exact e_zP dX8_isMan_11 rfl hf
def f_X8_isCell (x1_ : Int32) (h : Hp) : Option Int32 :=
  (f_X8_cellMany h).bind fun v1 =>
  (f_X8_in x1_ (0 : Int32) (v1 - (1 : Int32)) h).bind fun v2 =>
  ckZ v2
set_option maxRecDepth 100000 in
set_option maxHeartbeats 4000000 in
theorem S_X8_isCell (x1_ : Int32) (h : Hp) (r : Int32) (hf : f_X8_isCell x1_ h = some r) : MetP Y_X8_isCell 2 [.ref 66, .int x1_] h (some (.int r), h) := by
  unfold f_X8_isCell at hf
  refine met_of yo_X8_isCell (Nat.le_of_ble_eq_true rfl) ?_
  show Run Y_X8_isCell _ 0 [some (.ref 66), some (.int x1_)] [] h
  refine r_iload_n dX8_isCell_0 rfl ?_
  refine r_iconst (v := 0) dX8_isCell_1 (by decide) ?_
  refine r_aload_n dX8_isCell_2 rfl ?_
  obtain ⟨v1, hv, hf⟩ := bnd hf
  refine r_callV (lv := 1) dX8_isCell_3 yo_X8_cellMany yi_X8_cellMany ml_X8_239 ya_X8_cellMany sh_66 ⟨_, rfl, rfl⟩ (Fits.vm (by decide)) rfl rfl (Nat.le_of_ble_eq_true rfl) (S_X8_cellMany  h  _ hv) ?_
  refine r_iconst (v := 1) dX8_isCell_6 (by decide) ?_
  refine r_isub dX8_isCell_7 ?_
  obtain ⟨v2, hv, hf⟩ := bnd hf
  refine r_callS (lv := 1) dX8_isCell_8 yo_X8_in ys_X8_in ml_X8_133 ya_X8_in (Fits.vm (by decide)) rfl rfl (Nat.le_of_ble_eq_true rfl) (S_X8_in x1_ (0 : Int32) (v1 - (1 : Int32)) h  _ hv) ?_
  exact e_zP dX8_isCell_11 rfl hf
def f_X8_isChain (x1_ : Int32) (h : Hp) : Option Int32 :=
  (f_X8_in x1_ (0 : Int32) ((gI h 66 11) - (1 : Int32)) h).bind fun v1 =>
  ckZ v1
set_option maxRecDepth 100000 in
set_option maxHeartbeats 4000000 in
theorem S_X8_isChain (x1_ : Int32) (h : Hp) (r : Int32) (hf : f_X8_isChain x1_ h = some r) : MetP Y_X8_isChain 2 [.ref 66, .int x1_] h (some (.int r), h) := by
  unfold f_X8_isChain at hf
  refine met_of yo_X8_isChain (Nat.le_of_ble_eq_true rfl) ?_
  show Run Y_X8_isChain _ 0 [some (.ref 66), some (.int x1_)] [] h
  refine r_iload_n dX8_isChain_0 rfl ?_
  refine r_iconst (v := 0) dX8_isChain_1 (by decide) ?_
  refine r_aload_n dX8_isChain_2 rfl ?_
  refine r_getI dX8_isChain_3 sh_66 ft_X8_227 rfl ?_
  refine r_iconst (v := 1) dX8_isChain_6 (by decide) ?_
  refine r_isub dX8_isChain_7 ?_
  obtain ⟨v1, hv, hf⟩ := bnd hf
  refine r_callS (lv := 1) dX8_isChain_8 yo_X8_in ys_X8_in ml_X8_133 ya_X8_in (Fits.vm (by decide)) rfl rfl (Nat.le_of_ble_eq_true rfl) (S_X8_in x1_ (0 : Int32) ((gI h 66 11) - (1 : Int32)) h  _ hv) ?_
  exact e_zP dX8_isChain_11 rfl hf
def f_X8_otherEnd (x1_ : Int32) (h : Hp) : Option Int32 :=
  (rmI (x1_ + (1 : Int32)) (gI h 66 10)).bind fun v1 =>
  some v1
set_option maxRecDepth 100000 in
set_option maxHeartbeats 4000000 in
theorem S_X8_otherEnd (x1_ : Int32) (h : Hp) (r : Int32) (hf : f_X8_otherEnd x1_ h = some r) : MetP Y_X8_otherEnd 1 [.ref 66, .int x1_] h (some (.int r), h) := by
  unfold f_X8_otherEnd at hf
  refine met_of yo_X8_otherEnd (Nat.le_of_ble_eq_true rfl) ?_
  show Run Y_X8_otherEnd _ 0 [some (.ref 66), some (.int x1_)] [] h
  refine r_iload_n dX8_otherEnd_0 rfl ?_
  refine r_iconst (v := 1) dX8_otherEnd_1 (by decide) ?_
  refine r_iadd dX8_otherEnd_2 ?_
  refine r_aload_n dX8_otherEnd_3 rfl ?_
  refine r_getI dX8_otherEnd_4 sh_66 ft_X8_221 rfl ?_
  refine r_irem dX8_otherEnd_7 hf fun v1 hf => ?_
  exact e_iP dX8_otherEnd_8 rfl hf
def f_X8_lookAtNow (F : Nat)  (h : Hp) : Option Hp :=
  fix (σ := Int32 × Hp) (ρ := Hp) (fun self2 s1 =>
    (if (gI s1.2 66 10) ≤ s1.1 then (
      some s1.2)
    else (
      (ldI s1.2 75 s1.1).bind fun v4 =>
      (stI s1.2 82 s1.1 v4).bind fun h5 =>
      self2 ((s1.1 + 1), h5)))) F ((0 : Int32), h)
set_option maxRecDepth 100000 in
set_option maxHeartbeats 4000000 in
theorem S_X8_lookAtNow (F : Nat)  (h : Hp) (r : Hp) (hf : f_X8_lookAtNow F h = some r) : MetP Y_X8_lookAtNow 1 [.ref 66] h (none, r) := by
  unfold f_X8_lookAtNow at hf
  refine met_of yo_X8_lookAtNow (Nat.le_of_ble_eq_true rfl) ?_
  show Run Y_X8_lookAtNow _ 0 [some (.ref 66), none] [] h
  refine r_iconst (v := 0) dX8_lookAtNow_0 (by decide) ?_
  refine r_istore_nA dX8_lookAtNow_1 (by decide) ?_
  refine r_fix (σ := Int32 × Hp) (fun s1 => [some (.ref 66), some (.int s1.1)]) (fun s1 => s1.2) (fun self2 ih3 s1 hf => ?_) F ((0 : Int32), h) hf
  refine r_iload_n dX8_lookAtNow_2 rfl ?_
  refine r_aload_n dX8_lookAtNow_3 rfl ?_
  refine r_getI dX8_lookAtNow_4 sh_66 ft_X8_221 rfl ?_
  refine r_icmp_ge 28 dX8_lookAtNow_7 (by decide) hf (fun c6 hf => ?_) (fun c6 hf => ?_)
  · exact e_vH dX8_lookAtNow_28 rfl hf
  · refine r_aload_n dX8_lookAtNow_10 rfl ?_
    refine r_getS (b := 82) dX8_lookAtNow_11 sh_66 ft_X8_56 rfl rfl ?_
    refine r_iload_n dX8_lookAtNow_14 rfl ?_
    refine r_aload_n dX8_lookAtNow_15 rfl ?_
    refine r_getS (b := 75) dX8_lookAtNow_16 sh_66 ft_X8_35 rfl rfl ?_
    refine r_iload_n dX8_lookAtNow_19 rfl ?_
    refine r_iald dX8_lookAtNow_20 sh_75 hf fun v4 hf => ?_
    refine r_iast dX8_lookAtNow_21 sh_82 hf fun h5 hf => ?_
    refine r_iincA (v := 1) dX8_lookAtNow_22 rfl (by decide) (by decide) ?_
    refine r_goto 2 dX8_lookAtNow_25 (by decide) ?_
    exact ih3 _ hf
def f_X8_farOf (x1_ : Int32) (h : Hp) : Option Int32 :=
  (ldI h 82 x1_).bind fun v1 =>
  (f_X8_otherEnd x1_ h).bind fun v2 =>
  (ldI h 82 v2).bind fun v3 =>
  (f_X8_farIn v1 v3 (gI h 66 9) h).bind fun v4 =>
  some v4
set_option maxRecDepth 100000 in
set_option maxHeartbeats 4000000 in
theorem S_X8_farOf (x1_ : Int32) (h : Hp) (r : Int32) (hf : f_X8_farOf x1_ h = some r) : MetP Y_X8_farOf 3 [.ref 66, .int x1_] h (some (.int r), h) := by
  unfold f_X8_farOf at hf
  refine met_of yo_X8_farOf (Nat.le_of_ble_eq_true rfl) ?_
  show Run Y_X8_farOf _ 0 [some (.ref 66), some (.int x1_)] [] h
  refine r_aload_n dX8_farOf_0 rfl ?_
  refine r_getS (b := 82) dX8_farOf_1 sh_66 ft_X8_56 rfl rfl ?_
  refine r_iload_n dX8_farOf_4 rfl ?_
  refine r_iald dX8_farOf_5 sh_82 hf fun v1 hf => ?_
  refine r_aload_n dX8_farOf_6 rfl ?_
  refine r_getS (b := 82) dX8_farOf_7 sh_66 ft_X8_56 rfl rfl ?_
  refine r_aload_n dX8_farOf_10 rfl ?_
  refine r_iload_n dX8_farOf_11 rfl ?_
  obtain ⟨v2, hv, hf⟩ := bnd hf
  refine r_callV (lv := 1) dX8_farOf_12 yo_X8_otherEnd yi_X8_otherEnd ml_X8_243 ya_X8_otherEnd sh_66 ⟨_, rfl, rfl⟩ (Fits.vm (by decide)) rfl rfl (Nat.le_of_ble_eq_true rfl) (S_X8_otherEnd x1_ h  _ hv) ?_
  refine r_iald dX8_farOf_15 sh_82 hf fun v3 hf => ?_
  refine r_aload_n dX8_farOf_16 rfl ?_
  refine r_getI dX8_farOf_17 sh_66 ft_X8_218 rfl ?_
  obtain ⟨v4, hv, hf⟩ := bnd hf
  refine r_callS (lv := 2) dX8_farOf_20 yo_X8_farIn ys_X8_farIn ml_X8_199 ya_X8_farIn (Fits.vm (by decide)) rfl rfl (Nat.le_of_ble_eq_true rfl) (S_X8_farIn v1 v3 (gI h 66 9) h  _ hv) ?_
  exact e_iP dX8_farOf_23 rfl hf
def f_X8_reachOf (x1_ : Int32) (h : Hp) : Option Int32 :=
  (ldI h 76 x1_).bind fun v1 =>
  (ldI h 74 x1_).bind fun v2 =>
  (f_X8_otherEnd x1_ h).bind fun v3 =>
  (ldI h 74 v3).bind fun v4 =>
  (f_X8_reachBy v1 v2 v4 h).bind fun v5 =>
  some v5
set_option maxRecDepth 100000 in
set_option maxHeartbeats 4000000 in
theorem S_X8_reachOf (x1_ : Int32) (h : Hp) (r : Int32) (hf : f_X8_reachOf x1_ h = some r) : MetP Y_X8_reachOf 3 [.ref 66, .int x1_] h (some (.int r), h) := by
  unfold f_X8_reachOf at hf
  refine met_of yo_X8_reachOf (Nat.le_of_ble_eq_true rfl) ?_
  show Run Y_X8_reachOf _ 0 [some (.ref 66), some (.int x1_)] [] h
  refine r_aload_n dX8_reachOf_0 rfl ?_
  refine r_getS (b := 76) dX8_reachOf_1 sh_66 ft_X8_38 rfl rfl ?_
  refine r_iload_n dX8_reachOf_4 rfl ?_
  refine r_iald dX8_reachOf_5 sh_76 hf fun v1 hf => ?_
  refine r_aload_n dX8_reachOf_6 rfl ?_
  refine r_getS (b := 74) dX8_reachOf_7 sh_66 ft_X8_32 rfl rfl ?_
  refine r_iload_n dX8_reachOf_10 rfl ?_
  refine r_iald dX8_reachOf_11 sh_74 hf fun v2 hf => ?_
  refine r_aload_n dX8_reachOf_12 rfl ?_
  refine r_getS (b := 74) dX8_reachOf_13 sh_66 ft_X8_32 rfl rfl ?_
  refine r_aload_n dX8_reachOf_16 rfl ?_
  refine r_iload_n dX8_reachOf_17 rfl ?_
  obtain ⟨v3, hv, hf⟩ := bnd hf
  refine r_callV (lv := 1) dX8_reachOf_18 yo_X8_otherEnd yi_X8_otherEnd ml_X8_243 ya_X8_otherEnd sh_66 ⟨_, rfl, rfl⟩ (Fits.vm (by decide)) rfl rfl (Nat.le_of_ble_eq_true rfl) (S_X8_otherEnd x1_ h  _ hv) ?_
  refine r_iald dX8_reachOf_21 sh_74 hf fun v4 hf => ?_
  obtain ⟨v5, hv, hf⟩ := bnd hf
  refine r_callS (lv := 2) dX8_reachOf_22 yo_X8_reachBy ys_X8_reachBy ml_X8_203 ya_X8_reachBy (Fits.vm (by decide)) rfl rfl (Nat.le_of_ble_eq_true rfl) (S_X8_reachBy v1 v2 v4 h  _ hv) ?_
  exact e_iP dX8_reachOf_25 rfl hf
def f_X8_isKeptChain (x1_ : Int32) (h : Hp) : Option Int32 :=
  (ldI h 77 x1_).bind fun v1 =>
  (Option.bind (α := Int32) (
    (if v1 = (1 : Int32) then (
      some (1 : Int32))
    else (
      (f_X8_farOf x1_ h).bind fun v4 =>
      (f_X8_reachOf x1_ h).bind fun v5 =>
      (if v5 < v4 then (
        some (0 : Int32))
      else (
        some (1 : Int32)))))) fun t2 =>
  ckZ t2)
set_option maxRecDepth 100000 in
set_option maxHeartbeats 4000000 in
theorem S_X8_isKeptChain (x1_ : Int32) (h : Hp) (r : Int32) (hf : f_X8_isKeptChain x1_ h = some r) : MetP Y_X8_isKeptChain 4 [.ref 66, .int x1_] h (some (.int r), h) := by
  unfold f_X8_isKeptChain at hf
  refine met_of yo_X8_isKeptChain (Nat.le_of_ble_eq_true rfl) ?_
  show Run Y_X8_isKeptChain _ 0 [some (.ref 66), some (.int x1_)] [] h
  refine r_aload_n dX8_isKeptChain_0 rfl ?_
  refine r_getS (b := 77) dX8_isKeptChain_1 sh_66 ft_X8_41 rfl rfl ?_
  refine r_iload_n dX8_isKeptChain_4 rfl ?_
  refine r_iald dX8_isKeptChain_5 sh_77 hf fun v1 hf => ?_
  refine r_iconst (v := 1) dX8_isKeptChain_6 (by decide) ?_
  refine r_reg (P := fun t2 => Run Y_X8_isKeptChain (VM 4 (some (.int r), h)) 28 [some (.ref 66), some (.int x1_)] [.int t2] h) hf (fun t2 hf => ?_) (fun t2 key3 hf => ?_)
  · exact e_zP dX8_isKeptChain_28 rfl hf
  · refine r_icmp_eq 23 dX8_isKeptChain_7 (by decide) hf (fun c7 hf => ?_) (fun c7 hf => ?_)
    · refine r_iconst (v := 1) dX8_isKeptChain_23 (by decide) ?_
      refine r_goto 28 dX8_isKeptChain_24 (by decide) ?_
      cases hf; exact key3
    · refine r_aload_n dX8_isKeptChain_10 rfl ?_
      refine r_iload_n dX8_isKeptChain_11 rfl ?_
      obtain ⟨v4, hv, hf⟩ := bnd hf
      refine r_callV (lv := 3) dX8_isKeptChain_12 yo_X8_farOf yi_X8_farOf ml_X8_246 ya_X8_farOf sh_66 ⟨_, rfl, rfl⟩ (Fits.vm (by decide)) rfl rfl (Nat.le_of_ble_eq_true rfl) (S_X8_farOf x1_ h  _ hv) ?_
      refine r_aload_n dX8_isKeptChain_15 rfl ?_
      refine r_iload_n dX8_isKeptChain_16 rfl ?_
      obtain ⟨v5, hv, hf⟩ := bnd hf
      refine r_callV (lv := 3) dX8_isKeptChain_17 yo_X8_reachOf yi_X8_reachOf ml_X8_249 ya_X8_reachOf sh_66 ⟨_, rfl, rfl⟩ (Fits.vm (by decide)) rfl rfl (Nat.le_of_ble_eq_true rfl) (S_X8_reachOf x1_ h  _ hv) ?_
      refine r_icmp_gt 27 dX8_isKeptChain_20 (by decide) hf (fun c6 hf => ?_) (fun c6 hf => ?_)
      · refine r_iconst (v := 0) dX8_isKeptChain_27 (by decide) ?_
        cases hf; exact key3
      · refine r_iconst (v := 1) dX8_isKeptChain_23 (by decide) ?_
        refine r_goto 28 dX8_isKeptChain_24 (by decide) ?_
        cases hf; exact key3
def f_X8_allKept (F : Nat)  (h : Hp) : Option Int32 :=
  fix (σ := Int32 × Int32) (ρ := Int32) (fun self2 s1 =>
    (if (gI h 66 11) ≤ s1.2 then (
      ckZ s1.1)
    else (
      (Option.bind (α := Int32) (
        (if s1.1 = 0 then (
          some (0 : Int32))
        else (
          (f_X8_isKeptChain s1.2 h).bind fun v6 =>
          (if v6 = 0 then (
            some (0 : Int32))
          else (
            some (1 : Int32)))))) fun t4 =>
      self2 (t4, (s1.2 + 1)))))) F ((1 : Int32), (0 : Int32))
set_option maxRecDepth 100000 in
set_option maxHeartbeats 4000000 in
theorem S_X8_allKept (F : Nat)  (h : Hp) (r : Int32) (hf : f_X8_allKept F h = some r) : MetP Y_X8_allKept 5 [.ref 66] h (some (.int r), h) := by
  unfold f_X8_allKept at hf
  refine met_of yo_X8_allKept (Nat.le_of_ble_eq_true rfl) ?_
  show Run Y_X8_allKept _ 0 [some (.ref 66), none, none] [] h
  refine r_iconst (v := 1) dX8_allKept_0 (by decide) ?_
  refine r_istore_nA dX8_allKept_1 (by decide) ?_
  refine r_iconst (v := 0) dX8_allKept_2 (by decide) ?_
  refine r_istore_nA dX8_allKept_3 (by decide) ?_
  refine r_fix (σ := Int32 × Int32) (fun s1 => [some (.ref 66), some (.int s1.1), some (.int s1.2)]) (fun s1 => h) (fun self2 ih3 s1 hf => ?_) F ((1 : Int32), (0 : Int32)) hf
  refine r_iload_n dX8_allKept_4 rfl ?_
  refine r_aload_n dX8_allKept_5 rfl ?_
  refine r_getI dX8_allKept_6 sh_66 ft_X8_227 rfl ?_
  refine r_icmp_ge 36 dX8_allKept_9 (by decide) hf (fun c9 hf => ?_) (fun c9 hf => ?_)
  · refine r_iload_n dX8_allKept_36 rfl ?_
    exact e_zP dX8_allKept_37 rfl hf
  · refine r_iload_n dX8_allKept_12 rfl ?_
    refine r_reg (P := fun t4 => Run Y_X8_allKept (VM 5 (some (.int r), h)) 29 [some (.ref 66), some (.int s1.1), some (.int s1.2)] [.int t4] h) hf (fun t4 hf => ?_) (fun t4 key5 hf => ?_)
    · refine r_istore_nA dX8_allKept_29 (by decide) ?_
      refine r_iincA (v := 1) dX8_allKept_30 rfl (by decide) (by decide) ?_
      refine r_goto 4 dX8_allKept_33 (by decide) ?_
      exact ih3 _ hf
    · refine r_if_eq 28 dX8_allKept_13 (by decide) hf (fun c8 hf => ?_) (fun c8 hf => ?_)
      · refine r_iconst (v := 0) dX8_allKept_28 (by decide) ?_
        cases hf; exact key5
      · refine r_aload_n dX8_allKept_16 rfl ?_
        refine r_iload_n dX8_allKept_17 rfl ?_
        obtain ⟨v6, hv, hf⟩ := bnd hf
        refine r_callV (lv := 4) dX8_allKept_18 yo_X8_isKeptChain yi_X8_isKeptChain ml_X8_252 ya_X8_isKeptChain sh_66 ⟨_, rfl, rfl⟩ (Fits.vm (by decide)) rfl rfl (Nat.le_of_ble_eq_true rfl) (S_X8_isKeptChain s1.2 h  _ hv) ?_
        refine r_if_eq 28 dX8_allKept_21 (by decide) hf (fun c7 hf => ?_) (fun c7 hf => ?_)
        · refine r_iconst (v := 0) dX8_allKept_28 (by decide) ?_
          cases hf; exact key5
        · refine r_iconst (v := 1) dX8_allKept_24 (by decide) ?_
          refine r_goto 29 dX8_allKept_25 (by decide) ?_
          cases hf; exact key5
def f_X8_isWet (x1_ : Int32) (h : Hp) : Option Int32 :=
  (dvI x1_ (gI h 66 9)).bind fun v1 =>
  (Option.bind (α := Int32) (
    (if v1 < ((gI h 66 8) - (gI h 66 13)) then (
      some (0 : Int32))
    else (
      some (1 : Int32)))) fun t2 =>
  ckZ t2)
set_option maxRecDepth 100000 in
set_option maxHeartbeats 4000000 in
theorem S_X8_isWet (x1_ : Int32) (h : Hp) (r : Int32) (hf : f_X8_isWet x1_ h = some r) : MetP Y_X8_isWet 1 [.ref 66, .int x1_] h (some (.int r), h) := by
  unfold f_X8_isWet at hf
  refine met_of yo_X8_isWet (Nat.le_of_ble_eq_true rfl) ?_
  show Run Y_X8_isWet _ 0 [some (.ref 66), some (.int x1_)] [] h
  refine r_iload_n dX8_isWet_0 rfl ?_
  refine r_aload_n dX8_isWet_1 rfl ?_
  refine r_getI dX8_isWet_2 sh_66 ft_X8_218 rfl ?_
  refine r_idiv dX8_isWet_5 hf fun v1 hf => ?_
  refine r_aload_n dX8_isWet_6 rfl ?_
  refine r_getI dX8_isWet_7 sh_66 ft_X8_215 rfl ?_
  refine r_aload_n dX8_isWet_10 rfl ?_
  refine r_getI dX8_isWet_11 sh_66 ft_X8_230 rfl ?_
  refine r_isub dX8_isWet_14 ?_
  refine r_reg (P := fun t2 => Run Y_X8_isWet (VM 1 (some (.int r), h)) 23 [some (.ref 66), some (.int x1_)] [.int t2] h) hf (fun t2 hf => ?_) (fun t2 key3 hf => ?_)
  · exact e_zP dX8_isWet_23 rfl hf
  · refine r_icmp_lt 22 dX8_isWet_15 (by decide) hf (fun c4 hf => ?_) (fun c4 hf => ?_)
    · refine r_iconst (v := 0) dX8_isWet_22 (by decide) ?_
      cases hf; exact key3
    · refine r_iconst (v := 1) dX8_isWet_18 (by decide) ?_
      refine r_goto 23 dX8_isWet_19 (by decide) ?_
      cases hf; exact key3
def f_X8_whoOn (F : Nat) (x1_ : Int32) (h : Hp) : Option Int32 :=
  fix (σ := Int32 × Int32) (ρ := Int32) (fun self2 s1 =>
    (if (gI h 66 10) ≤ s1.2 then (
      some s1.1)
    else (
      (ldI h 82 s1.2).bind fun v4 =>
      (Option.bind (α := Int32) (
        (if v4 = x1_ then (
          some s1.2)
        else (
          some s1.1))) fun t5 =>
      self2 (t5, (s1.2 + 1)))))) F ((-9 : Int32), (0 : Int32))
set_option maxRecDepth 100000 in
set_option maxHeartbeats 4000000 in
theorem S_X8_whoOn (F : Nat) (x1_ : Int32) (h : Hp) (r : Int32) (hf : f_X8_whoOn F x1_ h = some r) : MetP Y_X8_whoOn 1 [.ref 66, .int x1_] h (some (.int r), h) := by
  unfold f_X8_whoOn at hf
  refine met_of yo_X8_whoOn (Nat.le_of_ble_eq_true rfl) ?_
  show Run Y_X8_whoOn _ 0 [some (.ref 66), some (.int x1_), none, none] [] h
  refine r_bipush (v := -9) dX8_whoOn_0 (by decide) ?_
  refine r_istore_nA dX8_whoOn_2 (by decide) ?_
  refine r_iconst (v := 0) dX8_whoOn_3 (by decide) ?_
  refine r_istore_nA dX8_whoOn_4 (by decide) ?_
  refine r_fix (σ := Int32 × Int32) (fun s1 => [some (.ref 66), some (.int x1_), some (.int s1.1), some (.int s1.2)]) (fun s1 => h) (fun self2 ih3 s1 hf => ?_) F ((-9 : Int32), (0 : Int32)) hf
  refine r_iload_n dX8_whoOn_5 rfl ?_
  refine r_aload_n dX8_whoOn_6 rfl ?_
  refine r_getI dX8_whoOn_7 sh_66 ft_X8_221 rfl ?_
  refine r_icmp_ge 35 dX8_whoOn_10 (by decide) hf (fun c8 hf => ?_) (fun c8 hf => ?_)
  · refine r_iload_n dX8_whoOn_35 rfl ?_
    exact e_iP dX8_whoOn_36 rfl hf
  · refine r_aload_n dX8_whoOn_13 rfl ?_
    refine r_getS (b := 82) dX8_whoOn_14 sh_66 ft_X8_56 rfl rfl ?_
    refine r_iload_n dX8_whoOn_17 rfl ?_
    refine r_iald dX8_whoOn_18 sh_82 hf fun v4 hf => ?_
    refine r_iload_n dX8_whoOn_19 rfl ?_
    refine r_reg (P := fun t5 => Run Y_X8_whoOn (VM 1 (some (.int r), h)) 28 [some (.ref 66), some (.int x1_), some (.int s1.1), some (.int s1.2)] [.int t5] h) hf (fun t5 hf => ?_) (fun t5 key6 hf => ?_)
    · refine r_istore_nA dX8_whoOn_28 (by decide) ?_
      refine r_iincA (v := 1) dX8_whoOn_29 rfl (by decide) (by decide) ?_
      refine r_goto 5 dX8_whoOn_32 (by decide) ?_
      exact ih3 _ hf
    · refine r_icmp_ne 27 dX8_whoOn_20 (by decide) hf (fun c7 hf => ?_) (fun c7 hf => ?_)
      · refine r_iload_n dX8_whoOn_27 rfl ?_
        cases hf; exact key6
      · refine r_iload_n dX8_whoOn_23 rfl ?_
        refine r_goto 28 dX8_whoOn_24 (by decide) ?_
        cases hf; exact key6
def f_X8_nextCell (x1_ : Int32) (x2_ : Int32) (h : Hp) : Option Int32 :=
  (dvI x1_ (gI h 66 9)).bind fun v1 =>
  (Option.bind (α := Int32) (
    (if x2_ = 0 then (
      some (-1 : Int32))
    else (
      (if x2_ = (2 : Int32) then (
        some (1 : Int32))
      else (
        some (0 : Int32)))))) fun t2 =>
  (rmI x1_ (gI h 66 9)).bind fun v6 =>
  (Option.bind (α := Int32) (
    (if x2_ = (1 : Int32) then (
      some (1 : Int32))
    else (
      (if x2_ = (3 : Int32) then (
        some (-1 : Int32))
      else (
        some (0 : Int32)))))) fun t7 =>
  (f_X8_in (v1 + t2) (0 : Int32) ((gI h 66 8) - (1 : Int32)) h).bind fun v11 =>
  (Option.bind (α := Int32) (
    (if v11 = 0 then (
      some (-9 : Int32))
    else (
      (f_X8_in (v6 + t7) (0 : Int32) ((gI h 66 9) - (1 : Int32)) h).bind fun v14 =>
      (if v14 = 0 then (
        some (-9 : Int32))
      else (
        some (((gI h 66 9) * (v1 + t2)) + (v6 + t7))))))) fun t12 =>
  some t12)))
set_option maxRecDepth 100000 in
set_option maxHeartbeats 4000000 in
theorem S_X8_nextCell (x1_ : Int32) (x2_ : Int32) (h : Hp) (r : Int32) (hf : f_X8_nextCell x1_ x2_ h = some r) : MetP Y_X8_nextCell 2 [.ref 66, .int x1_, .int x2_] h (some (.int r), h) := by
  unfold f_X8_nextCell at hf
  refine met_of yo_X8_nextCell (Nat.le_of_ble_eq_true rfl) ?_
  show Run Y_X8_nextCell _ 0 [some (.ref 66), some (.int x1_), some (.int x2_), none, none] [] h
  refine r_iload_n dX8_nextCell_0 rfl ?_
  refine r_aload_n dX8_nextCell_1 rfl ?_
  refine r_getI dX8_nextCell_2 sh_66 ft_X8_218 rfl ?_
  refine r_idiv dX8_nextCell_5 hf fun v1 hf => ?_
  refine r_iload_n dX8_nextCell_6 rfl ?_
  refine r_reg (P := fun t2 => Run Y_X8_nextCell (VM 2 (some (.int r), h)) 24 [some (.ref 66), some (.int x1_), some (.int x2_), none, none] [.int t2, .int v1] h) hf (fun t2 hf => ?_) (fun t2 key3 hf => ?_)
  · refine r_iadd dX8_nextCell_24 ?_
    refine r_istore_nA dX8_nextCell_25 (by decide) ?_
    refine r_iload_n dX8_nextCell_26 rfl ?_
    refine r_aload_n dX8_nextCell_27 rfl ?_
    refine r_getI dX8_nextCell_28 sh_66 ft_X8_218 rfl ?_
    refine r_irem dX8_nextCell_31 hf fun v6 hf => ?_
    refine r_iload_n dX8_nextCell_32 rfl ?_
    refine r_iconst (v := 1) dX8_nextCell_33 (by decide) ?_
    refine r_reg (P := fun t7 => Run Y_X8_nextCell (VM 2 (some (.int r), h)) 51 [some (.ref 66), some (.int x1_), some (.int x2_), some (.int (v1 + t2)), none] [.int t7, .int v6] h) hf (fun t7 hf => ?_) (fun t7 key8 hf => ?_)
    · refine r_iadd dX8_nextCell_51 ?_
      refine r_istoreA dX8_nextCell_52 (by decide) ?_
      refine r_iload_n dX8_nextCell_54 rfl ?_
      refine r_iconst (v := 0) dX8_nextCell_55 (by decide) ?_
      refine r_aload_n dX8_nextCell_56 rfl ?_
      refine r_getI dX8_nextCell_57 sh_66 ft_X8_215 rfl ?_
      refine r_iconst (v := 1) dX8_nextCell_60 (by decide) ?_
      refine r_isub dX8_nextCell_61 ?_
      obtain ⟨v11, hv, hf⟩ := bnd hf
      refine r_callS (lv := 1) dX8_nextCell_62 yo_X8_in ys_X8_in ml_X8_133 ya_X8_in (Fits.vm (by decide)) rfl rfl (Nat.le_of_ble_eq_true rfl) (S_X8_in (v1 + t2) (0 : Int32) ((gI h 66 8) - (1 : Int32)) h  _ hv) ?_
      refine r_reg (P := fun t12 => Run Y_X8_nextCell (VM 2 (some (.int r), h)) 97 [some (.ref 66), some (.int x1_), some (.int x2_), some (.int (v1 + t2)), some (.int (v6 + t7))] [.int t12] h) hf (fun t12 hf => ?_) (fun t12 key13 hf => ?_)
      · exact e_iP dX8_nextCell_97 rfl hf
      · refine r_if_eq 95 dX8_nextCell_65 (by decide) hf (fun c16 hf => ?_) (fun c16 hf => ?_)
        · refine r_bipush (v := -9) dX8_nextCell_95 (by decide) ?_
          cases hf; exact key13
        · refine r_iload dX8_nextCell_68 rfl ?_
          refine r_iconst (v := 0) dX8_nextCell_70 (by decide) ?_
          refine r_aload_n dX8_nextCell_71 rfl ?_
          refine r_getI dX8_nextCell_72 sh_66 ft_X8_218 rfl ?_
          refine r_iconst (v := 1) dX8_nextCell_75 (by decide) ?_
          refine r_isub dX8_nextCell_76 ?_
          obtain ⟨v14, hv, hf⟩ := bnd hf
          refine r_callS (lv := 1) dX8_nextCell_77 yo_X8_in ys_X8_in ml_X8_133 ya_X8_in (Fits.vm (by decide)) rfl rfl (Nat.le_of_ble_eq_true rfl) (S_X8_in (v6 + t7) (0 : Int32) ((gI h 66 9) - (1 : Int32)) h  _ hv) ?_
          refine r_if_eq 95 dX8_nextCell_80 (by decide) hf (fun c15 hf => ?_) (fun c15 hf => ?_)
          · refine r_bipush (v := -9) dX8_nextCell_95 (by decide) ?_
            cases hf; exact key13
          · refine r_aload_n dX8_nextCell_83 rfl ?_
            refine r_getI dX8_nextCell_84 sh_66 ft_X8_218 rfl ?_
            refine r_iload_n dX8_nextCell_87 rfl ?_
            refine r_imul dX8_nextCell_88 ?_
            refine r_iload dX8_nextCell_89 rfl ?_
            refine r_iadd dX8_nextCell_91 ?_
            refine r_goto 97 dX8_nextCell_92 (by decide) ?_
            cases hf; exact key13
    · refine r_icmp_ne 41 dX8_nextCell_34 (by decide) hf (fun c10 hf => ?_) (fun c10 hf => ?_)
      · refine r_iload_n dX8_nextCell_41 rfl ?_
        refine r_iconst (v := 3) dX8_nextCell_42 (by decide) ?_
        refine r_icmp_ne 50 dX8_nextCell_43 (by decide) hf (fun c9 hf => ?_) (fun c9 hf => ?_)
        · refine r_iconst (v := 0) dX8_nextCell_50 (by decide) ?_
          cases hf; exact key8
        · refine r_iconst (v := -1) dX8_nextCell_46 (by decide) ?_
          refine r_goto 51 dX8_nextCell_47 (by decide) ?_
          cases hf; exact key8
      · refine r_iconst (v := 1) dX8_nextCell_37 (by decide) ?_
        refine r_goto 51 dX8_nextCell_38 (by decide) ?_
        cases hf; exact key8
  · refine r_if_ne 14 dX8_nextCell_7 (by decide) hf (fun c5 hf => ?_) (fun c5 hf => ?_)
    · refine r_iload_n dX8_nextCell_14 rfl ?_
      refine r_iconst (v := 2) dX8_nextCell_15 (by decide) ?_
      refine r_icmp_ne 23 dX8_nextCell_16 (by decide) hf (fun c4 hf => ?_) (fun c4 hf => ?_)
      · refine r_iconst (v := 0) dX8_nextCell_23 (by decide) ?_
        cases hf; exact key3
      · refine r_iconst (v := 1) dX8_nextCell_19 (by decide) ?_
        refine r_goto 24 dX8_nextCell_20 (by decide) ?_
        cases hf; exact key3
    · refine r_iconst (v := -1) dX8_nextCell_10 (by decide) ?_
      refine r_goto 24 dX8_nextCell_11 (by decide) ?_
      cases hf; exact key3
def f_X8_isChained (x1_ : Int32) (x2_ : Int32) (x3_ : Int32) (h : Hp) : Option Int32 :=
  (ldI h 77 x1_).bind fun v1 =>
  (Option.bind (α := Int32) (
    (if v1 = 0 then (
      jn (α := (Unit) → Option (Int32)) (fun t4 =>
        (if x1_ = x3_ then (
          (f_X8_otherEnd x1_ h).bind fun v7 =>
          (if v7 = x2_ then (
            some (1 : Int32))
          else (
            some (0 : Int32))))
        else (
          some (0 : Int32)))) fun j5 =>
      (if x1_ = x2_ then (
        (f_X8_otherEnd x1_ h).bind fun v10 =>
        (if v10 = x3_ then (
          some (1 : Int32))
        else (
          j5 ())))
      else (
        j5 ())))
    else (
      some (0 : Int32)))) fun t2 =>
  ckZ t2)
set_option maxRecDepth 100000 in
set_option maxHeartbeats 4000000 in
theorem S_X8_isChained (x1_ : Int32) (x2_ : Int32) (x3_ : Int32) (h : Hp) (r : Int32) (hf : f_X8_isChained x1_ x2_ x3_ h = some r) : MetP Y_X8_isChained 2 [.ref 66, .int x1_, .int x2_, .int x3_] h (some (.int r), h) := by
  unfold f_X8_isChained at hf
  refine met_of yo_X8_isChained (Nat.le_of_ble_eq_true rfl) ?_
  show Run Y_X8_isChained _ 0 [some (.ref 66), some (.int x1_), some (.int x2_), some (.int x3_)] [] h
  refine r_aload_n dX8_isChained_0 rfl ?_
  refine r_getS (b := 77) dX8_isChained_1 sh_66 ft_X8_41 rfl rfl ?_
  refine r_iload_n dX8_isChained_4 rfl ?_
  refine r_iald dX8_isChained_5 sh_77 hf fun v1 hf => ?_
  refine r_reg (P := fun t2 => Run Y_X8_isChained (VM 2 (some (.int r), h)) 42 [some (.ref 66), some (.int x1_), some (.int x2_), some (.int x3_)] [.int t2] h) hf (fun t2 hf => ?_) (fun t2 key3 hf => ?_)
  · exact e_zP dX8_isChained_42 rfl hf
  · refine r_if_ne 41 dX8_isChained_6 (by decide) hf (fun c13 hf => ?_) (fun c13 hf => ?_)
    · refine r_iconst (v := 0) dX8_isChained_41 (by decide) ?_
      cases hf; exact key3
    · refine r_iload_n dX8_isChained_9 rfl ?_
      refine r_iload_n dX8_isChained_10 rfl ?_
      refine r_jn (P := fun t4 => Run Y_X8_isChained (VM 2 (some (.int r), h)) 23 [some (.ref 66), some (.int x1_), some (.int x2_), some (.int x3_)] [] h) hf (fun t4 hf => ?_) (fun j5 ih6 hf => ?_)
      · refine r_iload_n dX8_isChained_23 rfl ?_
        refine r_iload_n dX8_isChained_24 rfl ?_
        refine r_icmp_ne 41 dX8_isChained_25 (by decide) hf (fun c9 hf => ?_) (fun c9 hf => ?_)
        · refine r_iconst (v := 0) dX8_isChained_41 (by decide) ?_
          cases hf; exact key3
        · refine r_aload_n dX8_isChained_28 rfl ?_
          refine r_iload_n dX8_isChained_29 rfl ?_
          obtain ⟨v7, hv, hf⟩ := bnd hf
          refine r_callV (lv := 1) dX8_isChained_30 yo_X8_otherEnd yi_X8_otherEnd ml_X8_243 ya_X8_otherEnd sh_66 ⟨_, rfl, rfl⟩ (Fits.vm (by decide)) rfl rfl (Nat.le_of_ble_eq_true rfl) (S_X8_otherEnd x1_ h  _ hv) ?_
          refine r_iload_n dX8_isChained_33 rfl ?_
          refine r_icmp_ne 41 dX8_isChained_34 (by decide) hf (fun c8 hf => ?_) (fun c8 hf => ?_)
          · refine r_iconst (v := 0) dX8_isChained_41 (by decide) ?_
            cases hf; exact key3
          · refine r_iconst (v := 1) dX8_isChained_37 (by decide) ?_
            refine r_goto 42 dX8_isChained_38 (by decide) ?_
            cases hf; exact key3
      refine r_icmp_ne 23 dX8_isChained_11 (by decide) hf (fun c12 hf => ?_) (fun c12 hf => ?_)
      · exact ih6 _ hf
      · refine r_aload_n dX8_isChained_14 rfl ?_
        refine r_iload_n dX8_isChained_15 rfl ?_
        obtain ⟨v10, hv, hf⟩ := bnd hf
        refine r_callV (lv := 1) dX8_isChained_16 yo_X8_otherEnd yi_X8_otherEnd ml_X8_243 ya_X8_otherEnd sh_66 ⟨_, rfl, rfl⟩ (Fits.vm (by decide)) rfl rfl (Nat.le_of_ble_eq_true rfl) (S_X8_otherEnd x1_ h  _ hv) ?_
        refine r_iload_n dX8_isChained_19 rfl ?_
        refine r_icmp_eq 37 dX8_isChained_20 (by decide) hf (fun c11 hf => ?_) (fun c11 hf => ?_)
        · refine r_iconst (v := 1) dX8_isChained_37 (by decide) ?_
          refine r_goto 42 dX8_isChained_38 (by decide) ?_
          cases hf; exact key3
        · exact ih6 _ hf
def f_X8_mayGo (x1_ : Int32) (x2_ : Int32) (h : Hp) : Option Int32 :=
  (ldI h 74 x1_).bind fun v1 =>
  (Option.bind (α := Int32) (
    (if v1 = (2 : Int32) then (
      some (0 : Int32))
    else (
      (if v1 = (4 : Int32) then (
        some (0 : Int32))
      else (
        jn (α := (Unit) → Option (Int32)) (fun t4 =>
          (if (rem32 x2_ (2 : Int32)) = (1 : Int32) then (
            some (1 : Int32))
          else (
            some (0 : Int32)))) fun j5 =>
        (if v1 = (3 : Int32) then (
          j5 ())
        else (
          (if v1 = (5 : Int32) then (
            j5 ())
          else (
            some (1 : Int32)))))))))) fun t2 =>
  ckZ t2)
set_option maxRecDepth 100000 in
set_option maxHeartbeats 4000000 in
theorem S_X8_mayGo (x1_ : Int32) (x2_ : Int32) (h : Hp) (r : Int32) (hf : f_X8_mayGo x1_ x2_ h = some r) : MetP Y_X8_mayGo 1 [.ref 66, .int x1_, .int x2_] h (some (.int r), h) := by
  unfold f_X8_mayGo at hf
  refine met_of yo_X8_mayGo (Nat.le_of_ble_eq_true rfl) ?_
  show Run Y_X8_mayGo _ 0 [some (.ref 66), some (.int x1_), some (.int x2_), none] [] h
  refine r_aload_n dX8_mayGo_0 rfl ?_
  refine r_getS (b := 74) dX8_mayGo_1 sh_66 ft_X8_32 rfl rfl ?_
  refine r_iload_n dX8_mayGo_4 rfl ?_
  refine r_iald dX8_mayGo_5 sh_74 hf fun v1 hf => ?_
  refine r_istore_nA dX8_mayGo_6 (by decide) ?_
  refine r_iload_n dX8_mayGo_7 rfl ?_
  refine r_iconst (v := 2) dX8_mayGo_8 (by decide) ?_
  refine r_reg (P := fun t2 => Run Y_X8_mayGo (VM 1 (some (.int r), h)) 39 [some (.ref 66), some (.int x1_), some (.int x2_), some (.int v1)] [.int t2] h) hf (fun t2 hf => ?_) (fun t2 key3 hf => ?_)
  · exact e_zP dX8_mayGo_39 rfl hf
  · refine r_icmp_eq 38 dX8_mayGo_9 (by decide) hf (fun c11 hf => ?_) (fun c11 hf => ?_)
    · refine r_iconst (v := 0) dX8_mayGo_38 (by decide) ?_
      cases hf; exact key3
    · refine r_iload_n dX8_mayGo_12 rfl ?_
      refine r_iconst (v := 4) dX8_mayGo_13 (by decide) ?_
      refine r_icmp_eq 38 dX8_mayGo_14 (by decide) hf (fun c10 hf => ?_) (fun c10 hf => ?_)
      · refine r_iconst (v := 0) dX8_mayGo_38 (by decide) ?_
        cases hf; exact key3
      · refine r_iload_n dX8_mayGo_17 rfl ?_
        refine r_iconst (v := 3) dX8_mayGo_18 (by decide) ?_
        refine r_jn (P := fun t4 => Run Y_X8_mayGo (VM 1 (some (.int r), h)) 27 [some (.ref 66), some (.int x1_), some (.int x2_), some (.int v1)] [] h) hf (fun t4 hf => ?_) (fun j5 ih6 hf => ?_)
        · refine r_iload_n dX8_mayGo_27 rfl ?_
          refine r_iconst (v := 2) dX8_mayGo_28 (by decide) ?_
          refine r_iremK dX8_mayGo_29 (by decide) ?_
          refine r_iconst (v := 1) dX8_mayGo_30 (by decide) ?_
          refine r_icmp_ne 38 dX8_mayGo_31 (by decide) hf (fun c7 hf => ?_) (fun c7 hf => ?_)
          · refine r_iconst (v := 0) dX8_mayGo_38 (by decide) ?_
            cases hf; exact key3
          · refine r_iconst (v := 1) dX8_mayGo_34 (by decide) ?_
            refine r_goto 39 dX8_mayGo_35 (by decide) ?_
            cases hf; exact key3
        refine r_icmp_eq 27 dX8_mayGo_19 (by decide) hf (fun c9 hf => ?_) (fun c9 hf => ?_)
        · exact ih6 _ hf
        · refine r_iload_n dX8_mayGo_22 rfl ?_
          refine r_iconst (v := 5) dX8_mayGo_23 (by decide) ?_
          refine r_icmp_ne 34 dX8_mayGo_24 (by decide) hf (fun c8 hf => ?_) (fun c8 hf => ?_)
          · refine r_iconst (v := 1) dX8_mayGo_34 (by decide) ?_
            refine r_goto 39 dX8_mayGo_35 (by decide) ?_
            cases hf; exact key3
          · exact ih6 _ hf
def f_X8_findTaken (F : Nat) (x1_ : Int32) (h : Hp) : Option Hp :=
  nm (sI h 66 31 (-9 : Int32)) fun h1 =>
  fix (σ := Int32 × Hp) (ρ := Hp) (fun self3 s2 =>
    (if (gI s2.2 66 10) ≤ s2.1 then (
      some s2.2)
    else (
      fix (σ := Int32 × Hp) (ρ := Hp) (fun self6 s5 =>
        (if (gI s5.2 66 11) ≤ s5.1 then (
          self3 ((s2.1 + 1), s5.2))
        else (
          (ldI s5.2 74 s2.1).bind fun v8 =>
          (Option.bind (α := Hp) (
            (if v8 = (2 : Int32) then (
              (f_X8_isChained s5.1 x1_ s2.1 s5.2).bind fun v11 =>
              (if v11 = 0 then (
                some s5.2)
              else (
                (f_X8_isKeptChain s5.1 s5.2).bind fun v12 =>
                (if v12 = 0 then (
                  (Option.bind (α := Int32) (
                    (if (gI s5.2 66 31) = (-9 : Int32) then (
                      some s2.1)
                    else (
                      some (-10 : Int32)))) fun t13 =>
                  nm (sI s5.2 66 31 t13) fun h16 =>
                  some h16))
                else (
                  some s5.2)))))
            else (
              some s5.2))) fun t9 =>
          self6 ((s5.1 + 1), t9))))) F ((0 : Int32), s2.2)))) F ((0 : Int32), h1)
set_option maxRecDepth 100000 in
set_option maxHeartbeats 4000000 in
theorem S_X8_findTaken (F : Nat) (x1_ : Int32) (h : Hp) (r : Hp) (hf : f_X8_findTaken F x1_ h = some r) : MetP Y_X8_findTaken 5 [.ref 66, .int x1_] h (none, r) := by
  unfold f_X8_findTaken at hf
  refine met_of yo_X8_findTaken (Nat.le_of_ble_eq_true rfl) ?_
  show Run Y_X8_findTaken _ 0 [some (.ref 66), some (.int x1_), none, none] [] h
  refine r_aload_n dX8_findTaken_0 rfl ?_
  refine r_bipush (v := -9) dX8_findTaken_1 (by decide) ?_
  refine r_putI dX8_findTaken_3 sh_66 ft_X8_255 rfl hf fun h1 hf => ?_
  refine r_iconst (v := 0) dX8_findTaken_6 (by decide) ?_
  refine r_istore_nA dX8_findTaken_7 (by decide) ?_
  refine r_fix (σ := Int32 × Hp) (fun s2 => [some (.ref 66), some (.int x1_), some (.int s2.1), none]) (fun s2 => s2.2) (fun self3 ih4 s2 hf => ?_) F ((0 : Int32), h1) hf
  refine r_iload_n dX8_findTaken_8 rfl ?_
  refine r_aload_n dX8_findTaken_9 rfl ?_
  refine r_getI dX8_findTaken_10 sh_66 ft_X8_221 rfl ?_
  refine r_icmp_ge 85 dX8_findTaken_13 (by decide) hf (fun c21 hf => ?_) (fun c21 hf => ?_)
  · exact e_vH dX8_findTaken_85 rfl hf
  · refine r_iconst (v := 0) dX8_findTaken_16 (by decide) ?_
    refine r_istore_nA dX8_findTaken_17 (by decide) ?_
    refine r_fix (σ := Int32 × Hp) (fun s5 => [some (.ref 66), some (.int x1_), some (.int s2.1), some (.int s5.1)]) (fun s5 => s5.2) (fun self6 ih7 s5 hf => ?_) F ((0 : Int32), s2.2) hf
    refine r_iload_n dX8_findTaken_18 rfl ?_
    refine r_aload_n dX8_findTaken_19 rfl ?_
    refine r_getI dX8_findTaken_20 sh_66 ft_X8_227 rfl ?_
    refine r_icmp_ge 79 dX8_findTaken_23 (by decide) hf (fun c20 hf => ?_) (fun c20 hf => ?_)
    · refine r_iincA (v := 1) dX8_findTaken_79 rfl (by decide) (by decide) ?_
      refine r_goto 8 dX8_findTaken_82 (by decide) ?_
      refine r_lt (ll_s (ll_s (ll_s (ll_n ll_0)))) ?_
      exact ih4 _ hf
    · refine r_aload_n dX8_findTaken_26 rfl ?_
      refine r_getS (b := 74) dX8_findTaken_27 sh_66 ft_X8_32 rfl rfl ?_
      refine r_iload_n dX8_findTaken_30 rfl ?_
      refine r_iald dX8_findTaken_31 sh_74 hf fun v8 hf => ?_
      refine r_iconst (v := 2) dX8_findTaken_32 (by decide) ?_
      refine r_reg (P := fun t9 => Run Y_X8_findTaken (VM 5 (none, r)) 73 [some (.ref 66), some (.int x1_), some (.int s2.1), some (.int s5.1)] [] t9) hf (fun t9 hf => ?_) (fun t9 key10 hf => ?_)
      · refine r_iincA (v := 1) dX8_findTaken_73 rfl (by decide) (by decide) ?_
        refine r_goto 18 dX8_findTaken_76 (by decide) ?_
        exact ih7 _ hf
      · refine r_icmp_ne 73 dX8_findTaken_33 (by decide) hf (fun c19 hf => ?_) (fun c19 hf => ?_)
        · cases hf; exact key10
        · refine r_aload_n dX8_findTaken_36 rfl ?_
          refine r_iload_n dX8_findTaken_37 rfl ?_
          refine r_iload_n dX8_findTaken_38 rfl ?_
          refine r_iload_n dX8_findTaken_39 rfl ?_
          obtain ⟨v11, hv, hf⟩ := bnd hf
          refine r_callV (lv := 2) dX8_findTaken_40 yo_X8_isChained yi_X8_isChained ml_X8_258 ya_X8_isChained sh_66 ⟨_, rfl, rfl⟩ (Fits.vm (by decide)) rfl rfl (Nat.le_of_ble_eq_true rfl) (S_X8_isChained s5.1 x1_ s2.1 s5.2  _ hv) ?_
          refine r_if_eq 73 dX8_findTaken_43 (by decide) hf (fun c18 hf => ?_) (fun c18 hf => ?_)
          · cases hf; exact key10
          · refine r_aload_n dX8_findTaken_46 rfl ?_
            refine r_iload_n dX8_findTaken_47 rfl ?_
            obtain ⟨v12, hv, hf⟩ := bnd hf
            refine r_callV (lv := 4) dX8_findTaken_48 yo_X8_isKeptChain yi_X8_isKeptChain ml_X8_252 ya_X8_isKeptChain sh_66 ⟨_, rfl, rfl⟩ (Fits.vm (by decide)) rfl rfl (Nat.le_of_ble_eq_true rfl) (S_X8_isKeptChain s5.1 s5.2  _ hv) ?_
            refine r_if_ne 73 dX8_findTaken_51 (by decide) hf (fun c17 hf => ?_) (fun c17 hf => ?_)
            · cases hf; exact key10
            · refine r_aload_n dX8_findTaken_54 rfl ?_
              refine r_aload_n dX8_findTaken_55 rfl ?_
              refine r_getI dX8_findTaken_56 sh_66 ft_X8_255 rfl ?_
              refine r_bipush (v := -9) dX8_findTaken_59 (by decide) ?_
              refine r_reg (P := fun t13 => Run Y_X8_findTaken (VM 5 (none, r)) 70 [some (.ref 66), some (.int x1_), some (.int s2.1), some (.int s5.1)] [.int t13, .ref 66] s5.2) hf (fun t13 hf => ?_) (fun t13 key14 hf => ?_)
              · refine r_putI dX8_findTaken_70 sh_66 ft_X8_255 rfl hf fun h16 hf => ?_
                cases hf; exact key10
              · refine r_icmp_ne 68 dX8_findTaken_61 (by decide) hf (fun c15 hf => ?_) (fun c15 hf => ?_)
                · refine r_bipush (v := -10) dX8_findTaken_68 (by decide) ?_
                  cases hf; exact key14
                · refine r_iload_n dX8_findTaken_64 rfl ?_
                  refine r_goto 70 dX8_findTaken_65 (by decide) ?_
                  cases hf; exact key14
