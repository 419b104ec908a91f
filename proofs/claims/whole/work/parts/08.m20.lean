def f_X8_count (F : Nat) (x1_ : Int32) (h : Hp) : Option Int32 :=
  (f_X8_in x1_ (0 : Int32) (9 : Int32) h).bind fun v1 =>
  (Option.bind (α := Int32) (
    (if v1 = 0 then (
      some (-1 : Int32))
    else (
      (f_X8_counted F x1_ h).bind fun v4 =>
      some v4))) fun t2 =>
  some t2)
set_option maxRecDepth 100000 in
set_option maxHeartbeats 4000000 in
theorem S_X8_count (F : Nat) (x1_ : Int32) (h : Hp) (r : Int32) (hf : f_X8_count F x1_ h = some r) : MetP Y_X8_count 3 [.ref 66, .int x1_] h (some (.int r), h) := by
  unfold f_X8_count at hf
  refine met_of yo_X8_count (Nat.le_of_ble_eq_true rfl) ?_
  show Run Y_X8_count _ 0 [some (.ref 66), some (.int x1_)] [] h
  refine r_iload_n dX8_count_0 rfl ?_
  refine r_iconst (v := 0) dX8_count_1 (by decide) ?_
  refine r_bipush (v := 9) dX8_count_2 (by decide) ?_
  obtain ⟨v1, hv, hf⟩ := bnd hf
  refine r_callS (lv := 1) dX8_count_4 yo_X8_in ys_X8_in ml_X8_133 ya_X8_in (Fits.vm (by decide)) rfl rfl (Nat.le_of_ble_eq_true rfl) (S_X8_in x1_ (0 : Int32) (9 : Int32) h  _ hv) ?_
  refine r_reg (P := fun t2 => Run Y_X8_count (VM 3 (some (.int r), h)) 19 [some (.ref 66), some (.int x1_)] [.int t2] h) hf (fun t2 hf => ?_) (fun t2 key3 hf => ?_)
  · exact e_iP dX8_count_19 rfl hf
  · refine r_if_eq 18 dX8_count_7 (by decide) hf (fun c5 hf => ?_) (fun c5 hf => ?_)
    · refine r_iconst (v := -1) dX8_count_18 (by decide) ?_
      cases hf; exact key3
    · refine r_aload_n dX8_count_10 rfl ?_
      refine r_iload_n dX8_count_11 rfl ?_
      obtain ⟨v4, hv, hf⟩ := bnd hf
      refine r_callV (lv := 2) dX8_count_12 yo_X8_counted yi_X8_counted ml_X8_417 ya_X8_counted sh_66 ⟨_, rfl, rfl⟩ (Fits.vm (by decide)) rfl rfl (Nat.le_of_ble_eq_true rfl) (S_X8_counted F x1_ h  _ hv) ?_
      refine r_goto 19 dX8_count_15 (by decide) ?_
      cases hf; exact key3
def f_X8_mix (x1_ : Int64) (h : Hp) : Option Hp :=
  nm (sL h 66 62 (((31 : Int64) * (gL h 66 62)) + x1_)) fun h1 =>
  some h1
set_option maxRecDepth 100000 in
set_option maxHeartbeats 4000000 in
theorem S_X8_mix (x1_ : Int64) (h : Hp) (r : Hp) (hf : f_X8_mix x1_ h = some r) : MetP Y_X8_mix 1 [.ref 66, .long x1_] h (none, r) := by
  unfold f_X8_mix at hf
  refine met_of yo_X8_mix (Nat.le_of_ble_eq_true rfl) ?_
  show Run Y_X8_mix _ 0 [some (.ref 66), some (.long x1_), none] [] h
  refine r_aload_n dX8_mix_0 rfl ?_
  refine r_ldc2 dX8_mix_1 cn_X8_420 ?_
  refine r_aload_n dX8_mix_4 rfl ?_
  refine r_getL dX8_mix_5 sh_66 ft_X8_422 rfl ?_
  refine r_lmul dX8_mix_8 ?_
  refine r_lload_n dX8_mix_9 rfl ?_
  refine r_ladd dX8_mix_10 ?_
  refine r_putL dX8_mix_11 sh_66 ft_X8_422 rfl hf fun h1 hf => ?_
  exact e_vH dX8_mix_14 rfl hf
def f_X8_mixYard (F : Nat)  (h : Hp) : Option Hp :=
  (f_X8_mix ((gI h 66 13)).toInt64 h).bind fun h1 =>
  fix (σ := Int32 × Hp) (ρ := Hp) (fun self3 s2 =>
    (f_X8_cellMany s2.2).bind fun v5 =>
    (if v5 ≤ s2.1 then (
      fix (σ := Int32 × Hp) (ρ := Hp) (fun self7 s6 =>
        (if (gI s6.2 66 10) ≤ s6.1 then (
          fix (σ := Int32 × Hp) (ρ := Hp) (fun self10 s9 =>
            (if (gI s9.2 66 11) ≤ s9.1 then (
              fix (σ := Int32 × Hp) (ρ := Hp) (fun self13 s12 =>
                (if (gI s12.2 66 56) ≤ s12.1 then (
                  fix (σ := Int32 × Hp) (ρ := Hp) (fun self16 s15 =>
                    (if (gI s15.2 66 32) ≤ s15.1 then (
                      fix (σ := Int32 × Hp) (ρ := Hp) (fun self19 s18 =>
                        (if (3 : Int32) ≤ s18.1 then (
                          some s18.2)
                        else (
                          (ldI s18.2 85 s18.1).bind fun v21 =>
                          (Option.bind (α := Int64) (
                            (if v21 = 0 then (
                              some (-1 : Int64))
                            else (
                              (ldI s18.2 86 s18.1).bind fun v24 =>
                              some (v24).toInt64))) fun t22 =>
                          (f_X8_mix t22 s18.2).bind fun h26 =>
                          self19 ((s18.1 + 1), h26))))) F ((0 : Int32), s15.2))
                    else (
                      (ldI s15.2 83 s15.1).bind fun v28 =>
                      (f_X8_mix (v28).toInt64 s15.2).bind fun h29 =>
                      self16 ((s15.1 + 1), h29)))) F ((0 : Int32), s12.2))
                else (
                  (ldI s12.2 102 s12.1).bind fun v31 =>
                  (f_X8_mix (v31).toInt64 s12.2).bind fun h32 =>
                  (ldI h32 103 s12.1).bind fun v33 =>
                  (f_X8_mix (v33).toInt64 h32).bind fun h34 =>
                  self13 ((s12.1 + 1), h34)))) F ((0 : Int32), s9.2))
            else (
              fix (σ := Int32 × Hp) (ρ := Hp) (fun self37 s36 =>
                (if (4 : Int32) ≤ s36.1 then (
                  self10 ((s9.1 + 1), s36.2))
                else (
                  (f_X8_chainTells F s9.1 s36.1 s36.2).bind fun v39 =>
                  (f_X8_mix (v39.1).toInt64 v39.2).bind fun h40 =>
                  self37 ((s36.1 + 1), h40)))) F ((0 : Int32), s9.2)))) F ((0 : Int32), s6.2))
        else (
          fix (σ := Int32 × Hp) (ρ := Hp) (fun self44 s43 =>
            (if (4 : Int32) ≤ s43.1 then (
              self7 ((s6.1 + 1), s43.2))
            else (
              (f_X8_manTells F s6.1 s43.1 s43.2).bind fun v46 =>
              (f_X8_mix (v46).toInt64 s43.2).bind fun h47 =>
              self44 ((s43.1 + 1), h47)))) F ((0 : Int32), s6.2)))) F ((0 : Int32), s2.2))
    else (
      (ldI s2.2 73 s2.1).bind fun v50 =>
      (f_X8_mix (v50).toInt64 s2.2).bind fun h51 =>
      self3 ((s2.1 + 1), h51)))) F ((0 : Int32), h1)
set_option maxRecDepth 100000 in
set_option maxHeartbeats 4000000 in
theorem S_X8_mixYard (F : Nat)  (h : Hp) (r : Hp) (hf : f_X8_mixYard F h = some r) : MetP Y_X8_mixYard 5 [.ref 66] h (none, r) := by
  unfold f_X8_mixYard at hf
  refine met_of yo_X8_mixYard (Nat.le_of_ble_eq_true rfl) ?_
  show Run Y_X8_mixYard _ 0 [some (.ref 66), none, none] [] h
  refine r_aload_n dX8_mixYard_0 rfl ?_
  refine r_aload_n dX8_mixYard_1 rfl ?_
  refine r_getI dX8_mixYard_2 sh_66 ft_X8_230 rfl ?_
  refine r_i2l dX8_mixYard_5 ?_
  obtain ⟨h1, hv, hf⟩ := bnd hf
  refine r_callV (lv := 1) dX8_mixYard_6 yo_X8_mix yi_X8_mix ml_X8_426 ya_X8_mix sh_66 ⟨_, rfl, rfl⟩ (Fits.vm (by decide)) rfl rfl (Nat.le_of_ble_eq_true rfl) (S_X8_mix ((gI h 66 13)).toInt64 h  _ hv) ?_
  refine r_iconst (v := 0) dX8_mixYard_9 (by decide) ?_
  refine r_istore_nA dX8_mixYard_10 (by decide) ?_
  refine r_fix (σ := Int32 × Hp) (fun s2 => [some (.ref 66), some (.int s2.1), none]) (fun s2 => s2.2) (fun self3 ih4 s2 hf => ?_) F ((0 : Int32), h1) hf
  refine r_iload_n dX8_mixYard_11 rfl ?_
  refine r_aload_n dX8_mixYard_12 rfl ?_
  obtain ⟨v5, hv, hf⟩ := bnd hf
  refine r_callV (lv := 1) dX8_mixYard_13 yo_X8_cellMany yi_X8_cellMany ml_X8_239 ya_X8_cellMany sh_66 ⟨_, rfl, rfl⟩ (Fits.vm (by decide)) rfl rfl (Nat.le_of_ble_eq_true rfl) (S_X8_cellMany  s2.2  _ hv) ?_
  refine r_icmp_ge 36 dX8_mixYard_16 (by decide) hf (fun c52 hf => ?_) (fun c52 hf => ?_)
  · refine r_iconst (v := 0) dX8_mixYard_36 (by decide) ?_
    refine r_istore_nA dX8_mixYard_37 (by decide) ?_
    refine r_fix (σ := Int32 × Hp) (fun s6 => [some (.ref 66), some (.int s6.1), none]) (fun s6 => s6.2) (fun self7 ih8 s6 hf => ?_) F ((0 : Int32), s2.2) hf
    refine r_iload_n dX8_mixYard_38 rfl ?_
    refine r_aload_n dX8_mixYard_39 rfl ?_
    refine r_getI dX8_mixYard_40 sh_66 ft_X8_221 rfl ?_
    refine r_icmp_ge 76 dX8_mixYard_43 (by decide) hf (fun c49 hf => ?_) (fun c49 hf => ?_)
    · refine r_iconst (v := 0) dX8_mixYard_76 (by decide) ?_
      refine r_istore_nA dX8_mixYard_77 (by decide) ?_
      refine r_fix (σ := Int32 × Hp) (fun s9 => [some (.ref 66), some (.int s9.1), none]) (fun s9 => s9.2) (fun self10 ih11 s9 hf => ?_) F ((0 : Int32), s6.2) hf
      refine r_iload_n dX8_mixYard_78 rfl ?_
      refine r_aload_n dX8_mixYard_79 rfl ?_
      refine r_getI dX8_mixYard_80 sh_66 ft_X8_227 rfl ?_
      refine r_icmp_ge 116 dX8_mixYard_83 (by decide) hf (fun c42 hf => ?_) (fun c42 hf => ?_)
      · refine r_iconst (v := 0) dX8_mixYard_116 (by decide) ?_
        refine r_istore_nA dX8_mixYard_117 (by decide) ?_
        refine r_fix (σ := Int32 × Hp) (fun s12 => [some (.ref 66), some (.int s12.1), none]) (fun s12 => s12.2) (fun self13 ih14 s12 hf => ?_) F ((0 : Int32), s9.2) hf
        refine r_iload_n dX8_mixYard_118 rfl ?_
        refine r_aload_n dX8_mixYard_119 rfl ?_
        refine r_getI dX8_mixYard_120 sh_66 ft_X8_236 rfl ?_
        refine r_icmp_ge 154 dX8_mixYard_123 (by decide) hf (fun c35 hf => ?_) (fun c35 hf => ?_)
        · refine r_iconst (v := 0) dX8_mixYard_154 (by decide) ?_
          refine r_istore_nA dX8_mixYard_155 (by decide) ?_
          refine r_fix (σ := Int32 × Hp) (fun s15 => [some (.ref 66), some (.int s15.1), none]) (fun s15 => s15.2) (fun self16 ih17 s15 hf => ?_) F ((0 : Int32), s12.2) hf
          refine r_iload_n dX8_mixYard_156 rfl ?_
          refine r_aload_n dX8_mixYard_157 rfl ?_
          refine r_getI dX8_mixYard_158 sh_66 ft_X8_233 rfl ?_
          refine r_icmp_ge 181 dX8_mixYard_161 (by decide) hf (fun c30 hf => ?_) (fun c30 hf => ?_)
          · refine r_iconst (v := 0) dX8_mixYard_181 (by decide) ?_
            refine r_istore_nA dX8_mixYard_182 (by decide) ?_
            refine r_fix (σ := Int32 × Hp) (fun s18 => [some (.ref 66), some (.int s18.1), none]) (fun s18 => s18.2) (fun self19 ih20 s18 hf => ?_) F ((0 : Int32), s15.2) hf
            refine r_iload_n dX8_mixYard_183 rfl ?_
            refine r_iconst (v := 3) dX8_mixYard_184 (by decide) ?_
            refine r_icmp_ge 220 dX8_mixYard_185 (by decide) hf (fun c27 hf => ?_) (fun c27 hf => ?_)
            · exact e_vH dX8_mixYard_220 rfl hf
            · refine r_aload_n dX8_mixYard_188 rfl ?_
              refine r_aload_n dX8_mixYard_189 rfl ?_
              refine r_getS (b := 85) dX8_mixYard_190 sh_66 ft_X8_65 rfl rfl ?_
              refine r_iload_n dX8_mixYard_193 rfl ?_
              refine r_zald dX8_mixYard_194 sh_85 hf fun v21 hf => ?_
              refine r_reg (P := fun t22 => Run Y_X8_mixYard (VM 5 (none, r)) 211 [some (.ref 66), some (.int s18.1), none] [.long t22, .ref 66] s18.2) hf (fun t22 hf => ?_) (fun t22 key23 hf => ?_)
              · obtain ⟨h26, hv, hf⟩ := bnd hf
                refine r_callV (lv := 1) dX8_mixYard_211 yo_X8_mix yi_X8_mix ml_X8_426 ya_X8_mix sh_66 ⟨_, rfl, rfl⟩ (Fits.vm (by decide)) rfl rfl (Nat.le_of_ble_eq_true rfl) (S_X8_mix t22 s18.2  _ hv) ?_
                refine r_iincA (v := 1) dX8_mixYard_214 rfl (by decide) (by decide) ?_
                refine r_goto 183 dX8_mixYard_217 (by decide) ?_
                exact ih20 _ hf
              · refine r_if_eq 208 dX8_mixYard_195 (by decide) hf (fun c25 hf => ?_) (fun c25 hf => ?_)
                · refine r_ldc2 dX8_mixYard_208 cn_X8_430 ?_
                  cases hf; exact key23
                · refine r_aload_n dX8_mixYard_198 rfl ?_
                  refine r_getS (b := 86) dX8_mixYard_199 sh_66 ft_X8_69 rfl rfl ?_
                  refine r_iload_n dX8_mixYard_202 rfl ?_
                  refine r_iald dX8_mixYard_203 sh_86 hf fun v24 hf => ?_
                  refine r_i2l dX8_mixYard_204 ?_
                  refine r_goto 211 dX8_mixYard_205 (by decide) ?_
                  cases hf; exact key23
          · refine r_aload_n dX8_mixYard_164 rfl ?_
            refine r_aload_n dX8_mixYard_165 rfl ?_
            refine r_getS (b := 83) dX8_mixYard_166 sh_66 ft_X8_59 rfl rfl ?_
            refine r_iload_n dX8_mixYard_169 rfl ?_
            refine r_iald dX8_mixYard_170 sh_83 hf fun v28 hf => ?_
            refine r_i2l dX8_mixYard_171 ?_
            obtain ⟨h29, hv, hf⟩ := bnd hf
            refine r_callV (lv := 1) dX8_mixYard_172 yo_X8_mix yi_X8_mix ml_X8_426 ya_X8_mix sh_66 ⟨_, rfl, rfl⟩ (Fits.vm (by decide)) rfl rfl (Nat.le_of_ble_eq_true rfl) (S_X8_mix (v28).toInt64 s15.2  _ hv) ?_
            refine r_iincA (v := 1) dX8_mixYard_175 rfl (by decide) (by decide) ?_
            refine r_goto 156 dX8_mixYard_178 (by decide) ?_
            exact ih17 _ hf
        · refine r_aload_n dX8_mixYard_126 rfl ?_
          refine r_aload_n dX8_mixYard_127 rfl ?_
          refine r_getS (b := 102) dX8_mixYard_128 sh_66 ft_X8_117 rfl rfl ?_
          refine r_iload_n dX8_mixYard_131 rfl ?_
          refine r_iald dX8_mixYard_132 sh_102 hf fun v31 hf => ?_
          refine r_i2l dX8_mixYard_133 ?_
          obtain ⟨h32, hv, hf⟩ := bnd hf
          refine r_callV (lv := 1) dX8_mixYard_134 yo_X8_mix yi_X8_mix ml_X8_426 ya_X8_mix sh_66 ⟨_, rfl, rfl⟩ (Fits.vm (by decide)) rfl rfl (Nat.le_of_ble_eq_true rfl) (S_X8_mix (v31).toInt64 s12.2  _ hv) ?_
          refine r_aload_n dX8_mixYard_137 rfl ?_
          refine r_aload_n dX8_mixYard_138 rfl ?_
          refine r_getS (b := 103) dX8_mixYard_139 sh_66 ft_X8_120 rfl rfl ?_
          refine r_iload_n dX8_mixYard_142 rfl ?_
          refine r_iald dX8_mixYard_143 sh_103 hf fun v33 hf => ?_
          refine r_i2l dX8_mixYard_144 ?_
          obtain ⟨h34, hv, hf⟩ := bnd hf
          refine r_callV (lv := 1) dX8_mixYard_145 yo_X8_mix yi_X8_mix ml_X8_426 ya_X8_mix sh_66 ⟨_, rfl, rfl⟩ (Fits.vm (by decide)) rfl rfl (Nat.le_of_ble_eq_true rfl) (S_X8_mix (v33).toInt64 h32  _ hv) ?_
          refine r_iincA (v := 1) dX8_mixYard_148 rfl (by decide) (by decide) ?_
          refine r_goto 118 dX8_mixYard_151 (by decide) ?_
          exact ih14 _ hf
      · refine r_iconst (v := 0) dX8_mixYard_86 (by decide) ?_
        refine r_istore_nA dX8_mixYard_87 (by decide) ?_
        refine r_fix (σ := Int32 × Hp) (fun s36 => [some (.ref 66), some (.int s9.1), some (.int s36.1)]) (fun s36 => s36.2) (fun self37 ih38 s36 hf => ?_) F ((0 : Int32), s9.2) hf
        refine r_iload_n dX8_mixYard_88 rfl ?_
        refine r_iconst (v := 4) dX8_mixYard_89 (by decide) ?_
        refine r_icmp_ge 110 dX8_mixYard_90 (by decide) hf (fun c41 hf => ?_) (fun c41 hf => ?_)
        · refine r_iincA (v := 1) dX8_mixYard_110 rfl (by decide) (by decide) ?_
          refine r_goto 78 dX8_mixYard_113 (by decide) ?_
          refine r_lt (ll_s (ll_s (ll_n ll_0))) ?_
          exact ih11 _ hf
        · refine r_aload_n dX8_mixYard_93 rfl ?_
          refine r_aload_n dX8_mixYard_94 rfl ?_
          refine r_iload_n dX8_mixYard_95 rfl ?_
          refine r_iload_n dX8_mixYard_96 rfl ?_
          obtain ⟨v39, hv, hf⟩ := bnd hf
          refine r_callV (lv := 4) dX8_mixYard_97 yo_X8_chainTells yi_X8_chainTells ml_X8_299 ya_X8_chainTells sh_66 ⟨_, rfl, rfl⟩ (Fits.vm (by decide)) rfl rfl (Nat.le_of_ble_eq_true rfl) (S_X8_chainTells F s9.1 s36.1 s36.2  _ hv) ?_
          refine r_i2l dX8_mixYard_100 ?_
          obtain ⟨h40, hv, hf⟩ := bnd hf
          refine r_callV (lv := 1) dX8_mixYard_101 yo_X8_mix yi_X8_mix ml_X8_426 ya_X8_mix sh_66 ⟨_, rfl, rfl⟩ (Fits.vm (by decide)) rfl rfl (Nat.le_of_ble_eq_true rfl) (S_X8_mix (v39.1).toInt64 v39.2  _ hv) ?_
          refine r_iincA (v := 1) dX8_mixYard_104 rfl (by decide) (by decide) ?_
          refine r_goto 88 dX8_mixYard_107 (by decide) ?_
          exact ih38 _ hf
    · refine r_iconst (v := 0) dX8_mixYard_46 (by decide) ?_
      refine r_istore_nA dX8_mixYard_47 (by decide) ?_
      refine r_fix (σ := Int32 × Hp) (fun s43 => [some (.ref 66), some (.int s6.1), some (.int s43.1)]) (fun s43 => s43.2) (fun self44 ih45 s43 hf => ?_) F ((0 : Int32), s6.2) hf
      refine r_iload_n dX8_mixYard_48 rfl ?_
      refine r_iconst (v := 4) dX8_mixYard_49 (by decide) ?_
      refine r_icmp_ge 70 dX8_mixYard_50 (by decide) hf (fun c48 hf => ?_) (fun c48 hf => ?_)
      · refine r_iincA (v := 1) dX8_mixYard_70 rfl (by decide) (by decide) ?_
        refine r_goto 38 dX8_mixYard_73 (by decide) ?_
        refine r_lt (ll_s (ll_s (ll_n ll_0))) ?_
        exact ih8 _ hf
      · refine r_aload_n dX8_mixYard_53 rfl ?_
        refine r_aload_n dX8_mixYard_54 rfl ?_
        refine r_iload_n dX8_mixYard_55 rfl ?_
        refine r_iload_n dX8_mixYard_56 rfl ?_
        obtain ⟨v46, hv, hf⟩ := bnd hf
        refine r_callV (lv := 3) dX8_mixYard_57 yo_X8_manTells yi_X8_manTells ml_X8_290 ya_X8_manTells sh_66 ⟨_, rfl, rfl⟩ (Fits.vm (by decide)) rfl rfl (Nat.le_of_ble_eq_true rfl) (S_X8_manTells F s6.1 s43.1 s43.2  _ hv) ?_
        refine r_i2l dX8_mixYard_60 ?_
        obtain ⟨h47, hv, hf⟩ := bnd hf
        refine r_callV (lv := 1) dX8_mixYard_61 yo_X8_mix yi_X8_mix ml_X8_426 ya_X8_mix sh_66 ⟨_, rfl, rfl⟩ (Fits.vm (by decide)) rfl rfl (Nat.le_of_ble_eq_true rfl) (S_X8_mix (v46).toInt64 s43.2  _ hv) ?_
        refine r_iincA (v := 1) dX8_mixYard_64 rfl (by decide) (by decide) ?_
        refine r_goto 48 dX8_mixYard_67 (by decide) ?_
        exact ih45 _ hf
  · refine r_aload_n dX8_mixYard_19 rfl ?_
    refine r_aload_n dX8_mixYard_20 rfl ?_
    refine r_getS (b := 73) dX8_mixYard_21 sh_66 ft_X8_29 rfl rfl ?_
    refine r_iload_n dX8_mixYard_24 rfl ?_
    refine r_iald dX8_mixYard_25 sh_73 hf fun v50 hf => ?_
    refine r_i2l dX8_mixYard_26 ?_
    obtain ⟨h51, hv, hf⟩ := bnd hf
    refine r_callV (lv := 1) dX8_mixYard_27 yo_X8_mix yi_X8_mix ml_X8_426 ya_X8_mix sh_66 ⟨_, rfl, rfl⟩ (Fits.vm (by decide)) rfl rfl (Nat.le_of_ble_eq_true rfl) (S_X8_mix (v50).toInt64 s2.2  _ hv) ?_
    refine r_iincA (v := 1) dX8_mixYard_30 rfl (by decide) (by decide) ?_
    refine r_goto 11 dX8_mixYard_33 (by decide) ?_
    exact ih4 _ hf
def f_X8_digest (F : Nat)  (h : Hp) : Option (Int64 × Hp) :=
  nm (sL h 66 62 (17 : Int64)) fun h1 =>
  fix (σ := Int32 × Hp) (ρ := (Int64 × Hp)) (fun self3 s2 =>
    (if (10 : Int32) ≤ s2.1 then (
      (f_X8_mixYard F s2.2).bind fun h5 =>
      fix (σ := Int32 × Hp) (ρ := (Int64 × Hp)) (fun self7 s6 =>
        (if (6 : Int32) ≤ s6.1 then (
          fix (σ := Int32 × Hp) (ρ := (Int64 × Hp)) (fun self10 s9 =>
            (if (4 : Int32) ≤ s9.1 then (
              some ((gL s9.2 66 62), s9.2))
            else (
              (ldI s9.2 71 s9.1).bind fun v12 =>
              (f_X8_mix (v12).toInt64 s9.2).bind fun h13 =>
              fix (σ := Int32 × Hp) (ρ := (Int64 × Hp)) (fun self15 s14 =>
                (ldI s14.2 71 s9.1).bind fun v17 =>
                (if v17 ≤ s14.1 then (
                  self10 ((s9.1 + 1), s14.2))
                else (
                  (f_X8_byteAt s9.1 s14.1 s14.2).bind fun v18 =>
                  (f_X8_mix (v18).toInt64 s14.2).bind fun h19 =>
                  self15 ((s14.1 + 1), h19)))) F ((0 : Int32), h13)))) F ((0 : Int32), s6.2))
        else (
          (ldI s6.2 68 s6.1).bind fun v22 =>
          (f_X8_mix (v22).toInt64 s6.2).bind fun h23 =>
          fix (σ := Int32 × Hp) (ρ := (Int64 × Hp)) (fun self25 s24 =>
            (ldI s24.2 68 s6.1).bind fun v27 =>
            (if v27 ≤ s24.1 then (
              self7 ((s6.1 + 1), s24.2))
            else (
              (f_X8_rowAt s6.1 s24.1 s24.2).bind fun v28 =>
              (f_X8_mix (v28).toInt64 s24.2).bind fun h29 =>
              self25 ((s24.1 + 1), h29)))) F ((0 : Int32), h23)))) F ((0 : Int32), h5))
    else (
      (f_X8_counted F s2.1 s2.2).bind fun v32 =>
      (f_X8_mix (v32).toInt64 s2.2).bind fun h33 =>
      self3 ((s2.1 + 1), h33)))) F ((0 : Int32), h1)
set_option maxRecDepth 100000 in
set_option maxHeartbeats 4000000 in
theorem S_X8_digest (F : Nat)  (h : Hp) (r : (Int64 × Hp)) (hf : f_X8_digest F h = some r) : MetP Y_X8_digest 6 [.ref 66] h (some (.long r.1), r.2) := by
  unfold f_X8_digest at hf
  refine met_of yo_X8_digest (Nat.le_of_ble_eq_true rfl) ?_
  show Run Y_X8_digest _ 0 [some (.ref 66), none, none] [] h
  refine r_aload_n dX8_digest_0 rfl ?_
  refine r_ldc2 dX8_digest_1 cn_X8_432 ?_
  refine r_putL dX8_digest_4 sh_66 ft_X8_422 rfl hf fun h1 hf => ?_
  refine r_iconst (v := 0) dX8_digest_7 (by decide) ?_
  refine r_istore_nA dX8_digest_8 (by decide) ?_
  refine r_fix (σ := Int32 × Hp) (fun s2 => [some (.ref 66), some (.int s2.1), none]) (fun s2 => s2.2) (fun self3 ih4 s2 hf => ?_) F ((0 : Int32), h1) hf
  refine r_iload_n dX8_digest_9 rfl ?_
  refine r_bipush (v := 10) dX8_digest_10 (by decide) ?_
  refine r_icmp_ge 31 dX8_digest_12 (by decide) hf (fun c34 hf => ?_) (fun c34 hf => ?_)
  · refine r_aload_n dX8_digest_31 rfl ?_
    obtain ⟨h5, hv, hf⟩ := bnd hf
    refine r_callV (lv := 5) dX8_digest_32 yo_X8_mixYard yi_X8_mixYard ml_X8_434 ya_X8_mixYard sh_66 ⟨_, rfl, rfl⟩ (Fits.vm (by decide)) rfl rfl (Nat.le_of_ble_eq_true rfl) (S_X8_mixYard F s2.2  _ hv) ?_
    refine r_iconst (v := 0) dX8_digest_35 (by decide) ?_
    refine r_istore_nA dX8_digest_36 (by decide) ?_
    refine r_fix (σ := Int32 × Hp) (fun s6 => [some (.ref 66), some (.int s6.1), none]) (fun s6 => s6.2) (fun self7 ih8 s6 hf => ?_) F ((0 : Int32), h5) hf
    refine r_iload_n dX8_digest_37 rfl ?_
    refine r_bipush (v := 6) dX8_digest_38 (by decide) ?_
    refine r_icmp_ge 89 dX8_digest_40 (by decide) hf (fun c31 hf => ?_) (fun c31 hf => ?_)
    · refine r_iconst (v := 0) dX8_digest_89 (by decide) ?_
      refine r_istore_nA dX8_digest_90 (by decide) ?_
      refine r_fix (σ := Int32 × Hp) (fun s9 => [some (.ref 66), some (.int s9.1), none]) (fun s9 => s9.2) (fun self10 ih11 s9 hf => ?_) F ((0 : Int32), s6.2) hf
      refine r_iload_n dX8_digest_91 rfl ?_
      refine r_iconst (v := 4) dX8_digest_92 (by decide) ?_
      refine r_icmp_ge 142 dX8_digest_93 (by decide) hf (fun c21 hf => ?_) (fun c21 hf => ?_)
      · refine r_aload_n dX8_digest_142 rfl ?_
        refine r_getL dX8_digest_143 sh_66 ft_X8_422 rfl ?_
        exact e_lH dX8_digest_146 rfl hf
      · refine r_aload_n dX8_digest_96 rfl ?_
        refine r_aload_n dX8_digest_97 rfl ?_
        refine r_getS (b := 71) dX8_digest_98 sh_66 ft_X8_22 rfl rfl ?_
        refine r_iload_n dX8_digest_101 rfl ?_
        refine r_iald dX8_digest_102 sh_71 hf fun v12 hf => ?_
        refine r_i2l dX8_digest_103 ?_
        obtain ⟨h13, hv, hf⟩ := bnd hf
        refine r_callV (lv := 1) dX8_digest_104 yo_X8_mix yi_X8_mix ml_X8_426 ya_X8_mix sh_66 ⟨_, rfl, rfl⟩ (Fits.vm (by decide)) rfl rfl (Nat.le_of_ble_eq_true rfl) (S_X8_mix (v12).toInt64 s9.2  _ hv) ?_
        refine r_iconst (v := 0) dX8_digest_107 (by decide) ?_
        refine r_istore_nA dX8_digest_108 (by decide) ?_
        refine r_fix (σ := Int32 × Hp) (fun s14 => [some (.ref 66), some (.int s9.1), some (.int s14.1)]) (fun s14 => s14.2) (fun self15 ih16 s14 hf => ?_) F ((0 : Int32), h13) hf
        refine r_iload_n dX8_digest_109 rfl ?_
        refine r_aload_n dX8_digest_110 rfl ?_
        refine r_getS (b := 71) dX8_digest_111 sh_66 ft_X8_22 rfl rfl ?_
        refine r_iload_n dX8_digest_114 rfl ?_
        refine r_iald dX8_digest_115 sh_71 hf fun v17 hf => ?_
        refine r_icmp_ge 136 dX8_digest_116 (by decide) hf (fun c20 hf => ?_) (fun c20 hf => ?_)
        · refine r_iincA (v := 1) dX8_digest_136 rfl (by decide) (by decide) ?_
          refine r_goto 91 dX8_digest_139 (by decide) ?_
          refine r_lt (ll_s (ll_s (ll_n ll_0))) ?_
          exact ih11 _ hf
        · refine r_aload_n dX8_digest_119 rfl ?_
          refine r_aload_n dX8_digest_120 rfl ?_
          refine r_iload_n dX8_digest_121 rfl ?_
          refine r_iload_n dX8_digest_122 rfl ?_
          obtain ⟨v18, hv, hf⟩ := bnd hf
          refine r_callV (lv := 1) dX8_digest_123 yo_X8_byteAt yi_X8_byteAt ml_X8_176 ya_X8_byteAt sh_66 ⟨_, rfl, rfl⟩ (Fits.vm (by decide)) rfl rfl (Nat.le_of_ble_eq_true rfl) (S_X8_byteAt s9.1 s14.1 s14.2  _ hv) ?_
          refine r_i2l dX8_digest_126 ?_
          obtain ⟨h19, hv, hf⟩ := bnd hf
          refine r_callV (lv := 1) dX8_digest_127 yo_X8_mix yi_X8_mix ml_X8_426 ya_X8_mix sh_66 ⟨_, rfl, rfl⟩ (Fits.vm (by decide)) rfl rfl (Nat.le_of_ble_eq_true rfl) (S_X8_mix (v18).toInt64 s14.2  _ hv) ?_
          refine r_iincA (v := 1) dX8_digest_130 rfl (by decide) (by decide) ?_
          refine r_goto 109 dX8_digest_133 (by decide) ?_
          exact ih16 _ hf
    · refine r_aload_n dX8_digest_43 rfl ?_
      refine r_aload_n dX8_digest_44 rfl ?_
      refine r_getS (b := 68) dX8_digest_45 sh_66 ft_X8_13 rfl rfl ?_
      refine r_iload_n dX8_digest_48 rfl ?_
      refine r_iald dX8_digest_49 sh_68 hf fun v22 hf => ?_
      refine r_i2l dX8_digest_50 ?_
      obtain ⟨h23, hv, hf⟩ := bnd hf
      refine r_callV (lv := 1) dX8_digest_51 yo_X8_mix yi_X8_mix ml_X8_426 ya_X8_mix sh_66 ⟨_, rfl, rfl⟩ (Fits.vm (by decide)) rfl rfl (Nat.le_of_ble_eq_true rfl) (S_X8_mix (v22).toInt64 s6.2  _ hv) ?_
      refine r_iconst (v := 0) dX8_digest_54 (by decide) ?_
      refine r_istore_nA dX8_digest_55 (by decide) ?_
      refine r_fix (σ := Int32 × Hp) (fun s24 => [some (.ref 66), some (.int s6.1), some (.int s24.1)]) (fun s24 => s24.2) (fun self25 ih26 s24 hf => ?_) F ((0 : Int32), h23) hf
      refine r_iload_n dX8_digest_56 rfl ?_
      refine r_aload_n dX8_digest_57 rfl ?_
      refine r_getS (b := 68) dX8_digest_58 sh_66 ft_X8_13 rfl rfl ?_
      refine r_iload_n dX8_digest_61 rfl ?_
      refine r_iald dX8_digest_62 sh_68 hf fun v27 hf => ?_
      refine r_icmp_ge 83 dX8_digest_63 (by decide) hf (fun c30 hf => ?_) (fun c30 hf => ?_)
      · refine r_iincA (v := 1) dX8_digest_83 rfl (by decide) (by decide) ?_
        refine r_goto 37 dX8_digest_86 (by decide) ?_
        refine r_lt (ll_s (ll_s (ll_n ll_0))) ?_
        exact ih8 _ hf
      · refine r_aload_n dX8_digest_66 rfl ?_
        refine r_aload_n dX8_digest_67 rfl ?_
        refine r_iload_n dX8_digest_68 rfl ?_
        refine r_iload_n dX8_digest_69 rfl ?_
        obtain ⟨v28, hv, hf⟩ := bnd hf
        refine r_callV (lv := 1) dX8_digest_70 yo_X8_rowAt yi_X8_rowAt ml_X8_148 ya_X8_rowAt sh_66 ⟨_, rfl, rfl⟩ (Fits.vm (by decide)) rfl rfl (Nat.le_of_ble_eq_true rfl) (S_X8_rowAt s6.1 s24.1 s24.2  _ hv) ?_
        refine r_i2l dX8_digest_73 ?_
        obtain ⟨h29, hv, hf⟩ := bnd hf
        refine r_callV (lv := 1) dX8_digest_74 yo_X8_mix yi_X8_mix ml_X8_426 ya_X8_mix sh_66 ⟨_, rfl, rfl⟩ (Fits.vm (by decide)) rfl rfl (Nat.le_of_ble_eq_true rfl) (S_X8_mix (v28).toInt64 s24.2  _ hv) ?_
        refine r_iincA (v := 1) dX8_digest_77 rfl (by decide) (by decide) ?_
        refine r_goto 56 dX8_digest_80 (by decide) ?_
        exact ih26 _ hf
  · refine r_aload_n dX8_digest_15 rfl ?_
    refine r_aload_n dX8_digest_16 rfl ?_
    refine r_iload_n dX8_digest_17 rfl ?_
    obtain ⟨v32, hv, hf⟩ := bnd hf
    refine r_callV (lv := 2) dX8_digest_18 yo_X8_counted yi_X8_counted ml_X8_417 ya_X8_counted sh_66 ⟨_, rfl, rfl⟩ (Fits.vm (by decide)) rfl rfl (Nat.le_of_ble_eq_true rfl) (S_X8_counted F s2.1 s2.2  _ hv) ?_
    refine r_i2l dX8_digest_21 ?_
    obtain ⟨h33, hv, hf⟩ := bnd hf
    refine r_callV (lv := 1) dX8_digest_22 yo_X8_mix yi_X8_mix ml_X8_426 ya_X8_mix sh_66 ⟨_, rfl, rfl⟩ (Fits.vm (by decide)) rfl rfl (Nat.le_of_ble_eq_true rfl) (S_X8_mix (v32).toInt64 s2.2  _ hv) ?_
    refine r_iincA (v := 1) dX8_digest_25 rfl (by decide) (by decide) ?_
    refine r_goto 9 dX8_digest_28 (by decide) ?_
    exact ih4 _ hf
