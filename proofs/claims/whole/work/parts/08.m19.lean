def f_X8_peace (x1_ : Int32) (h : Hp) : Option (Int32 × Hp) :=
  (f_X8_in x1_ (0 : Int32) (gI h 66 56) h).bind fun v1 =>
  (if v1 = 0 then (
    some ((-1 : Int32), h))
  else (
    nm (sI h 66 56 x1_) fun h2 =>
    some (((gI h 66 56) - x1_), h2)))
set_option maxRecDepth 100000 in
set_option maxHeartbeats 4000000 in
theorem S_X8_peace (x1_ : Int32) (h : Hp) (r : (Int32 × Hp)) (hf : f_X8_peace x1_ h = some r) : MetP Y_X8_peace 2 [.ref 66, .int x1_] h (some (.int r.1), r.2) := by
  unfold f_X8_peace at hf
  refine met_of yo_X8_peace (Nat.le_of_ble_eq_true rfl) ?_
  show Run Y_X8_peace _ 0 [some (.ref 66), some (.int x1_), none] [] h
  refine r_iload_n dX8_peace_0 rfl ?_
  refine r_iconst (v := 0) dX8_peace_1 (by decide) ?_
  refine r_aload_n dX8_peace_2 rfl ?_
  refine r_getI dX8_peace_3 sh_66 ft_X8_236 rfl ?_
  obtain ⟨v1, hv, hf⟩ := bnd hf
  refine r_callS (lv := 1) dX8_peace_6 yo_X8_in ys_X8_in ml_X8_133 ya_X8_in (Fits.vm (by decide)) rfl rfl (Nat.le_of_ble_eq_true rfl) (S_X8_in x1_ (0 : Int32) (gI h 66 56) h  _ hv) ?_
  refine r_if_ne 14 dX8_peace_9 (by decide) hf (fun c3 hf => ?_) (fun c3 hf => ?_)
  · refine r_aload_n dX8_peace_14 rfl ?_
    refine r_getI dX8_peace_15 sh_66 ft_X8_236 rfl ?_
    refine r_iload_n dX8_peace_18 rfl ?_
    refine r_isub dX8_peace_19 ?_
    refine r_istore_nA dX8_peace_20 (by decide) ?_
    refine r_aload_n dX8_peace_21 rfl ?_
    refine r_iload_n dX8_peace_22 rfl ?_
    refine r_putI dX8_peace_23 sh_66 ft_X8_236 rfl hf fun h2 hf => ?_
    refine r_iload_n dX8_peace_26 rfl ?_
    exact e_iH dX8_peace_27 rfl hf
  · refine r_iconst (v := -1) dX8_peace_12 (by decide) ?_
    exact e_iH dX8_peace_13 rfl hf
def f_X8_quarrelsNow (F : Nat)  (h : Hp) : Option Int32 :=
  fix (σ := Int32 × Int32) (ρ := Int32) (fun self2 s1 =>
    (if (gI h 66 56) ≤ s1.2 then (
      some s1.1)
    else (
      fix (σ := Int32 × Int32) (ρ := Int32) (fun self5 s4 =>
        (if (gI h 66 11) ≤ s4.2 then (
          self2 (s4.1, (s1.2 + 1)))
        else (
          (ldI h 104 s4.2).bind fun v7 =>
          (f_X8_otherEnd s4.2 h).bind fun v8 =>
          (ldI h 104 v8).bind fun v9 =>
          (ldI h 102 s1.2).bind fun v10 =>
          (Option.bind (α := Int32) (
            (if v10 = v7 then (
              (ldI h 103 s1.2).bind fun v17 =>
              (if v17 = v9 then (
                some (1 : Int32))
              else (
                (ldI h 102 s1.2).bind fun v18 =>
                (if v18 = v9 then (
                  (ldI h 103 s1.2).bind fun v19 =>
                  (if v19 = v7 then (
                    some (1 : Int32))
                  else (
                    some (0 : Int32))))
                else (
                  some (0 : Int32))))))
            else (
              (ldI h 102 s1.2).bind fun v13 =>
              (if v13 = v9 then (
                (ldI h 103 s1.2).bind fun v14 =>
                (if v14 = v7 then (
                  some (1 : Int32))
                else (
                  some (0 : Int32))))
              else (
                some (0 : Int32)))))) fun t11 =>
          self5 ((s4.1 + t11), (s4.2 + 1)))))) F (s1.1, (0 : Int32))))) F ((0 : Int32), (0 : Int32))
set_option maxRecDepth 100000 in
set_option maxHeartbeats 4000000 in
theorem S_X8_quarrelsNow (F : Nat)  (h : Hp) (r : Int32) (hf : f_X8_quarrelsNow F h = some r) : MetP Y_X8_quarrelsNow 2 [.ref 66] h (some (.int r), h) := by
  unfold f_X8_quarrelsNow at hf
  refine met_of yo_X8_quarrelsNow (Nat.le_of_ble_eq_true rfl) ?_
  show Run Y_X8_quarrelsNow _ 0 [some (.ref 66), none, none, none, none, none] [] h
  refine r_iconst (v := 0) dX8_quarrelsNow_0 (by decide) ?_
  refine r_istore_nA dX8_quarrelsNow_1 (by decide) ?_
  refine r_iconst (v := 0) dX8_quarrelsNow_2 (by decide) ?_
  refine r_istore_nA dX8_quarrelsNow_3 (by decide) ?_
  refine r_fix (σ := Int32 × Int32) (fun s1 => [some (.ref 66), some (.int s1.1), some (.int s1.2), none, none, none]) (fun s1 => h) (fun self2 ih3 s1 hf => ?_) F ((0 : Int32), (0 : Int32)) hf
  refine r_iload_n dX8_quarrelsNow_4 rfl ?_
  refine r_aload_n dX8_quarrelsNow_5 rfl ?_
  refine r_getI dX8_quarrelsNow_6 sh_66 ft_X8_236 rfl ?_
  refine r_icmp_ge 106 dX8_quarrelsNow_9 (by decide) hf (fun c25 hf => ?_) (fun c25 hf => ?_)
  · refine r_iload_n dX8_quarrelsNow_106 rfl ?_
    exact e_iP dX8_quarrelsNow_107 rfl hf
  · refine r_iconst (v := 0) dX8_quarrelsNow_12 (by decide) ?_
    refine r_istore_nA dX8_quarrelsNow_13 (by decide) ?_
    refine r_fix (σ := Int32 × Int32) (fun s4 => [some (.ref 66), some (.int s4.1), some (.int s1.2), some (.int s4.2), none, none]) (fun s4 => h) (fun self5 ih6 s4 hf => ?_) F (s1.1, (0 : Int32)) hf
    refine r_iload_n dX8_quarrelsNow_14 rfl ?_
    refine r_aload_n dX8_quarrelsNow_15 rfl ?_
    refine r_getI dX8_quarrelsNow_16 sh_66 ft_X8_227 rfl ?_
    refine r_icmp_ge 100 dX8_quarrelsNow_19 (by decide) hf (fun c24 hf => ?_) (fun c24 hf => ?_)
    · refine r_iincA (v := 1) dX8_quarrelsNow_100 rfl (by decide) (by decide) ?_
      refine r_goto 4 dX8_quarrelsNow_103 (by decide) ?_
      refine r_lt (ll_s (ll_s (ll_s (ll_n (ll_n (ll_n ll_0)))))) ?_
      exact ih3 _ hf
    · refine r_aload_n dX8_quarrelsNow_22 rfl ?_
      refine r_getS (b := 104) dX8_quarrelsNow_23 sh_66 ft_X8_123 rfl rfl ?_
      refine r_iload_n dX8_quarrelsNow_26 rfl ?_
      refine r_iald dX8_quarrelsNow_27 sh_104 hf fun v7 hf => ?_
      refine r_istoreA dX8_quarrelsNow_28 (by decide) ?_
      refine r_aload_n dX8_quarrelsNow_30 rfl ?_
      refine r_getS (b := 104) dX8_quarrelsNow_31 sh_66 ft_X8_123 rfl rfl ?_
      refine r_aload_n dX8_quarrelsNow_34 rfl ?_
      refine r_iload_n dX8_quarrelsNow_35 rfl ?_
      obtain ⟨v8, hv, hf⟩ := bnd hf
      refine r_callV (lv := 1) dX8_quarrelsNow_36 yo_X8_otherEnd yi_X8_otherEnd ml_X8_243 ya_X8_otherEnd sh_66 ⟨_, rfl, rfl⟩ (Fits.vm (by decide)) rfl rfl (Nat.le_of_ble_eq_true rfl) (S_X8_otherEnd s4.2 h  _ hv) ?_
      refine r_iald dX8_quarrelsNow_39 sh_104 hf fun v9 hf => ?_
      refine r_istoreA dX8_quarrelsNow_40 (by decide) ?_
      refine r_iload_n dX8_quarrelsNow_42 rfl ?_
      refine r_aload_n dX8_quarrelsNow_43 rfl ?_
      refine r_getS (b := 102) dX8_quarrelsNow_44 sh_66 ft_X8_117 rfl rfl ?_
      refine r_iload_n dX8_quarrelsNow_47 rfl ?_
      refine r_iald dX8_quarrelsNow_48 sh_102 hf fun v10 hf => ?_
      refine r_iload dX8_quarrelsNow_49 rfl ?_
      refine r_reg (P := fun t11 => Run Y_X8_quarrelsNow (VM 2 (some (.int r), h)) 92 [some (.ref 66), some (.int s4.1), some (.int s1.2), some (.int s4.2), some (.int v7), some (.int v9)] [.int t11, .int s4.1] h) hf (fun t11 hf => ?_) (fun t11 key12 hf => ?_)
      · refine r_iadd dX8_quarrelsNow_92 ?_
        refine r_istore_nA dX8_quarrelsNow_93 (by decide) ?_
        refine r_iincA (v := 1) dX8_quarrelsNow_94 rfl (by decide) (by decide) ?_
        refine r_goto 14 dX8_quarrelsNow_97 (by decide) ?_
        refine r_lt (ll_s (ll_s (ll_s (ll_s (ll_n (ll_n ll_0)))))) ?_
        exact ih6 _ hf
      · refine r_icmp_ne 65 dX8_quarrelsNow_51 (by decide) hf (fun c23 hf => ?_) (fun c23 hf => ?_)
        · refine r_aload_n dX8_quarrelsNow_65 rfl ?_
          refine r_getS (b := 102) dX8_quarrelsNow_66 sh_66 ft_X8_117 rfl rfl ?_
          refine r_iload_n dX8_quarrelsNow_69 rfl ?_
          refine r_iald dX8_quarrelsNow_70 sh_102 hf fun v13 hf => ?_
          refine r_iload dX8_quarrelsNow_71 rfl ?_
          refine r_icmp_ne 91 dX8_quarrelsNow_73 (by decide) hf (fun c16 hf => ?_) (fun c16 hf => ?_)
          · refine r_iconst (v := 0) dX8_quarrelsNow_91 (by decide) ?_
            cases hf; exact key12
          · refine r_aload_n dX8_quarrelsNow_76 rfl ?_
            refine r_getS (b := 103) dX8_quarrelsNow_77 sh_66 ft_X8_120 rfl rfl ?_
            refine r_iload_n dX8_quarrelsNow_80 rfl ?_
            refine r_iald dX8_quarrelsNow_81 sh_103 hf fun v14 hf => ?_
            refine r_iload dX8_quarrelsNow_82 rfl ?_
            refine r_icmp_ne 91 dX8_quarrelsNow_84 (by decide) hf (fun c15 hf => ?_) (fun c15 hf => ?_)
            · refine r_iconst (v := 0) dX8_quarrelsNow_91 (by decide) ?_
              cases hf; exact key12
            · refine r_iconst (v := 1) dX8_quarrelsNow_87 (by decide) ?_
              refine r_goto 92 dX8_quarrelsNow_88 (by decide) ?_
              cases hf; exact key12
        · refine r_aload_n dX8_quarrelsNow_54 rfl ?_
          refine r_getS (b := 103) dX8_quarrelsNow_55 sh_66 ft_X8_120 rfl rfl ?_
          refine r_iload_n dX8_quarrelsNow_58 rfl ?_
          refine r_iald dX8_quarrelsNow_59 sh_103 hf fun v17 hf => ?_
          refine r_iload dX8_quarrelsNow_60 rfl ?_
          refine r_icmp_eq 87 dX8_quarrelsNow_62 (by decide) hf (fun c22 hf => ?_) (fun c22 hf => ?_)
          · refine r_iconst (v := 1) dX8_quarrelsNow_87 (by decide) ?_
            refine r_goto 92 dX8_quarrelsNow_88 (by decide) ?_
            cases hf; exact key12
          · refine r_aload_n dX8_quarrelsNow_65 rfl ?_
            refine r_getS (b := 102) dX8_quarrelsNow_66 sh_66 ft_X8_117 rfl rfl ?_
            refine r_iload_n dX8_quarrelsNow_69 rfl ?_
            refine r_iald dX8_quarrelsNow_70 sh_102 hf fun v18 hf => ?_
            refine r_iload dX8_quarrelsNow_71 rfl ?_
            refine r_icmp_ne 91 dX8_quarrelsNow_73 (by decide) hf (fun c21 hf => ?_) (fun c21 hf => ?_)
            · refine r_iconst (v := 0) dX8_quarrelsNow_91 (by decide) ?_
              cases hf; exact key12
            · refine r_aload_n dX8_quarrelsNow_76 rfl ?_
              refine r_getS (b := 103) dX8_quarrelsNow_77 sh_66 ft_X8_120 rfl rfl ?_
              refine r_iload_n dX8_quarrelsNow_80 rfl ?_
              refine r_iald dX8_quarrelsNow_81 sh_103 hf fun v19 hf => ?_
              refine r_iload dX8_quarrelsNow_82 rfl ?_
              refine r_icmp_ne 91 dX8_quarrelsNow_84 (by decide) hf (fun c20 hf => ?_) (fun c20 hf => ?_)
              · refine r_iconst (v := 0) dX8_quarrelsNow_91 (by decide) ?_
                cases hf; exact key12
              · refine r_iconst (v := 1) dX8_quarrelsNow_87 (by decide) ?_
                refine r_goto 92 dX8_quarrelsNow_88 (by decide) ?_
                cases hf; exact key12
def f_X8_layChained (F : Nat) : Nat → Int32 → Int32 → Hp → Option Hp
  | 0, _, _, _ => none
  | D + 1, x1_, x2_, h =>
    (if x1_ = (gI h 66 10) then (
      (f_X8_quarrelsNow F h).bind fun v11 =>
      (if (gI h 66 61) ≤ v11 then (
        some h)
      else (
        nm (sI h 66 61 v11) fun h12 =>
        fix (σ := Int32 × Hp) (ρ := Hp) (fun self14 s13 =>
          (if (gI s13.2 66 10) ≤ s13.1 then (
            some s13.2)
          else (
            (ldI s13.2 104 s13.1).bind fun v16 =>
            (stI s13.2 105 s13.1 v16).bind fun h17 =>
            self14 ((s13.1 + 1), h17)))) F ((0 : Int32), h12))))
    else (
      fix (σ := Int32 × Hp) (ρ := Hp) (fun self2 s1 =>
        (if (gI s1.2 66 10) ≤ s1.1 then (
          some s1.2)
        else (
          (f_X8_has x2_ s1.1 s1.2).bind fun v4 =>
          (Option.bind (α := Hp) (
            (if v4 = 0 then (
              (stI s1.2 104 x1_ s1.1).bind fun h7 =>
              (f_X8_layChained F D (x1_ + (1 : Int32)) (x2_ ||| ((1 : Int32) <<< (s1.1 &&& 31))) h7).bind fun h8 =>
              some h8)
            else (
              some s1.2))) fun t5 =>
          self2 ((s1.1 + 1), t5))))) F ((0 : Int32), h)))
set_option maxRecDepth 100000 in
set_option maxHeartbeats 4000000 in
theorem S_X8_layChained (F : Nat) : ∀ (D : Nat) (x1_ : Int32) (x2_ : Int32) (h : Hp) (r : Hp), f_X8_layChained F D x1_ x2_ h = some r → MetP Y_X8_layChained (3 + D) [.ref 66, .int x1_, .int x2_] h (none, r)
  | 0, x1_, x2_, h, r, hf => by cases hf
  | D + 1, x1_, x2_, h, r, hf => by
    have ihD := S_X8_layChained F D
    unfold f_X8_layChained at hf
    refine met_of yo_X8_layChained (Nat.le_of_ble_eq_true rfl) ?_
    show Run Y_X8_layChained _ 0 [some (.ref 66), some (.int x1_), some (.int x2_), none, none] [] h
    refine r_iload_n dX8_layChained_0 rfl ?_
    refine r_aload_n dX8_layChained_1 rfl ?_
    refine r_getI dX8_layChained_2 sh_66 ft_X8_221 rfl ?_
    refine r_icmp_ne 59 dX8_layChained_5 (by decide) hf (fun c20 hf => ?_) (fun c20 hf => ?_)
    · refine r_iconst (v := 0) dX8_layChained_59 (by decide) ?_
      refine r_istore_nA dX8_layChained_60 (by decide) ?_
      refine r_fix (σ := Int32 × Hp) (fun s1 => [some (.ref 66), some (.int x1_), some (.int x2_), some (.int s1.1), none]) (fun s1 => s1.2) (fun self2 ih3 s1 hf => ?_) F ((0 : Int32), h) hf
      refine r_iload_n dX8_layChained_61 rfl ?_
      refine r_aload_n dX8_layChained_62 rfl ?_
      refine r_getI dX8_layChained_63 sh_66 ft_X8_221 rfl ?_
      refine r_icmp_ge 102 dX8_layChained_66 (by decide) hf (fun c10 hf => ?_) (fun c10 hf => ?_)
      · exact e_vH dX8_layChained_102 rfl hf
      · refine r_iload_n dX8_layChained_69 rfl ?_
        refine r_iload_n dX8_layChained_70 rfl ?_
        obtain ⟨v4, hv, hf⟩ := bnd hf
        refine r_callS (lv := 1) dX8_layChained_71 yo_X8_has ys_X8_has ml_X8_358 ya_X8_has (Fits.vm (by omega)) rfl rfl (Nat.le_of_ble_eq_true rfl) (S_X8_has x2_ s1.1 s1.2  _ hv) ?_
        refine r_reg (P := fun t5 => Run Y_X8_layChained (VM (3 + (D + 1)) (none, r)) 96 [some (.ref 66), some (.int x1_), some (.int x2_), some (.int s1.1), none] [] t5) hf (fun t5 hf => ?_) (fun t5 key6 hf => ?_)
        · refine r_iincA (v := 1) dX8_layChained_96 rfl (by decide) (by decide) ?_
          refine r_goto 61 dX8_layChained_99 (by decide) ?_
          exact ih3 _ hf
        · refine r_if_ne 96 dX8_layChained_74 (by decide) hf (fun c9 hf => ?_) (fun c9 hf => ?_)
          · cases hf; exact key6
          · refine r_aload_n dX8_layChained_77 rfl ?_
            refine r_getS (b := 104) dX8_layChained_78 sh_66 ft_X8_123 rfl rfl ?_
            refine r_iload_n dX8_layChained_81 rfl ?_
            refine r_iload_n dX8_layChained_82 rfl ?_
            refine r_iast dX8_layChained_83 sh_104 hf fun h7 hf => ?_
            refine r_aload_n dX8_layChained_84 rfl ?_
            refine r_iload_n dX8_layChained_85 rfl ?_
            refine r_iconst (v := 1) dX8_layChained_86 (by decide) ?_
            refine r_iadd dX8_layChained_87 ?_
            refine r_iload_n dX8_layChained_88 rfl ?_
            refine r_iconst (v := 1) dX8_layChained_89 (by decide) ?_
            refine r_iload_n dX8_layChained_90 rfl ?_
            refine r_ishl dX8_layChained_91 ?_
            refine r_ior dX8_layChained_92 ?_
            obtain ⟨h8, hv, hf⟩ := bnd hf
            refine r_callV (lv := (3 + D)) dX8_layChained_93 yo_X8_layChained yi_X8_layChained ml_X8_399 ya_X8_layChained sh_66 ⟨_, rfl, rfl⟩ (Fits.vm (by omega)) rfl rfl (Nat.le_of_ble_eq_true rfl) (ihD (x1_ + (1 : Int32)) (x2_ ||| ((1 : Int32) <<< (s1.1 &&& 31))) h7 _ hv) ?_
            cases hf; exact key6
    · refine r_aload_n dX8_layChained_8 rfl ?_
      obtain ⟨v11, hv, hf⟩ := bnd hf
      refine r_callV (lv := 2) dX8_layChained_9 yo_X8_quarrelsNow yi_X8_quarrelsNow ml_X8_393 ya_X8_quarrelsNow sh_66 ⟨_, rfl, rfl⟩ (Fits.vm (by omega)) rfl rfl (Nat.le_of_ble_eq_true rfl) (S_X8_quarrelsNow F h  _ hv) ?_
      refine r_istore_nA dX8_layChained_12 (by decide) ?_
      refine r_iload_n dX8_layChained_13 rfl ?_
      refine r_aload_n dX8_layChained_14 rfl ?_
      refine r_getI dX8_layChained_15 sh_66 ft_X8_396 rfl ?_
      refine r_icmp_ge 58 dX8_layChained_18 (by decide) hf (fun c19 hf => ?_) (fun c19 hf => ?_)
      · exact e_vH dX8_layChained_58 rfl hf
      · refine r_aload_n dX8_layChained_21 rfl ?_
        refine r_iload_n dX8_layChained_22 rfl ?_
        refine r_putI dX8_layChained_23 sh_66 ft_X8_396 rfl hf fun h12 hf => ?_
        refine r_iconst (v := 0) dX8_layChained_26 (by decide) ?_
        refine r_istoreA dX8_layChained_27 (by decide) ?_
        refine r_fix (σ := Int32 × Hp) (fun s13 => [some (.ref 66), some (.int x1_), some (.int x2_), some (.int v11), some (.int s13.1)]) (fun s13 => s13.2) (fun self14 ih15 s13 hf => ?_) F ((0 : Int32), h12) hf
        refine r_iload dX8_layChained_29 rfl ?_
        refine r_aload_n dX8_layChained_31 rfl ?_
        refine r_getI dX8_layChained_32 sh_66 ft_X8_221 rfl ?_
        refine r_icmp_ge 58 dX8_layChained_35 (by decide) hf (fun c18 hf => ?_) (fun c18 hf => ?_)
        · exact e_vH dX8_layChained_58 rfl hf
        · refine r_aload_n dX8_layChained_38 rfl ?_
          refine r_getS (b := 105) dX8_layChained_39 sh_66 ft_X8_126 rfl rfl ?_
          refine r_iload dX8_layChained_42 rfl ?_
          refine r_aload_n dX8_layChained_44 rfl ?_
          refine r_getS (b := 104) dX8_layChained_45 sh_66 ft_X8_123 rfl rfl ?_
          refine r_iload dX8_layChained_48 rfl ?_
          refine r_iald dX8_layChained_50 sh_104 hf fun v16 hf => ?_
          refine r_iast dX8_layChained_51 sh_105 hf fun h17 hf => ?_
          refine r_iincA (v := 1) dX8_layChained_52 rfl (by decide) (by decide) ?_
          refine r_goto 29 dX8_layChained_55 (by decide) ?_
          exact ih15 _ hf
def f_X8_easter (F : Nat) (x1_ : Int32) (h : Hp) : Option (Int32 × Hp) :=
  (f_X8_isRow x1_ h).bind fun v1 =>
  (if v1 = 0 then (
    some ((-1 : Int32), h))
  else (
    (if (gI h 66 10) = 0 then (
      some ((-4 : Int32), h))
    else (
      nm (sI h 66 61 (99999 : Int32)) fun h2 =>
      (f_X8_layChained F 7 (0 : Int32) (0 : Int32) h2).bind fun h3 =>
      (stI h3 68 x1_ (gI h3 66 10)).bind fun h4 =>
      fix (σ := Int32 × Hp) (ρ := (Int32 × Hp)) (fun self6 s5 =>
        (if (40 : Int32) ≤ s5.1 then (
          some ((gI s5.2 66 61), s5.2))
        else (
          (Option.bind (α := Int32) (
            (if (gI s5.2 66 10) ≤ s5.1 then (
              some (0 : Int32))
            else (
              (ldI s5.2 105 s5.1).bind fun v10 =>
              some v10))) fun t8 =>
          (stI s5.2 69 (((40 : Int32) * x1_) + s5.1) t8).bind fun h12 =>
          self6 ((s5.1 + 1), h12))))) F ((0 : Int32), h4)))))
set_option maxRecDepth 100000 in
set_option maxHeartbeats 4000000 in
theorem S_X8_easter (F : Nat) (x1_ : Int32) (h : Hp) (r : (Int32 × Hp)) (hf : f_X8_easter F x1_ h = some r) : MetP Y_X8_easter 11 [.ref 66, .int x1_] h (some (.int r.1), r.2) := by
  unfold f_X8_easter at hf
  refine met_of yo_X8_easter (Nat.le_of_ble_eq_true rfl) ?_
  show Run Y_X8_easter _ 0 [some (.ref 66), some (.int x1_), none] [] h
  refine r_iload_n dX8_easter_0 rfl ?_
  obtain ⟨v1, hv, hf⟩ := bnd hf
  refine r_callS (lv := 2) dX8_easter_1 yo_X8_isRow ys_X8_isRow ml_X8_140 ya_X8_isRow (Fits.vm (by decide)) rfl rfl (Nat.le_of_ble_eq_true rfl) (S_X8_isRow x1_ h  _ hv) ?_
  refine r_if_ne 9 dX8_easter_4 (by decide) hf (fun c15 hf => ?_) (fun c15 hf => ?_)
  · refine r_aload_n dX8_easter_9 rfl ?_
    refine r_getI dX8_easter_10 sh_66 ft_X8_221 rfl ?_
    refine r_if_ne 19 dX8_easter_13 (by decide) hf (fun c14 hf => ?_) (fun c14 hf => ?_)
    · refine r_aload_n dX8_easter_19 rfl ?_
      refine r_ldcw dX8_easter_20 cn_X8_383 ?_
      refine r_putI dX8_easter_23 sh_66 ft_X8_396 rfl hf fun h2 hf => ?_
      refine r_aload_n dX8_easter_26 rfl ?_
      refine r_iconst (v := 0) dX8_easter_27 (by decide) ?_
      refine r_iconst (v := 0) dX8_easter_28 (by decide) ?_
      obtain ⟨h3, hv, hf⟩ := bnd hf
      refine r_callV (lv := 10) dX8_easter_29 yo_X8_layChained yi_X8_layChained ml_X8_399 ya_X8_layChained sh_66 ⟨_, rfl, rfl⟩ (Fits.vm (by decide)) rfl rfl (Nat.le_of_ble_eq_true rfl) (S_X8_layChained F 7 (0 : Int32) (0 : Int32) h2  _ hv) ?_
      refine r_aload_n dX8_easter_32 rfl ?_
      refine r_getS (b := 68) dX8_easter_33 sh_66 ft_X8_13 rfl rfl ?_
      refine r_iload_n dX8_easter_36 rfl ?_
      refine r_aload_n dX8_easter_37 rfl ?_
      refine r_getI dX8_easter_38 sh_66 ft_X8_221 rfl ?_
      refine r_iast dX8_easter_41 sh_68 hf fun h4 hf => ?_
      refine r_iconst (v := 0) dX8_easter_42 (by decide) ?_
      refine r_istore_nA dX8_easter_43 (by decide) ?_
      refine r_fix (σ := Int32 × Hp) (fun s5 => [some (.ref 66), some (.int x1_), some (.int s5.1)]) (fun s5 => s5.2) (fun self6 ih7 s5 hf => ?_) F ((0 : Int32), h4) hf
      refine r_iload_n dX8_easter_44 rfl ?_
      refine r_bipush (v := 40) dX8_easter_45 (by decide) ?_
      refine r_icmp_ge 85 dX8_easter_47 (by decide) hf (fun c13 hf => ?_) (fun c13 hf => ?_)
      · refine r_aload_n dX8_easter_85 rfl ?_
        refine r_getI dX8_easter_86 sh_66 ft_X8_396 rfl ?_
        exact e_iH dX8_easter_89 rfl hf
      · refine r_aload_n dX8_easter_50 rfl ?_
        refine r_getS (b := 69) dX8_easter_51 sh_66 ft_X8_16 rfl rfl ?_
        refine r_bipush (v := 40) dX8_easter_54 (by decide) ?_
        refine r_iload_n dX8_easter_56 rfl ?_
        refine r_imul dX8_easter_57 ?_
        refine r_iload_n dX8_easter_58 rfl ?_
        refine r_iadd dX8_easter_59 ?_
        refine r_iload_n dX8_easter_60 rfl ?_
        refine r_aload_n dX8_easter_61 rfl ?_
        refine r_getI dX8_easter_62 sh_66 ft_X8_221 rfl ?_
        refine r_reg (P := fun t8 => Run Y_X8_easter (VM 11 (some (.int r.1), r.2)) 78 [some (.ref 66), some (.int x1_), some (.int s5.1)] [.int t8, .int (((40 : Int32) * x1_) + s5.1), .ref 69] s5.2) hf (fun t8 hf => ?_) (fun t8 key9 hf => ?_)
        · refine r_iast dX8_easter_78 sh_69 hf fun h12 hf => ?_
          refine r_iincA (v := 1) dX8_easter_79 rfl (by decide) (by decide) ?_
          refine r_goto 44 dX8_easter_82 (by decide) ?_
          exact ih7 _ hf
        · refine r_icmp_ge 77 dX8_easter_65 (by decide) hf (fun c11 hf => ?_) (fun c11 hf => ?_)
          · refine r_iconst (v := 0) dX8_easter_77 (by decide) ?_
            cases hf; exact key9
          · refine r_aload_n dX8_easter_68 rfl ?_
            refine r_getS (b := 105) dX8_easter_69 sh_66 ft_X8_126 rfl rfl ?_
            refine r_iload_n dX8_easter_72 rfl ?_
            refine r_iald dX8_easter_73 sh_105 hf fun v10 hf => ?_
            refine r_goto 78 dX8_easter_74 (by decide) ?_
            cases hf; exact key9
    · refine r_bipush (v := -4) dX8_easter_16 (by decide) ?_
      exact e_iH dX8_easter_18 rfl hf
  · refine r_iconst (v := -1) dX8_easter_7 (by decide) ?_
    exact e_iH dX8_easter_8 rfl hf
def f_X8_lots (F : Nat) (x1_ : Int32) (x2_ : Int32) (h : Hp) : Option (Int32 × Hp) :=
  (f_X8_in x1_ (1 : Int32) (60 : Int32) h).bind fun v1 =>
  (if v1 = 0 then (
    some ((-1 : Int32), h))
  else (
    (f_X8_in x2_ (1 : Int32) (2147483646 : Int32) h).bind fun v2 =>
    (if v2 = 0 then (
      some ((-1 : Int32), h))
    else (
      (if (gI h 66 10) = 0 then (
        some ((-4 : Int32), h))
      else (
        (if ((gI h 66 32) + x1_) ≤ (60 : Int32) then (
          fix (σ := Int64 × Int32 × Int32 × Hp) (ρ := (Int32 × Hp)) (fun self4 s3 =>
            (if x1_ ≤ s3.2.2.1 then (
              some (s3.2.1, s3.2.2.2))
            else (
              nm ((rem64 ((48271 : Int64) * s3.1) (2147483647 : Int64))) fun x6 =>
              (rmL x6 ((gI s3.2.2.2 66 10)).toInt64).bind fun v7 =>
              nm (((rem64 (x6 / (64 : Int64)) (4 : Int64))).toInt32) fun x8 =>
              (f_X8_lookAtNow F s3.2.2.2).bind fun h9 =>
              (f_X8_steps F (v7).toInt32 x8 h9).bind fun v10 =>
              (Option.bind (α := Int32 × Hp) (
                (if v10.1 = 0 then (
                  some (s3.2.1, v10.2))
                else (
                  (f_X8_takeLook F (((10 : Int32) * (v7).toInt32) + x8) v10.2).bind fun h13 =>
                  some ((s3.2.1 + 1), h13)))) fun t11 =>
              self4 (x6, t11.1, (s3.2.2.1 + 1), t11.2))))) F ((x2_).toInt64, (0 : Int32), (0 : Int32), h))
        else (
          some ((-2 : Int32), h)))))))))
set_option maxRecDepth 100000 in
set_option maxHeartbeats 4000000 in
theorem S_X8_lots (F : Nat) (x1_ : Int32) (x2_ : Int32) (h : Hp) (r : (Int32 × Hp)) (hf : f_X8_lots F x1_ x2_ h = some r) : MetP Y_X8_lots 7 [.ref 66, .int x1_, .int x2_] h (some (.int r.1), r.2) := by
  unfold f_X8_lots at hf
  refine met_of yo_X8_lots (Nat.le_of_ble_eq_true rfl) ?_
  show Run Y_X8_lots _ 0 [some (.ref 66), some (.int x1_), some (.int x2_), none, none, none, none, none, none] [] h
  refine r_iload_n dX8_lots_0 rfl ?_
  refine r_iconst (v := 1) dX8_lots_1 (by decide) ?_
  refine r_bipush (v := 60) dX8_lots_2 (by decide) ?_
  obtain ⟨v1, hv, hf⟩ := bnd hf
  refine r_callS (lv := 1) dX8_lots_4 yo_X8_in ys_X8_in ml_X8_133 ya_X8_in (Fits.vm (by decide)) rfl rfl (Nat.le_of_ble_eq_true rfl) (S_X8_in x1_ (1 : Int32) (60 : Int32) h  _ hv) ?_
  refine r_if_eq 21 dX8_lots_7 (by decide) hf (fun c19 hf => ?_) (fun c19 hf => ?_)
  · refine r_iconst (v := -1) dX8_lots_21 (by decide) ?_
    exact e_iH dX8_lots_22 rfl hf
  · refine r_iload_n dX8_lots_10 rfl ?_
    refine r_iconst (v := 1) dX8_lots_11 (by decide) ?_
    refine r_ldcw dX8_lots_12 cn_X8_402 ?_
    obtain ⟨v2, hv, hf⟩ := bnd hf
    refine r_callS (lv := 1) dX8_lots_15 yo_X8_in ys_X8_in ml_X8_133 ya_X8_in (Fits.vm (by decide)) rfl rfl (Nat.le_of_ble_eq_true rfl) (S_X8_in x2_ (1 : Int32) (2147483646 : Int32) h  _ hv) ?_
    refine r_if_ne 23 dX8_lots_18 (by decide) hf (fun c18 hf => ?_) (fun c18 hf => ?_)
    · refine r_aload_n dX8_lots_23 rfl ?_
      refine r_getI dX8_lots_24 sh_66 ft_X8_221 rfl ?_
      refine r_if_ne 33 dX8_lots_27 (by decide) hf (fun c17 hf => ?_) (fun c17 hf => ?_)
      · refine r_aload_n dX8_lots_33 rfl ?_
        refine r_getI dX8_lots_34 sh_66 ft_X8_233 rfl ?_
        refine r_iload_n dX8_lots_37 rfl ?_
        refine r_iadd dX8_lots_38 ?_
        refine r_bipush (v := 60) dX8_lots_39 (by decide) ?_
        refine r_icmp_le 47 dX8_lots_41 (by decide) hf (fun c16 hf => ?_) (fun c16 hf => ?_)
        · refine r_iload_n dX8_lots_47 rfl ?_
          refine r_i2l dX8_lots_48 ?_
          refine r_lstore_nA dX8_lots_49 (by decide) ?_
          refine r_iconst (v := 0) dX8_lots_50 (by decide) ?_
          refine r_istoreA dX8_lots_51 (by decide) ?_
          refine r_iconst (v := 0) dX8_lots_53 (by decide) ?_
          refine r_istoreA dX8_lots_54 (by decide) ?_
          refine r_fix (σ := Int64 × Int32 × Int32 × Hp) (fun s3 => [some (.ref 66), some (.int x1_), some (.int x2_), some (.long s3.1), none, some (.int s3.2.1), some (.int s3.2.2.1), none, none]) (fun s3 => s3.2.2.2) (fun self4 ih5 s3 hf => ?_) F ((x2_).toInt64, (0 : Int32), (0 : Int32), h) hf
          refine r_iload dX8_lots_56 rfl ?_
          refine r_iload_n dX8_lots_58 rfl ?_
          refine r_icmp_ge 130 dX8_lots_59 (by decide) hf (fun c15 hf => ?_) (fun c15 hf => ?_)
          · refine r_iload dX8_lots_130 rfl ?_
            exact e_iH dX8_lots_132 rfl hf
          · refine r_ldc2 dX8_lots_62 cn_X8_403 ?_
            refine r_lload_n dX8_lots_65 rfl ?_
            refine r_lmul dX8_lots_66 ?_
            refine r_ldc2 dX8_lots_67 cn_X8_405 ?_
            refine r_lremK dX8_lots_70 (by decide) ?_
            refine r_lstore_n dX8_lots_71 (by decide) hf fun x6 hf => ?_
            refine r_lload_n dX8_lots_72 rfl ?_
            refine r_aload_n dX8_lots_73 rfl ?_
            refine r_getI dX8_lots_74 sh_66 ft_X8_221 rfl ?_
            refine r_i2l dX8_lots_77 ?_
            refine r_lrem dX8_lots_78 hf fun v7 hf => ?_
            refine r_l2i dX8_lots_79 ?_
            refine r_istoreA dX8_lots_80 (by decide) ?_
            refine r_lload_n dX8_lots_82 rfl ?_
            refine r_ldc2 dX8_lots_83 cn_X8_407 ?_
            refine r_ldivK dX8_lots_86 (by decide) ?_
            refine r_ldc2 dX8_lots_87 cn_X8_409 ?_
            refine r_lremK dX8_lots_90 (by decide) ?_
            refine r_l2i dX8_lots_91 ?_
            refine r_istore dX8_lots_92 (by decide) hf fun x8 hf => ?_
            refine r_aload_n dX8_lots_94 rfl ?_
            obtain ⟨h9, hv, hf⟩ := bnd hf
            refine r_callV (lv := 1) dX8_lots_95 yo_X8_lookAtNow yi_X8_lookAtNow ml_X8_293 ya_X8_lookAtNow sh_66 ⟨_, rfl, rfl⟩ (Fits.vm (by decide)) rfl rfl (Nat.le_of_ble_eq_true rfl) (S_X8_lookAtNow F s3.2.2.2  _ hv) ?_
            refine r_aload_n dX8_lots_98 rfl ?_
            refine r_iload dX8_lots_99 rfl ?_
            refine r_iload dX8_lots_101 rfl ?_
            obtain ⟨v10, hv, hf⟩ := bnd hf
            refine r_callV (lv := 6) dX8_lots_103 yo_X8_steps yi_X8_steps ml_X8_317 ya_X8_steps sh_66 ⟨_, rfl, rfl⟩ (Fits.vm (by decide)) rfl rfl (Nat.le_of_ble_eq_true rfl) (S_X8_steps F (v7).toInt32 x8 h9  _ hv) ?_
            refine r_reg (P := fun t11 => Run Y_X8_lots (VM 7 (some (.int r.1), r.2)) 124 [some (.ref 66), some (.int x1_), some (.int x2_), some (.long x6), none, some (.int t11.1), some (.int s3.2.2.1), some (.int (v7).toInt32), some (.int x8)] [] t11.2) hf (fun t11 hf => ?_) (fun t11 key12 hf => ?_)
            · refine r_iincA (v := 1) dX8_lots_124 rfl (by decide) (by decide) ?_
              refine r_goto 56 dX8_lots_127 (by decide) ?_
              refine r_lt (ll_s (ll_s (ll_s (ll_s (ll_n (ll_s (ll_s (ll_n (ll_n ll_0))))))))) ?_
              exact ih5 _ hf
            · refine r_if_eq 124 dX8_lots_106 (by decide) hf (fun c14 hf => ?_) (fun c14 hf => ?_)
              · cases hf; exact key12
              · refine r_aload_n dX8_lots_109 rfl ?_
                refine r_bipush (v := 10) dX8_lots_110 (by decide) ?_
                refine r_iload dX8_lots_112 rfl ?_
                refine r_imul dX8_lots_114 ?_
                refine r_iload dX8_lots_115 rfl ?_
                refine r_iadd dX8_lots_117 ?_
                obtain ⟨h13, hv, hf⟩ := bnd hf
                refine r_callV (lv := 1) dX8_lots_118 yo_X8_takeLook yi_X8_takeLook ml_X8_320 ya_X8_takeLook sh_66 ⟨_, rfl, rfl⟩ (Fits.vm (by decide)) rfl rfl (Nat.le_of_ble_eq_true rfl) (S_X8_takeLook F (((10 : Int32) * (v7).toInt32) + x8) v10.2  _ hv) ?_
                refine r_iincA (v := 1) dX8_lots_121 rfl (by decide) (by decide) ?_
                cases hf; exact key12
        · refine r_bipush (v := -2) dX8_lots_44 (by decide) ?_
          exact e_iH dX8_lots_46 rfl hf
      · refine r_bipush (v := -4) dX8_lots_30 (by decide) ?_
        exact e_iH dX8_lots_32 rfl hf
    · refine r_iconst (v := -1) dX8_lots_21 (by decide) ?_
      exact e_iH dX8_lots_22 rfl hf
def f_X8_stepsNow (F : Nat)  (h : Hp) : Option (Int32 × Hp) :=
  fix (σ := Int32 × Int32 × Hp) (ρ := (Int32 × Hp)) (fun self2 s1 =>
    (if (gI s1.2.2 66 10) ≤ s1.2.1 then (
      some (s1.1, s1.2.2))
    else (
      (f_X8_waysOf F s1.2.1 s1.2.2).bind fun v4 =>
      (f_X8_bits F v4.1 v4.2).bind fun v5 =>
      self2 ((s1.1 + v5), (s1.2.1 + 1), v4.2)))) F ((0 : Int32), (0 : Int32), h)
set_option maxRecDepth 100000 in
set_option maxHeartbeats 4000000 in
theorem S_X8_stepsNow (F : Nat)  (h : Hp) (r : (Int32 × Hp)) (hf : f_X8_stepsNow F h = some r) : MetP Y_X8_stepsNow 8 [.ref 66] h (some (.int r.1), r.2) := by
  unfold f_X8_stepsNow at hf
  refine met_of yo_X8_stepsNow (Nat.le_of_ble_eq_true rfl) ?_
  show Run Y_X8_stepsNow _ 0 [some (.ref 66), none, none] [] h
  refine r_iconst (v := 0) dX8_stepsNow_0 (by decide) ?_
  refine r_istore_nA dX8_stepsNow_1 (by decide) ?_
  refine r_iconst (v := 0) dX8_stepsNow_2 (by decide) ?_
  refine r_istore_nA dX8_stepsNow_3 (by decide) ?_
  refine r_fix (σ := Int32 × Int32 × Hp) (fun s1 => [some (.ref 66), some (.int s1.1), some (.int s1.2.1)]) (fun s1 => s1.2.2) (fun self2 ih3 s1 hf => ?_) F ((0 : Int32), (0 : Int32), h) hf
  refine r_iload_n dX8_stepsNow_4 rfl ?_
  refine r_aload_n dX8_stepsNow_5 rfl ?_
  refine r_getI dX8_stepsNow_6 sh_66 ft_X8_221 rfl ?_
  refine r_icmp_ge 29 dX8_stepsNow_9 (by decide) hf (fun c6 hf => ?_) (fun c6 hf => ?_)
  · refine r_iload_n dX8_stepsNow_29 rfl ?_
    exact e_iH dX8_stepsNow_30 rfl hf
  · refine r_iload_n dX8_stepsNow_12 rfl ?_
    refine r_aload_n dX8_stepsNow_13 rfl ?_
    refine r_iload_n dX8_stepsNow_14 rfl ?_
    obtain ⟨v4, hv, hf⟩ := bnd hf
    refine r_callV (lv := 7) dX8_stepsNow_15 yo_X8_waysOf yi_X8_waysOf ml_X8_305 ya_X8_waysOf sh_66 ⟨_, rfl, rfl⟩ (Fits.vm (by decide)) rfl rfl (Nat.le_of_ble_eq_true rfl) (S_X8_waysOf F s1.2.1 s1.2.2  _ hv) ?_
    obtain ⟨v5, hv, hf⟩ := bnd hf
    refine r_callS (lv := 1) dX8_stepsNow_18 yo_X8_bits ys_X8_bits ml_X8_308 ya_X8_bits (Fits.vm (by decide)) rfl rfl (Nat.le_of_ble_eq_true rfl) (S_X8_bits F v4.1 v4.2  _ hv) ?_
    refine r_iadd dX8_stepsNow_21 ?_
    refine r_istore_nA dX8_stepsNow_22 (by decide) ?_
    refine r_iincA (v := 1) dX8_stepsNow_23 rfl (by decide) (by decide) ?_
    refine r_goto 4 dX8_stepsNow_26 (by decide) ?_
    exact ih3 _ hf
def f_X8_common (F : Nat)  (h : Hp) : Option (Int32 × Hp) :=
  (f_X8_stepsNow F h).bind fun v1 =>
  nm (((4 : Int32) * (gI v1.2 66 10))) fun x2 =>
  fix (σ := Int32 × Int32) (ρ := (Int32 × Hp)) (fun self4 s3 =>
    (if s3.2 = 0 then (
      some (s3.1, v1.2))
    else (
      (rmI s3.1 s3.2).bind fun v6 =>
      self4 (s3.2, v6)))) F (v1.1, x2)
set_option maxRecDepth 100000 in
set_option maxHeartbeats 4000000 in
theorem S_X8_common (F : Nat)  (h : Hp) (r : (Int32 × Hp)) (hf : f_X8_common F h = some r) : MetP Y_X8_common 9 [.ref 66] h (some (.int r.1), r.2) := by
  unfold f_X8_common at hf
  refine met_of yo_X8_common (Nat.le_of_ble_eq_true rfl) ?_
  show Run Y_X8_common _ 0 [some (.ref 66), none, none, none] [] h
  refine r_aload_n dX8_common_0 rfl ?_
  obtain ⟨v1, hv, hf⟩ := bnd hf
  refine r_callV (lv := 8) dX8_common_1 yo_X8_stepsNow yi_X8_stepsNow ml_X8_411 ya_X8_stepsNow sh_66 ⟨_, rfl, rfl⟩ (Fits.vm (by decide)) rfl rfl (Nat.le_of_ble_eq_true rfl) (S_X8_stepsNow F h  _ hv) ?_
  refine r_istore_nA dX8_common_4 (by decide) ?_
  refine r_iconst (v := 4) dX8_common_5 (by decide) ?_
  refine r_aload_n dX8_common_6 rfl ?_
  refine r_getI dX8_common_7 sh_66 ft_X8_221 rfl ?_
  refine r_imul dX8_common_10 ?_
  refine r_istore_n dX8_common_11 (by decide) hf fun x2 hf => ?_
  refine r_fix (σ := Int32 × Int32) (fun s3 => [some (.ref 66), some (.int s3.1), some (.int s3.2), none]) (fun s3 => v1.2) (fun self4 ih5 s3 hf => ?_) F (v1.1, x2) hf
  refine r_iload_n dX8_common_12 rfl ?_
  refine r_if_eq 27 dX8_common_13 (by decide) hf (fun c7 hf => ?_) (fun c7 hf => ?_)
  · refine r_iload_n dX8_common_27 rfl ?_
    exact e_iH dX8_common_28 rfl hf
  · refine r_iload_n dX8_common_16 rfl ?_
    refine r_iload_n dX8_common_17 rfl ?_
    refine r_irem dX8_common_18 hf fun v6 hf => ?_
    refine r_istore_nA dX8_common_19 (by decide) ?_
    refine r_iload_n dX8_common_20 rfl ?_
    refine r_istore_nA dX8_common_21 (by decide) ?_
    refine r_iload_n dX8_common_22 rfl ?_
    refine r_istore_nA dX8_common_23 (by decide) ?_
    refine r_goto 12 dX8_common_24 (by decide) ?_
    refine r_lt (ll_s (ll_s (ll_s (ll_n ll_0)))) ?_
    exact ih5 _ hf
def f_X8_upper (F : Nat)  (h : Hp) : Option (Int64 × Hp) :=
  (Option.bind (α := Int64 × Hp) (
    (if (gI h 66 10) = 0 then (
      some ((0 : Int64), h))
    else (
      (f_X8_stepsNow F h).bind fun v3 =>
      (f_X8_common F v3.2).bind fun v4 =>
      (dvI v3.1 v4.1).bind fun v5 =>
      some ((v5).toInt64, v4.2)))) fun t1 =>
  some (t1.1, t1.2))
set_option maxRecDepth 100000 in
set_option maxHeartbeats 4000000 in
theorem S_X8_upper (F : Nat)  (h : Hp) (r : (Int64 × Hp)) (hf : f_X8_upper F h = some r) : MetP Y_X8_upper 10 [.ref 66] h (some (.long r.1), r.2) := by
  unfold f_X8_upper at hf
  refine met_of yo_X8_upper (Nat.le_of_ble_eq_true rfl) ?_
  show Run Y_X8_upper _ 0 [some (.ref 66)] [] h
  refine r_aload_n dX8_upper_0 rfl ?_
  refine r_getI dX8_upper_1 sh_66 ft_X8_221 rfl ?_
  refine r_reg (P := fun t1 => Run Y_X8_upper (VM 10 (some (.long r.1), r.2)) 21 [some (.ref 66)] [.long t1.1] t1.2) hf (fun t1 hf => ?_) (fun t1 key2 hf => ?_)
  · exact e_lH dX8_upper_21 rfl hf
  · refine r_if_ne 11 dX8_upper_4 (by decide) hf (fun c6 hf => ?_) (fun c6 hf => ?_)
    · refine r_aload_n dX8_upper_11 rfl ?_
      obtain ⟨v3, hv, hf⟩ := bnd hf
      refine r_callV (lv := 8) dX8_upper_12 yo_X8_stepsNow yi_X8_stepsNow ml_X8_411 ya_X8_stepsNow sh_66 ⟨_, rfl, rfl⟩ (Fits.vm (by decide)) rfl rfl (Nat.le_of_ble_eq_true rfl) (S_X8_stepsNow F h  _ hv) ?_
      refine r_aload_n dX8_upper_15 rfl ?_
      obtain ⟨v4, hv, hf⟩ := bnd hf
      refine r_callV (lv := 9) dX8_upper_16 yo_X8_common yi_X8_common ml_X8_414 ya_X8_common sh_66 ⟨_, rfl, rfl⟩ (Fits.vm (by decide)) rfl rfl (Nat.le_of_ble_eq_true rfl) (S_X8_common F v3.2  _ hv) ?_
      refine r_idiv dX8_upper_19 hf fun v5 hf => ?_
      refine r_i2l dX8_upper_20 ?_
      cases hf; exact key2
    · refine r_lconst (v := 0) dX8_upper_7 (by decide) ?_
      refine r_goto 21 dX8_upper_8 (by decide) ?_
      cases hf; exact key2
def f_X8_lower (F : Nat)  (h : Hp) : Option (Int64 × Hp) :=
  (Option.bind (α := Int64 × Hp) (
    (if (gI h 66 10) = 0 then (
      some ((1 : Int64), h))
    else (
      (f_X8_common F h).bind fun v3 =>
      (dvI ((4 : Int32) * (gI h 66 10)) v3.1).bind fun v4 =>
      some ((v4).toInt64, v3.2)))) fun t1 =>
  some (t1.1, t1.2))
set_option maxRecDepth 100000 in
set_option maxHeartbeats 4000000 in
theorem S_X8_lower (F : Nat)  (h : Hp) (r : (Int64 × Hp)) (hf : f_X8_lower F h = some r) : MetP Y_X8_lower 10 [.ref 66] h (some (.long r.1), r.2) := by
  unfold f_X8_lower at hf
  refine met_of yo_X8_lower (Nat.le_of_ble_eq_true rfl) ?_
  show Run Y_X8_lower _ 0 [some (.ref 66)] [] h
  refine r_aload_n dX8_lower_0 rfl ?_
  refine r_getI dX8_lower_1 sh_66 ft_X8_221 rfl ?_
  refine r_reg (P := fun t1 => Run Y_X8_lower (VM 10 (some (.long r.1), r.2)) 23 [some (.ref 66)] [.long t1.1] t1.2) hf (fun t1 hf => ?_) (fun t1 key2 hf => ?_)
  · exact e_lH dX8_lower_23 rfl hf
  · refine r_if_ne 11 dX8_lower_4 (by decide) hf (fun c5 hf => ?_) (fun c5 hf => ?_)
    · refine r_iconst (v := 4) dX8_lower_11 (by decide) ?_
      refine r_aload_n dX8_lower_12 rfl ?_
      refine r_getI dX8_lower_13 sh_66 ft_X8_221 rfl ?_
      refine r_imul dX8_lower_16 ?_
      refine r_aload_n dX8_lower_17 rfl ?_
      obtain ⟨v3, hv, hf⟩ := bnd hf
      refine r_callV (lv := 9) dX8_lower_18 yo_X8_common yi_X8_common ml_X8_414 ya_X8_common sh_66 ⟨_, rfl, rfl⟩ (Fits.vm (by decide)) rfl rfl (Nat.le_of_ble_eq_true rfl) (S_X8_common F h  _ hv) ?_
      refine r_idiv dX8_lower_21 hf fun v4 hf => ?_
      refine r_i2l dX8_lower_22 ?_
      cases hf; exact key2
    · refine r_lconst (v := 1) dX8_lower_7 (by decide) ?_
      refine r_goto 23 dX8_lower_8 (by decide) ?_
      cases hf; exact key2
def f_X8_counted (F : Nat) (x1_ : Int32) (h : Hp) : Option Int32 :=
  fix (σ := Int32 × Int32) (ρ := Int32) (fun self2 s1 =>
    (if (gI h 66 11) ≤ s1.2 then (
      fix (σ := Int32 × Int32) (ρ := Int32) (fun self5 s4 =>
        (if (gI h 66 10) ≤ s4.2 then (
          fix (σ := Int32 × Int32) (ρ := Int32) (fun self8 s7 =>
            (if (6 : Int32) ≤ s7.2 then (
              fix (σ := Int32 × Int32) (ρ := Int32) (fun self11 s10 =>
                (if (4 : Int32) ≤ s10.2 then (
                  fix (σ := Int32 × Int32) (ρ := Int32) (fun self14 s13 =>
                    (if (3 : Int32) ≤ s13.2 then (
                      (if x1_ = 0 then (
                        some (gI h 66 10))
                      else
                      (if x1_ = 1 then (
                        (f_X8_cellMany h).bind fun v18 =>
                        some v18)
                      else
                      (if x1_ = 2 then (
                        some (gI h 66 32))
                      else
                      (if x1_ = 3 then (
                        some (gI h 66 11))
                      else
                      (if x1_ = 8 then (
                        some (gI h 66 56))
                      else
                      (
                        some s13.1)))))))
                    else (
                      (Option.bind (α := Int32) (
                        (if x1_ = (9 : Int32) then (
                          (ldI h 85 s13.2).bind fun v24 =>
                          (if v24 = 0 then (
                            some (0 : Int32))
                          else (
                            some (1 : Int32))))
                        else (
                          some (0 : Int32)))) fun t22 =>
                      self14 ((s13.1 + t22), (s13.2 + 1)))))) F (s10.1, (0 : Int32)))
                else (
                  (Option.bind (α := Int32) (
                    (if x1_ = (7 : Int32) then (
                      (ldI h 71 s10.2).bind fun v30 =>
                      (if v30 < 0 then (
                        some (0 : Int32))
                      else (
                        some (1 : Int32))))
                    else (
                      some (0 : Int32)))) fun t28 =>
                  self11 ((s10.1 + t28), (s10.2 + 1)))))) F (s7.1, (0 : Int32)))
            else (
              (Option.bind (α := Int32) (
                (if x1_ = (6 : Int32) then (
                  (ldI h 68 s7.2).bind fun v36 =>
                  (if v36 < 0 then (
                    some (0 : Int32))
                  else (
                    some (1 : Int32))))
                else (
                  some (0 : Int32)))) fun t34 =>
              self8 ((s7.1 + t34), (s7.2 + 1)))))) F (s4.1, (0 : Int32)))
        else (
          (Option.bind (α := Int32) (
            (if x1_ = (5 : Int32) then (
              (ldI h 74 s4.2).bind fun v42 =>
              (if v42 = (2 : Int32) then (
                some (1 : Int32))
              else (
                (ldI h 74 s4.2).bind fun v43 =>
                (if v43 = (4 : Int32) then (
                  some (1 : Int32))
                else (
                  some (0 : Int32))))))
            else (
              some (0 : Int32)))) fun t40 =>
          self5 ((s4.1 + t40), (s4.2 + 1)))))) F (s1.1, (0 : Int32)))
    else (
      (Option.bind (α := Int32) (
        (if x1_ = (4 : Int32) then (
          (ldI h 77 s1.2).bind fun v50 =>
          some v50)
        else (
          some (0 : Int32)))) fun t48 =>
      self2 ((s1.1 + t48), (s1.2 + 1)))))) F ((0 : Int32), (0 : Int32))
set_option maxRecDepth 100000 in
set_option maxHeartbeats 4000000 in
theorem S_X8_counted (F : Nat) (x1_ : Int32) (h : Hp) (r : Int32) (hf : f_X8_counted F x1_ h = some r) : MetP Y_X8_counted 2 [.ref 66, .int x1_] h (some (.int r), h) := by
  unfold f_X8_counted at hf
  refine met_of yo_X8_counted (Nat.le_of_ble_eq_true rfl) ?_
  show Run Y_X8_counted _ 0 [some (.ref 66), some (.int x1_), none, none] [] h
  refine r_iconst (v := 0) dX8_counted_0 (by decide) ?_
  refine r_istore_nA dX8_counted_1 (by decide) ?_
  refine r_iconst (v := 0) dX8_counted_2 (by decide) ?_
  refine r_istore_nA dX8_counted_3 (by decide) ?_
  refine r_fix (σ := Int32 × Int32) (fun s1 => [some (.ref 66), some (.int x1_), some (.int s1.1), some (.int s1.2)]) (fun s1 => h) (fun self2 ih3 s1 hf => ?_) F ((0 : Int32), (0 : Int32)) hf
  refine r_iload_n dX8_counted_4 rfl ?_
  refine r_aload_n dX8_counted_5 rfl ?_
  refine r_getI dX8_counted_6 sh_66 ft_X8_227 rfl ?_
  refine r_icmp_ge 36 dX8_counted_9 (by decide) hf (fun c52 hf => ?_) (fun c52 hf => ?_)
  · refine r_iconst (v := 0) dX8_counted_36 (by decide) ?_
    refine r_istore_nA dX8_counted_37 (by decide) ?_
    refine r_fix (σ := Int32 × Int32) (fun s4 => [some (.ref 66), some (.int x1_), some (.int s4.1), some (.int s4.2)]) (fun s4 => h) (fun self5 ih6 s4 hf => ?_) F (s1.1, (0 : Int32)) hf
    refine r_iload_n dX8_counted_38 rfl ?_
    refine r_aload_n dX8_counted_39 rfl ?_
    refine r_getI dX8_counted_40 sh_66 ft_X8_221 rfl ?_
    refine r_icmp_ge 85 dX8_counted_43 (by decide) hf (fun c47 hf => ?_) (fun c47 hf => ?_)
    · refine r_iconst (v := 0) dX8_counted_85 (by decide) ?_
      refine r_istore_nA dX8_counted_86 (by decide) ?_
      refine r_fix (σ := Int32 × Int32) (fun s7 => [some (.ref 66), some (.int x1_), some (.int s7.1), some (.int s7.2)]) (fun s7 => h) (fun self8 ih9 s7 hf => ?_) F (s4.1, (0 : Int32)) hf
      refine r_iload_n dX8_counted_87 rfl ?_
      refine r_bipush (v := 6) dX8_counted_88 (by decide) ?_
      refine r_icmp_ge 122 dX8_counted_90 (by decide) hf (fun c39 hf => ?_) (fun c39 hf => ?_)
      · refine r_iconst (v := 0) dX8_counted_122 (by decide) ?_
        refine r_istore_nA dX8_counted_123 (by decide) ?_
        refine r_fix (σ := Int32 × Int32) (fun s10 => [some (.ref 66), some (.int x1_), some (.int s10.1), some (.int s10.2)]) (fun s10 => h) (fun self11 ih12 s10 hf => ?_) F (s7.1, (0 : Int32)) hf
        refine r_iload_n dX8_counted_124 rfl ?_
        refine r_iconst (v := 4) dX8_counted_125 (by decide) ?_
        refine r_icmp_ge 158 dX8_counted_126 (by decide) hf (fun c33 hf => ?_) (fun c33 hf => ?_)
        · refine r_iconst (v := 0) dX8_counted_158 (by decide) ?_
          refine r_istore_nA dX8_counted_159 (by decide) ?_
          refine r_fix (σ := Int32 × Int32) (fun s13 => [some (.ref 66), some (.int x1_), some (.int s13.1), some (.int s13.2)]) (fun s13 => h) (fun self14 ih15 s13 hf => ?_) F (s10.1, (0 : Int32)) hf
          refine r_iload_n dX8_counted_160 rfl ?_
          refine r_iconst (v := 3) dX8_counted_161 (by decide) ?_
          refine r_icmp_ge 194 dX8_counted_162 (by decide) hf (fun c27 hf => ?_) (fun c27 hf => ?_)
          · refine r_iload_n dX8_counted_194 rfl ?_
            refine r_ite hf (fun c16 hf => ?_) (fun c16 hf => ?_)
            · refine r_tabIn 244 dX8_counted_195 (by rw [c16]; decide) (by rw [c16]; decide) (off := 49) (by rw [c16]; rfl) (by decide) ?_
              refine r_aload_n dX8_counted_244 rfl ?_
              refine r_getI dX8_counted_245 sh_66 ft_X8_221 rfl ?_
              exact e_iP dX8_counted_248 rfl hf
            refine r_ite hf (fun c17 hf => ?_) (fun c17 hf => ?_)
            · refine r_tabIn 249 dX8_counted_195 (by rw [c17]; decide) (by rw [c17]; decide) (off := 54) (by rw [c17]; rfl) (by decide) ?_
              refine r_aload_n dX8_counted_249 rfl ?_
              obtain ⟨v18, hv, hf⟩ := bnd hf
              refine r_callV (lv := 1) dX8_counted_250 yo_X8_cellMany yi_X8_cellMany ml_X8_239 ya_X8_cellMany sh_66 ⟨_, rfl, rfl⟩ (Fits.vm (by decide)) rfl rfl (Nat.le_of_ble_eq_true rfl) (S_X8_cellMany  h  _ hv) ?_
              exact e_iP dX8_counted_253 rfl hf
            refine r_ite hf (fun c19 hf => ?_) (fun c19 hf => ?_)
            · refine r_tabIn 254 dX8_counted_195 (by rw [c19]; decide) (by rw [c19]; decide) (off := 59) (by rw [c19]; rfl) (by decide) ?_
              refine r_aload_n dX8_counted_254 rfl ?_
              refine r_getI dX8_counted_255 sh_66 ft_X8_233 rfl ?_
              exact e_iP dX8_counted_258 rfl hf
            refine r_ite hf (fun c20 hf => ?_) (fun c20 hf => ?_)
            · refine r_tabIn 259 dX8_counted_195 (by rw [c20]; decide) (by rw [c20]; decide) (off := 64) (by rw [c20]; rfl) (by decide) ?_
              refine r_aload_n dX8_counted_259 rfl ?_
              refine r_getI dX8_counted_260 sh_66 ft_X8_227 rfl ?_
              exact e_iP dX8_counted_263 rfl hf
            refine r_ite hf (fun c21 hf => ?_) (fun c21 hf => ?_)
            · refine r_tabIn 264 dX8_counted_195 (by rw [c21]; decide) (by rw [c21]; decide) (off := 69) (by rw [c21]; rfl) (by decide) ?_
              refine r_aload_n dX8_counted_264 rfl ?_
              refine r_getI dX8_counted_265 sh_66 ft_X8_236 rfl ?_
              exact e_iP dX8_counted_268 rfl hf
            refine r_tabDef 269 9 dX8_counted_195 (by decide) (fun i hi e => ?_) (by decide) ?_
            · have a0 : ¬ (x1_).toInt = 0 := fun q => c16 (Int32.toInt_inj.mp (by rw [q]; rfl))
              have a1 : ¬ (x1_).toInt = 1 := fun q => c17 (Int32.toInt_inj.mp (by rw [q]; rfl))
              have a2 : ¬ (x1_).toInt = 2 := fun q => c19 (Int32.toInt_inj.mp (by rw [q]; rfl))
              have a3 : ¬ (x1_).toInt = 3 := fun q => c20 (Int32.toInt_inj.mp (by rw [q]; rfl))
              have a8 : ¬ (x1_).toInt = 8 := fun q => c21 (Int32.toInt_inj.mp (by rw [q]; rfl))
              have b : i = 4 ∨ i = 5 ∨ i = 6 ∨ i = 7 := by omega
              rcases b with rfl | rfl | rfl | rfl <;> rfl
            · refine r_iload_n dX8_counted_269 rfl ?_
              exact e_iP dX8_counted_270 rfl hf
          · refine r_iload_n dX8_counted_165 rfl ?_
            refine r_iload_n dX8_counted_166 rfl ?_
            refine r_bipush (v := 9) dX8_counted_167 (by decide) ?_
            refine r_reg (P := fun t22 => Run Y_X8_counted (VM 2 (some (.int r), h)) 186 [some (.ref 66), some (.int x1_), some (.int s13.1), some (.int s13.2)] [.int t22, .int s13.1] h) hf (fun t22 hf => ?_) (fun t22 key23 hf => ?_)
            · refine r_iadd dX8_counted_186 ?_
              refine r_istore_nA dX8_counted_187 (by decide) ?_
              refine r_iincA (v := 1) dX8_counted_188 rfl (by decide) (by decide) ?_
              refine r_goto 160 dX8_counted_191 (by decide) ?_
              exact ih15 _ hf
            · refine r_icmp_ne 185 dX8_counted_169 (by decide) hf (fun c26 hf => ?_) (fun c26 hf => ?_)
              · refine r_iconst (v := 0) dX8_counted_185 (by decide) ?_
                cases hf; exact key23
              · refine r_aload_n dX8_counted_172 rfl ?_
                refine r_getS (b := 85) dX8_counted_173 sh_66 ft_X8_65 rfl rfl ?_
                refine r_iload_n dX8_counted_176 rfl ?_
                refine r_zald dX8_counted_177 sh_85 hf fun v24 hf => ?_
                refine r_if_eq 185 dX8_counted_178 (by decide) hf (fun c25 hf => ?_) (fun c25 hf => ?_)
                · refine r_iconst (v := 0) dX8_counted_185 (by decide) ?_
                  cases hf; exact key23
                · refine r_iconst (v := 1) dX8_counted_181 (by decide) ?_
                  refine r_goto 186 dX8_counted_182 (by decide) ?_
                  cases hf; exact key23
        · refine r_iload_n dX8_counted_129 rfl ?_
          refine r_iload_n dX8_counted_130 rfl ?_
          refine r_bipush (v := 7) dX8_counted_131 (by decide) ?_
          refine r_reg (P := fun t28 => Run Y_X8_counted (VM 2 (some (.int r), h)) 150 [some (.ref 66), some (.int x1_), some (.int s10.1), some (.int s10.2)] [.int t28, .int s10.1] h) hf (fun t28 hf => ?_) (fun t28 key29 hf => ?_)
          · refine r_iadd dX8_counted_150 ?_
            refine r_istore_nA dX8_counted_151 (by decide) ?_
            refine r_iincA (v := 1) dX8_counted_152 rfl (by decide) (by decide) ?_
            refine r_goto 124 dX8_counted_155 (by decide) ?_
            exact ih12 _ hf
          · refine r_icmp_ne 149 dX8_counted_133 (by decide) hf (fun c32 hf => ?_) (fun c32 hf => ?_)
            · refine r_iconst (v := 0) dX8_counted_149 (by decide) ?_
              cases hf; exact key29
            · refine r_aload_n dX8_counted_136 rfl ?_
              refine r_getS (b := 71) dX8_counted_137 sh_66 ft_X8_22 rfl rfl ?_
              refine r_iload_n dX8_counted_140 rfl ?_
              refine r_iald dX8_counted_141 sh_71 hf fun v30 hf => ?_
              refine r_if_lt 149 dX8_counted_142 (by decide) hf (fun c31 hf => ?_) (fun c31 hf => ?_)
              · refine r_iconst (v := 0) dX8_counted_149 (by decide) ?_
                cases hf; exact key29
              · refine r_iconst (v := 1) dX8_counted_145 (by decide) ?_
                refine r_goto 150 dX8_counted_146 (by decide) ?_
                cases hf; exact key29
      · refine r_iload_n dX8_counted_93 rfl ?_
        refine r_iload_n dX8_counted_94 rfl ?_
        refine r_bipush (v := 6) dX8_counted_95 (by decide) ?_
        refine r_reg (P := fun t34 => Run Y_X8_counted (VM 2 (some (.int r), h)) 114 [some (.ref 66), some (.int x1_), some (.int s7.1), some (.int s7.2)] [.int t34, .int s7.1] h) hf (fun t34 hf => ?_) (fun t34 key35 hf => ?_)
        · refine r_iadd dX8_counted_114 ?_
          refine r_istore_nA dX8_counted_115 (by decide) ?_
          refine r_iincA (v := 1) dX8_counted_116 rfl (by decide) (by decide) ?_
          refine r_goto 87 dX8_counted_119 (by decide) ?_
          exact ih9 _ hf
        · refine r_icmp_ne 113 dX8_counted_97 (by decide) hf (fun c38 hf => ?_) (fun c38 hf => ?_)
          · refine r_iconst (v := 0) dX8_counted_113 (by decide) ?_
            cases hf; exact key35
          · refine r_aload_n dX8_counted_100 rfl ?_
            refine r_getS (b := 68) dX8_counted_101 sh_66 ft_X8_13 rfl rfl ?_
            refine r_iload_n dX8_counted_104 rfl ?_
            refine r_iald dX8_counted_105 sh_68 hf fun v36 hf => ?_
            refine r_if_lt 113 dX8_counted_106 (by decide) hf (fun c37 hf => ?_) (fun c37 hf => ?_)
            · refine r_iconst (v := 0) dX8_counted_113 (by decide) ?_
              cases hf; exact key35
            · refine r_iconst (v := 1) dX8_counted_109 (by decide) ?_
              refine r_goto 114 dX8_counted_110 (by decide) ?_
              cases hf; exact key35
    · refine r_iload_n dX8_counted_46 rfl ?_
      refine r_iload_n dX8_counted_47 rfl ?_
      refine r_iconst (v := 5) dX8_counted_48 (by decide) ?_
      refine r_reg (P := fun t40 => Run Y_X8_counted (VM 2 (some (.int r), h)) 77 [some (.ref 66), some (.int x1_), some (.int s4.1), some (.int s4.2)] [.int t40, .int s4.1] h) hf (fun t40 hf => ?_) (fun t40 key41 hf => ?_)
      · refine r_iadd dX8_counted_77 ?_
        refine r_istore_nA dX8_counted_78 (by decide) ?_
        refine r_iincA (v := 1) dX8_counted_79 rfl (by decide) (by decide) ?_
        refine r_goto 38 dX8_counted_82 (by decide) ?_
        exact ih6 _ hf
      · refine r_icmp_ne 76 dX8_counted_49 (by decide) hf (fun c46 hf => ?_) (fun c46 hf => ?_)
        · refine r_iconst (v := 0) dX8_counted_76 (by decide) ?_
          cases hf; exact key41
        · refine r_aload_n dX8_counted_52 rfl ?_
          refine r_getS (b := 74) dX8_counted_53 sh_66 ft_X8_32 rfl rfl ?_
          refine r_iload_n dX8_counted_56 rfl ?_
          refine r_iald dX8_counted_57 sh_74 hf fun v42 hf => ?_
          refine r_iconst (v := 2) dX8_counted_58 (by decide) ?_
          refine r_icmp_eq 72 dX8_counted_59 (by decide) hf (fun c45 hf => ?_) (fun c45 hf => ?_)
          · refine r_iconst (v := 1) dX8_counted_72 (by decide) ?_
            refine r_goto 77 dX8_counted_73 (by decide) ?_
            cases hf; exact key41
          · refine r_aload_n dX8_counted_62 rfl ?_
            refine r_getS (b := 74) dX8_counted_63 sh_66 ft_X8_32 rfl rfl ?_
            refine r_iload_n dX8_counted_66 rfl ?_
            refine r_iald dX8_counted_67 sh_74 hf fun v43 hf => ?_
            refine r_iconst (v := 4) dX8_counted_68 (by decide) ?_
            refine r_icmp_ne 76 dX8_counted_69 (by decide) hf (fun c44 hf => ?_) (fun c44 hf => ?_)
            · refine r_iconst (v := 0) dX8_counted_76 (by decide) ?_
              cases hf; exact key41
            · refine r_iconst (v := 1) dX8_counted_72 (by decide) ?_
              refine r_goto 77 dX8_counted_73 (by decide) ?_
              cases hf; exact key41
  · refine r_iload_n dX8_counted_12 rfl ?_
    refine r_iload_n dX8_counted_13 rfl ?_
    refine r_iconst (v := 4) dX8_counted_14 (by decide) ?_
    refine r_reg (P := fun t48 => Run Y_X8_counted (VM 2 (some (.int r), h)) 28 [some (.ref 66), some (.int x1_), some (.int s1.1), some (.int s1.2)] [.int t48, .int s1.1] h) hf (fun t48 hf => ?_) (fun t48 key49 hf => ?_)
    · refine r_iadd dX8_counted_28 ?_
      refine r_istore_nA dX8_counted_29 (by decide) ?_
      refine r_iincA (v := 1) dX8_counted_30 rfl (by decide) (by decide) ?_
      refine r_goto 4 dX8_counted_33 (by decide) ?_
      exact ih3 _ hf
    · refine r_icmp_ne 27 dX8_counted_15 (by decide) hf (fun c51 hf => ?_) (fun c51 hf => ?_)
      · refine r_iconst (v := 0) dX8_counted_27 (by decide) ?_
        cases hf; exact key49
      · refine r_aload_n dX8_counted_18 rfl ?_
        refine r_getS (b := 77) dX8_counted_19 sh_66 ft_X8_41 rfl rfl ?_
        refine r_iload_n dX8_counted_22 rfl ?_
        refine r_iald dX8_counted_23 sh_77 hf fun v50 hf => ?_
        refine r_goto 28 dX8_counted_24 (by decide) ?_
        cases hf; exact key49
