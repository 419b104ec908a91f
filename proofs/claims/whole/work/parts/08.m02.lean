def f_J7_fill_53178 (F : Nat) (a0 : Nat) (x1_ : Int32) (h : Hp) : Option Hp :=
  fix (σ := Int32 × Hp) (ρ := Hp) (fun self2 s1 =>
    (if (nI (sh a0).2.2) ≤ s1.1 then (
      some s1.2)
    else (
      (stI s1.2 a0 s1.1 x1_).bind fun h4 =>
      self2 ((s1.1 + 1), h4)))) F ((0 : Int32), h)
set_option maxRecDepth 100000 in
set_option maxHeartbeats 4000000 in
theorem S_J7_fill_53178 (F : Nat) (a0 : Nat) (x1_ : Int32) (k0 : sh a0 = (1, 0, (sh a0).2.2)) (h : Hp) (r : Hp) (hf : f_J7_fill_53178 F a0 x1_ h = some r) : MetP Y_J7_fill_53178 1 [.ref a0, .int x1_] h (none, r) := by
  unfold f_J7_fill_53178 at hf
  refine met_of yo_J7_fill_53178 (Nat.le_of_ble_eq_true rfl) ?_
  show Run Y_J7_fill_53178 _ 0 [some (.ref a0), some (.int x1_), none, none] [] h
  refine r_iconst (v := 0) dJ7_fill_53178_0 (by decide) ?_
  refine r_istore_nA dJ7_fill_53178_1 (by decide) ?_
  refine r_aload_n dJ7_fill_53178_2 rfl ?_
  refine r_alen dJ7_fill_53178_3 k0 ?_
  refine r_istore_nA dJ7_fill_53178_4 (by decide) ?_
  refine r_fix (σ := Int32 × Hp) (fun s1 => [some (.ref a0), some (.int x1_), some (.int s1.1), some (.int (nI (sh a0).2.2))]) (fun s1 => s1.2) (fun self2 ih3 s1 hf => ?_) F ((0 : Int32), h) hf
  refine r_iload_n dJ7_fill_53178_5 rfl ?_
  refine r_iload_n dJ7_fill_53178_6 rfl ?_
  refine r_icmp_ge 20 dJ7_fill_53178_7 (by decide) hf (fun c5 hf => ?_) (fun c5 hf => ?_)
  · exact e_vH dJ7_fill_53178_20 rfl hf
  · refine r_aload_n dJ7_fill_53178_10 rfl ?_
    refine r_iload_n dJ7_fill_53178_11 rfl ?_
    refine r_iload_n dJ7_fill_53178_12 rfl ?_
    refine r_iast dJ7_fill_53178_13 k0 hf fun h4 hf => ?_
    refine r_iincA (v := 1) dJ7_fill_53178_14 rfl (by decide) (by decide) ?_
    refine r_goto 5 dJ7_fill_53178_17 (by decide) ?_
    exact ih3 _ hf
def f_X6_secondEnd (a0 : Nat) (x1_ : Int32) (h : Hp) : Option Int32 :=
  (Option.bind (α := Int32) (
    (if (gI h a0 4) ≤ (x1_ + (1 : Int32)) then (
      some (0 : Int32))
    else (
      some (x1_ + (1 : Int32))))) fun t1 =>
  some t1)
set_option maxRecDepth 100000 in
set_option maxHeartbeats 4000000 in
theorem S_X6_secondEnd (a0 : Nat) (x1_ : Int32) (k0 : sh a0 = (0, 6, 14)) (h : Hp) (r : Int32) (hf : f_X6_secondEnd a0 x1_ h = some r) : MetP Y_X6_secondEnd 1 [.ref a0, .int x1_] h (some (.int r), h) := by
  unfold f_X6_secondEnd at hf
  refine met_of yo_X6_secondEnd (Nat.le_of_ble_eq_true rfl) ?_
  show Run Y_X6_secondEnd _ 0 [some (.ref a0), some (.int x1_)] [] h
  refine r_iload_n dX6_secondEnd_0 rfl ?_
  refine r_iconst (v := 1) dX6_secondEnd_1 (by decide) ?_
  refine r_iadd dX6_secondEnd_2 ?_
  refine r_aload_n dX6_secondEnd_3 rfl ?_
  refine r_getI dX6_secondEnd_4 k0 ft_X6_46 rfl ?_
  refine r_reg (P := fun t1 => Run Y_X6_secondEnd (VM 1 (some (.int r), h)) 17 [some (.ref a0), some (.int x1_)] [.int t1] h) hf (fun t1 hf => ?_) (fun t1 key2 hf => ?_)
  · exact e_iP dX6_secondEnd_17 rfl hf
  · refine r_icmp_ge 16 dX6_secondEnd_7 (by decide) hf (fun c3 hf => ?_) (fun c3 hf => ?_)
    · refine r_iconst (v := 0) dX6_secondEnd_16 (by decide) ?_
      cases hf; exact key2
    · refine r_iload_n dX6_secondEnd_10 rfl ?_
      refine r_iconst (v := 1) dX6_secondEnd_11 (by decide) ?_
      refine r_iadd dX6_secondEnd_12 ?_
      refine r_goto 17 dX6_secondEnd_13 (by decide) ?_
      cases hf; exact key2
def f_X6_columnOf (a0 : Nat) (x1_ : Int32) (h : Hp) : Option Int32 :=
  (Option.bind (α := Int32) (
    (if (gI h a0 0) ≤ 0 then (
      some (0 : Int32))
    else (
      (rmI x1_ (gI h a0 0)).bind fun v3 =>
      some v3))) fun t1 =>
  some t1)
set_option maxRecDepth 100000 in
set_option maxHeartbeats 4000000 in
theorem S_X6_columnOf (a0 : Nat) (x1_ : Int32) (k0 : sh a0 = (0, 6, 14)) (h : Hp) (r : Int32) (hf : f_X6_columnOf a0 x1_ h = some r) : MetP Y_X6_columnOf 1 [.ref a0, .int x1_] h (some (.int r), h) := by
  unfold f_X6_columnOf at hf
  refine met_of yo_X6_columnOf (Nat.le_of_ble_eq_true rfl) ?_
  show Run Y_X6_columnOf _ 0 [some (.ref a0), some (.int x1_)] [] h
  refine r_aload_n dX6_columnOf_0 rfl ?_
  refine r_getI dX6_columnOf_1 k0 ft_X6_33 rfl ?_
  refine r_reg (P := fun t1 => Run Y_X6_columnOf (VM 1 (some (.int r), h)) 17 [some (.ref a0), some (.int x1_)] [.int t1] h) hf (fun t1 hf => ?_) (fun t1 key2 hf => ?_)
  · exact e_iP dX6_columnOf_17 rfl hf
  · refine r_if_le 16 dX6_columnOf_4 (by decide) hf (fun c4 hf => ?_) (fun c4 hf => ?_)
    · refine r_iconst (v := 0) dX6_columnOf_16 (by decide) ?_
      cases hf; exact key2
    · refine r_iload_n dX6_columnOf_7 rfl ?_
      refine r_aload_n dX6_columnOf_8 rfl ?_
      refine r_getI dX6_columnOf_9 k0 ft_X6_33 rfl ?_
      refine r_irem dX6_columnOf_12 hf fun v3 hf => ?_
      refine r_goto 17 dX6_columnOf_13 (by decide) ?_
      cases hf; exact key2
def f_X6_lineOf (a0 : Nat) (x1_ : Int32) (h : Hp) : Option Int32 :=
  (Option.bind (α := Int32) (
    (if (gI h a0 0) ≤ 0 then (
      some (0 : Int32))
    else (
      (dvI x1_ (gI h a0 0)).bind fun v3 =>
      some v3))) fun t1 =>
  some t1)
set_option maxRecDepth 100000 in
set_option maxHeartbeats 4000000 in
theorem S_X6_lineOf (a0 : Nat) (x1_ : Int32) (k0 : sh a0 = (0, 6, 14)) (h : Hp) (r : Int32) (hf : f_X6_lineOf a0 x1_ h = some r) : MetP Y_X6_lineOf 1 [.ref a0, .int x1_] h (some (.int r), h) := by
  unfold f_X6_lineOf at hf
  refine met_of yo_X6_lineOf (Nat.le_of_ble_eq_true rfl) ?_
  show Run Y_X6_lineOf _ 0 [some (.ref a0), some (.int x1_)] [] h
  refine r_aload_n dX6_lineOf_0 rfl ?_
  refine r_getI dX6_lineOf_1 k0 ft_X6_33 rfl ?_
  refine r_reg (P := fun t1 => Run Y_X6_lineOf (VM 1 (some (.int r), h)) 17 [some (.ref a0), some (.int x1_)] [.int t1] h) hf (fun t1 hf => ?_) (fun t1 key2 hf => ?_)
  · exact e_iP dX6_lineOf_17 rfl hf
  · refine r_if_le 16 dX6_lineOf_4 (by decide) hf (fun c4 hf => ?_) (fun c4 hf => ?_)
    · refine r_iconst (v := 0) dX6_lineOf_16 (by decide) ?_
      cases hf; exact key2
    · refine r_iload_n dX6_lineOf_7 rfl ?_
      refine r_aload_n dX6_lineOf_8 rfl ?_
      refine r_getI dX6_lineOf_9 k0 ft_X6_33 rfl ?_
      refine r_idiv dX6_lineOf_12 hf fun v3 hf => ?_
      refine r_goto 17 dX6_lineOf_13 (by decide) ?_
      cases hf; exact key2
def f_X6_isWall (a0 : Nat) (x1_ : Int32) (h : Hp) : Option Int32 :=
  (Option.bind (α := Int32) (
    (if (((gI h a0 3) >>> (x1_ &&& 31)) &&& (1 : Int32)) = (1 : Int32) then (
      some (1 : Int32))
    else (
      some (0 : Int32)))) fun t1 =>
  ckZ t1)
set_option maxRecDepth 100000 in
set_option maxHeartbeats 4000000 in
theorem S_X6_isWall (a0 : Nat) (x1_ : Int32) (k0 : sh a0 = (0, 6, 14)) (h : Hp) (r : Int32) (hf : f_X6_isWall a0 x1_ h = some r) : MetP Y_X6_isWall 1 [.ref a0, .int x1_] h (some (.int r), h) := by
  unfold f_X6_isWall at hf
  refine met_of yo_X6_isWall (Nat.le_of_ble_eq_true rfl) ?_
  show Run Y_X6_isWall _ 0 [some (.ref a0), some (.int x1_)] [] h
  refine r_aload_n dX6_isWall_0 rfl ?_
  refine r_getI dX6_isWall_1 k0 ft_X6_43 rfl ?_
  refine r_iload_n dX6_isWall_4 rfl ?_
  refine r_ishr dX6_isWall_5 ?_
  refine r_iconst (v := 1) dX6_isWall_6 (by decide) ?_
  refine r_iand dX6_isWall_7 ?_
  refine r_iconst (v := 1) dX6_isWall_8 (by decide) ?_
  refine r_reg (P := fun t1 => Run Y_X6_isWall (VM 1 (some (.int r), h)) 17 [some (.ref a0), some (.int x1_)] [.int t1] h) hf (fun t1 hf => ?_) (fun t1 key2 hf => ?_)
  · exact e_zP dX6_isWall_17 rfl hf
  · refine r_icmp_ne 16 dX6_isWall_9 (by decide) hf (fun c3 hf => ?_) (fun c3 hf => ?_)
    · refine r_iconst (v := 0) dX6_isWall_16 (by decide) ?_
      cases hf; exact key2
    · refine r_iconst (v := 1) dX6_isWall_12 (by decide) ?_
      refine r_goto 17 dX6_isWall_13 (by decide) ?_
      cases hf; exact key2
def f_X6_neighbour (a0 : Nat) (x1_ : Int32) (x2_ : Int32) (h : Hp) : Option Int32 :=
  (f_X6_columnOf a0 x1_ h).bind fun v1 =>
  (Option.bind (α := Int32) (
    (if x2_ = (1 : Int32) then (
      some (1 : Int32))
    else (
      (if x2_ = (3 : Int32) then (
        some (-1 : Int32))
      else (
        some (0 : Int32)))))) fun t2 =>
  (f_X6_lineOf a0 x1_ h).bind fun v6 =>
  (Option.bind (α := Int32) (
    (if x2_ = (2 : Int32) then (
      some (1 : Int32))
    else (
      (if x2_ = 0 then (
        some (-1 : Int32))
      else (
        some (0 : Int32)))))) fun t7 =>
  (if (v1 + t2) < 0 then (
    some (-9 : Int32))
  else (
    (if (gI h a0 0) ≤ (v1 + t2) then (
      some (-9 : Int32))
    else (
      (if (v6 + t7) < 0 then (
        some (-9 : Int32))
      else (
        (if (v6 + t7) < (gI h a0 1) then (
          nm ((((v6 + t7) * (gI h a0 0)) + (v1 + t2))) fun x11 =>
          (f_X6_isWall a0 x11 h).bind fun v12 =>
          (Option.bind (α := Int32) (
            (if v12 = 0 then (
              some x11)
            else (
              some (-9 : Int32)))) fun t13 =>
          some t13))
        else (
          some (-9 : Int32)))))))))))
set_option maxRecDepth 100000 in
set_option maxHeartbeats 4000000 in
theorem S_X6_neighbour (a0 : Nat) (x1_ : Int32) (x2_ : Int32) (k0 : sh a0 = (0, 6, 14)) (h : Hp) (r : Int32) (hf : f_X6_neighbour a0 x1_ x2_ h = some r) : MetP Y_X6_neighbour 2 [.ref a0, .int x1_, .int x2_] h (some (.int r), h) := by
  unfold f_X6_neighbour at hf
  refine met_of yo_X6_neighbour (Nat.le_of_ble_eq_true rfl) ?_
  show Run Y_X6_neighbour _ 0 [some (.ref a0), some (.int x1_), some (.int x2_), none, none, none] [] h
  refine r_aload_n dX6_neighbour_0 rfl ?_
  refine r_iload_n dX6_neighbour_1 rfl ?_
  obtain ⟨v1, hv, hf⟩ := bnd hf
  refine r_callV (lv := 1) dX6_neighbour_2 yo_X6_columnOf yi_X6_columnOf ml_X6_78 ya_X6_columnOf k0 ⟨_, rfl, rfl⟩ (Fits.vm (by decide)) rfl rfl (Nat.le_of_ble_eq_true rfl) (S_X6_columnOf a0 x1_ k0 h  _ hv) ?_
  refine r_iload_n dX6_neighbour_5 rfl ?_
  refine r_iconst (v := 1) dX6_neighbour_6 (by decide) ?_
  refine r_reg (P := fun t2 => Run Y_X6_neighbour (VM 2 (some (.int r), h)) 24 [some (.ref a0), some (.int x1_), some (.int x2_), none, none, none] [.int t2, .int v1] h) hf (fun t2 hf => ?_) (fun t2 key3 hf => ?_)
  · refine r_iadd dX6_neighbour_24 ?_
    refine r_istore_nA dX6_neighbour_25 (by decide) ?_
    refine r_aload_n dX6_neighbour_26 rfl ?_
    refine r_iload_n dX6_neighbour_27 rfl ?_
    obtain ⟨v6, hv, hf⟩ := bnd hf
    refine r_callV (lv := 1) dX6_neighbour_28 yo_X6_lineOf yi_X6_lineOf ml_X6_84 ya_X6_lineOf k0 ⟨_, rfl, rfl⟩ (Fits.vm (by decide)) rfl rfl (Nat.le_of_ble_eq_true rfl) (S_X6_lineOf a0 x1_ k0 h  _ hv) ?_
    refine r_iload_n dX6_neighbour_31 rfl ?_
    refine r_iconst (v := 2) dX6_neighbour_32 (by decide) ?_
    refine r_reg (P := fun t7 => Run Y_X6_neighbour (VM 2 (some (.int r), h)) 49 [some (.ref a0), some (.int x1_), some (.int x2_), some (.int (v1 + t2)), none, none] [.int t7, .int v6] h) hf (fun t7 hf => ?_) (fun t7 key8 hf => ?_)
    · refine r_iadd dX6_neighbour_49 ?_
      refine r_istoreA dX6_neighbour_50 (by decide) ?_
      refine r_iload_n dX6_neighbour_52 rfl ?_
      refine r_if_lt 78 dX6_neighbour_53 (by decide) hf (fun c19 hf => ?_) (fun c19 hf => ?_)
      · refine r_bipush (v := -9) dX6_neighbour_78 (by decide) ?_
        exact e_iP dX6_neighbour_80 rfl hf
      · refine r_iload_n dX6_neighbour_56 rfl ?_
        refine r_aload_n dX6_neighbour_57 rfl ?_
        refine r_getI dX6_neighbour_58 k0 ft_X6_33 rfl ?_
        refine r_icmp_ge 78 dX6_neighbour_61 (by decide) hf (fun c18 hf => ?_) (fun c18 hf => ?_)
        · refine r_bipush (v := -9) dX6_neighbour_78 (by decide) ?_
          exact e_iP dX6_neighbour_80 rfl hf
        · refine r_iload dX6_neighbour_64 rfl ?_
          refine r_if_lt 78 dX6_neighbour_66 (by decide) hf (fun c17 hf => ?_) (fun c17 hf => ?_)
          · refine r_bipush (v := -9) dX6_neighbour_78 (by decide) ?_
            exact e_iP dX6_neighbour_80 rfl hf
          · refine r_iload dX6_neighbour_69 rfl ?_
            refine r_aload_n dX6_neighbour_71 rfl ?_
            refine r_getI dX6_neighbour_72 k0 ft_X6_37 rfl ?_
            refine r_icmp_lt 81 dX6_neighbour_75 (by decide) hf (fun c16 hf => ?_) (fun c16 hf => ?_)
            · refine r_iload dX6_neighbour_81 rfl ?_
              refine r_aload_n dX6_neighbour_83 rfl ?_
              refine r_getI dX6_neighbour_84 k0 ft_X6_33 rfl ?_
              refine r_imul dX6_neighbour_87 ?_
              refine r_iload_n dX6_neighbour_88 rfl ?_
              refine r_iadd dX6_neighbour_89 ?_
              refine r_istore dX6_neighbour_90 (by decide) hf fun x11 hf => ?_
              refine r_aload_n dX6_neighbour_92 rfl ?_
              refine r_iload dX6_neighbour_93 rfl ?_
              obtain ⟨v12, hv, hf⟩ := bnd hf
              refine r_callV (lv := 1) dX6_neighbour_95 yo_X6_isWall yi_X6_isWall ml_X6_90 ya_X6_isWall k0 ⟨_, rfl, rfl⟩ (Fits.vm (by decide)) rfl rfl (Nat.le_of_ble_eq_true rfl) (S_X6_isWall a0 x11 k0 h  _ hv) ?_
              refine r_reg (P := fun t13 => Run Y_X6_neighbour (VM 2 (some (.int r), h)) 108 [some (.ref a0), some (.int x1_), some (.int x2_), some (.int (v1 + t2)), some (.int (v6 + t7)), some (.int x11)] [.int t13] h) hf (fun t13 hf => ?_) (fun t13 key14 hf => ?_)
              · exact e_iP dX6_neighbour_108 rfl hf
              · refine r_if_eq 106 dX6_neighbour_98 (by decide) hf (fun c15 hf => ?_) (fun c15 hf => ?_)
                · refine r_iload dX6_neighbour_106 rfl ?_
                  cases hf; exact key14
                · refine r_bipush (v := -9) dX6_neighbour_101 (by decide) ?_
                  refine r_goto 108 dX6_neighbour_103 (by decide) ?_
                  cases hf; exact key14
            · refine r_bipush (v := -9) dX6_neighbour_78 (by decide) ?_
              exact e_iP dX6_neighbour_80 rfl hf
    · refine r_icmp_ne 40 dX6_neighbour_33 (by decide) hf (fun c10 hf => ?_) (fun c10 hf => ?_)
      · refine r_iload_n dX6_neighbour_40 rfl ?_
        refine r_if_ne 48 dX6_neighbour_41 (by decide) hf (fun c9 hf => ?_) (fun c9 hf => ?_)
        · refine r_iconst (v := 0) dX6_neighbour_48 (by decide) ?_
          cases hf; exact key8
        · refine r_iconst (v := -1) dX6_neighbour_44 (by decide) ?_
          refine r_goto 49 dX6_neighbour_45 (by decide) ?_
          cases hf; exact key8
      · refine r_iconst (v := 1) dX6_neighbour_36 (by decide) ?_
        refine r_goto 49 dX6_neighbour_37 (by decide) ?_
        cases hf; exact key8
  · refine r_icmp_ne 14 dX6_neighbour_7 (by decide) hf (fun c5 hf => ?_) (fun c5 hf => ?_)
    · refine r_iload_n dX6_neighbour_14 rfl ?_
      refine r_iconst (v := 3) dX6_neighbour_15 (by decide) ?_
      refine r_icmp_ne 23 dX6_neighbour_16 (by decide) hf (fun c4 hf => ?_) (fun c4 hf => ?_)
      · refine r_iconst (v := 0) dX6_neighbour_23 (by decide) ?_
        cases hf; exact key3
      · refine r_iconst (v := -1) dX6_neighbour_19 (by decide) ?_
        refine r_goto 24 dX6_neighbour_20 (by decide) ?_
        cases hf; exact key3
    · refine r_iconst (v := 1) dX6_neighbour_10 (by decide) ?_
      refine r_goto 24 dX6_neighbour_11 (by decide) ?_
      cases hf; exact key3
def f_X6_layOut (F : Nat) (a0 : Nat) (h : Hp) : Option Hp :=
  (Option.bind (α := Int32) (
    (if (gI h a0 6) = 0 then (
      some (mxI ((gI h a0 4) - (1 : Int32)) (0 : Int32)))
    else (
      (if (gI h a0 4) < (3 : Int32) then (
        some (mxI ((gI h a0 4) - (1 : Int32)) (0 : Int32)))
      else (
        some (gI h a0 4)))))) fun t1 =>
  nm (sI h a0 5 t1) fun h5 =>
  (f_J7_fill_53178 F (rf a0 13) (-9 : Int32) h5).bind fun h6 =>
  fix (σ := Int32 × Hp) (ρ := Hp) (fun self8 s7 =>
    (if (gI s7.2 a0 5) ≤ s7.1 then (
      fix (σ := Int32 × Hp) (ρ := Hp) (fun self11 s10 =>
        (if (gI s10.2 a0 2) ≤ s10.1 then (
          some s10.2)
        else (
          fix (σ := Int32 × Hp) (ρ := Hp) (fun self14 s13 =>
            (if (gI s13.2 a0 2) ≤ s13.1 then (
              fix (σ := Int32 × Hp) (ρ := Hp) (fun self17 s16 =>
                (if (4 : Int32) ≤ s16.1 then (
                  self11 ((s10.1 + 1), s16.2))
                else (
                  (f_X6_neighbour a0 s10.1 s16.1 s16.2).bind fun v19 =>
                  (stI s16.2 (rf a0 12) ((s10.1 * (4 : Int32)) + s16.1) v19).bind fun h20 =>
                  self17 ((s16.1 + 1), h20)))) F ((0 : Int32), s13.2))
            else (
              (f_X6_columnOf a0 s10.1 s13.2).bind fun v22 =>
              (f_X6_columnOf a0 s13.1 s13.2).bind fun v23 =>
              (f_X6_lineOf a0 s10.1 s13.2).bind fun v24 =>
              (f_X6_lineOf a0 s13.1 s13.2).bind fun v25 =>
              (stI s13.2 (rf a0 11) ((s10.1 * (12 : Int32)) + s13.1) ((abI (v22 - v23)) + (abI (v24 - v25)))).bind fun h26 =>
              self14 ((s13.1 + 1), h26)))) F ((0 : Int32), s10.2)))) F ((0 : Int32), s7.2))
    else (
      (f_X6_secondEnd a0 s7.1 s7.2).bind fun v29 =>
      (stI s7.2 (rf a0 13) ((s7.1 * (4 : Int32)) + s7.1) v29).bind fun h30 =>
      (f_X6_secondEnd a0 s7.1 h30).bind fun v31 =>
      (stI h30 (rf a0 13) ((s7.1 * (4 : Int32)) + v31) s7.1).bind fun h32 =>
      self8 ((s7.1 + 1), h32)))) F ((0 : Int32), h6))
set_option maxRecDepth 100000 in
set_option maxHeartbeats 4000000 in
theorem S_X6_layOut (F : Nat) (a0 : Nat) (k0 : sh a0 = (0, 6, 14)) (h : Hp) (r : Hp) (hf : f_X6_layOut F a0 h = some r) : MetP Y_X6_layOut 3 [.ref a0] h (none, r) := by
  unfold f_X6_layOut at hf
  refine met_of yo_X6_layOut (Nat.le_of_ble_eq_true rfl) ?_
  show Run Y_X6_layOut _ 0 [some (.ref a0), none, none, none] [] h
  refine r_aload_n dX6_layOut_0 rfl ?_
  refine r_aload_n dX6_layOut_1 rfl ?_
  refine r_getI dX6_layOut_2 k0 ft_X6_52 rfl ?_
  refine r_reg (P := fun t1 => Run Y_X6_layOut (VM 3 (none, r)) 33 [some (.ref a0), none, none, none] [.int t1, .ref a0] h) hf (fun t1 hf => ?_) (fun t1 key2 hf => ?_)
  · refine r_putI dX6_layOut_33 k0 ft_X6_49 rfl hf fun h5 hf => ?_
    refine r_aload_n dX6_layOut_36 rfl ?_
    refine r_getS (b := rf a0 13) dX6_layOut_37 k0 ft_X6_30 rfl rfl ?_
    refine r_bipush (v := -9) dX6_layOut_40 (by decide) ?_
    obtain ⟨h6, hv, hf⟩ := bnd hf
    refine r_callS (lv := 1) dX6_layOut_42 yo_J7_fill_53178 ys_J7_fill_53178 ml_X6_68 ya_J7_fill_53178 (Fits.vm (by decide)) rfl rfl (Nat.le_of_ble_eq_true rfl) (S_J7_fill_53178 F (rf a0 13) (-9 : Int32) (sh_arr (sf_6_13 k0)) h5  _ hv) ?_
    refine r_iconst (v := 0) dX6_layOut_45 (by decide) ?_
    refine r_istore_nA dX6_layOut_46 (by decide) ?_
    refine r_fix (σ := Int32 × Hp) (fun s7 => [some (.ref a0), some (.int s7.1), none, none]) (fun s7 => s7.2) (fun self8 ih9 s7 hf => ?_) F ((0 : Int32), h6) hf
    refine r_iload_n dX6_layOut_47 rfl ?_
    refine r_aload_n dX6_layOut_48 rfl ?_
    refine r_getI dX6_layOut_49 k0 ft_X6_49 rfl ?_
    refine r_icmp_ge 91 dX6_layOut_52 (by decide) hf (fun c33 hf => ?_) (fun c33 hf => ?_)
    · refine r_iconst (v := 0) dX6_layOut_91 (by decide) ?_
      refine r_istore_nA dX6_layOut_92 (by decide) ?_
      refine r_fix (σ := Int32 × Hp) (fun s10 => [some (.ref a0), some (.int s10.1), none, none]) (fun s10 => s10.2) (fun self11 ih12 s10 hf => ?_) F ((0 : Int32), s7.2) hf
      refine r_iload_n dX6_layOut_93 rfl ?_
      refine r_aload_n dX6_layOut_94 rfl ?_
      refine r_getI dX6_layOut_95 k0 ft_X6_40 rfl ?_
      refine r_icmp_ge 194 dX6_layOut_98 (by decide) hf (fun c28 hf => ?_) (fun c28 hf => ?_)
      · exact e_vH dX6_layOut_194 rfl hf
      · refine r_iconst (v := 0) dX6_layOut_101 (by decide) ?_
        refine r_istore_nA dX6_layOut_102 (by decide) ?_
        refine r_fix (σ := Int32 × Hp) (fun s13 => [some (.ref a0), some (.int s10.1), some (.int s13.1), none]) (fun s13 => s13.2) (fun self14 ih15 s13 hf => ?_) F ((0 : Int32), s10.2) hf
        refine r_iload_n dX6_layOut_103 rfl ?_
        refine r_aload_n dX6_layOut_104 rfl ?_
        refine r_getI dX6_layOut_105 k0 ft_X6_40 rfl ?_
        refine r_icmp_ge 159 dX6_layOut_108 (by decide) hf (fun c27 hf => ?_) (fun c27 hf => ?_)
        · refine r_iconst (v := 0) dX6_layOut_159 (by decide) ?_
          refine r_istore_nA dX6_layOut_160 (by decide) ?_
          refine r_fix (σ := Int32 × Hp) (fun s16 => [some (.ref a0), some (.int s10.1), some (.int s16.1), none]) (fun s16 => s16.2) (fun self17 ih18 s16 hf => ?_) F ((0 : Int32), s13.2) hf
          refine r_iload_n dX6_layOut_161 rfl ?_
          refine r_iconst (v := 4) dX6_layOut_162 (by decide) ?_
          refine r_icmp_ge 188 dX6_layOut_163 (by decide) hf (fun c21 hf => ?_) (fun c21 hf => ?_)
          · refine r_iincA (v := 1) dX6_layOut_188 rfl (by decide) (by decide) ?_
            refine r_goto 93 dX6_layOut_191 (by decide) ?_
            refine r_lt (ll_s (ll_s (ll_n (ll_n ll_0)))) ?_
            exact ih12 _ hf
          · refine r_aload_n dX6_layOut_166 rfl ?_
            refine r_getS (b := rf a0 12) dX6_layOut_167 k0 ft_X6_27 rfl rfl ?_
            refine r_iload_n dX6_layOut_170 rfl ?_
            refine r_iconst (v := 4) dX6_layOut_171 (by decide) ?_
            refine r_imul dX6_layOut_172 ?_
            refine r_iload_n dX6_layOut_173 rfl ?_
            refine r_iadd dX6_layOut_174 ?_
            refine r_aload_n dX6_layOut_175 rfl ?_
            refine r_iload_n dX6_layOut_176 rfl ?_
            refine r_iload_n dX6_layOut_177 rfl ?_
            obtain ⟨v19, hv, hf⟩ := bnd hf
            refine r_callV (lv := 2) dX6_layOut_178 yo_X6_neighbour yi_X6_neighbour ml_X6_87 ya_X6_neighbour k0 ⟨_, rfl, rfl⟩ (Fits.vm (by decide)) rfl rfl (Nat.le_of_ble_eq_true rfl) (S_X6_neighbour a0 s10.1 s16.1 k0 s16.2  _ hv) ?_
            refine r_iast dX6_layOut_181 (sf_6_12 k0) hf fun h20 hf => ?_
            refine r_iincA (v := 1) dX6_layOut_182 rfl (by decide) (by decide) ?_
            refine r_goto 161 dX6_layOut_185 (by decide) ?_
            exact ih18 _ hf
        · refine r_aload_n dX6_layOut_111 rfl ?_
          refine r_iload_n dX6_layOut_112 rfl ?_
          obtain ⟨v22, hv, hf⟩ := bnd hf
          refine r_callV (lv := 1) dX6_layOut_113 yo_X6_columnOf yi_X6_columnOf ml_X6_78 ya_X6_columnOf k0 ⟨_, rfl, rfl⟩ (Fits.vm (by decide)) rfl rfl (Nat.le_of_ble_eq_true rfl) (S_X6_columnOf a0 s10.1 k0 s13.2  _ hv) ?_
          refine r_aload_n dX6_layOut_116 rfl ?_
          refine r_iload_n dX6_layOut_117 rfl ?_
          obtain ⟨v23, hv, hf⟩ := bnd hf
          refine r_callV (lv := 1) dX6_layOut_118 yo_X6_columnOf yi_X6_columnOf ml_X6_78 ya_X6_columnOf k0 ⟨_, rfl, rfl⟩ (Fits.vm (by decide)) rfl rfl (Nat.le_of_ble_eq_true rfl) (S_X6_columnOf a0 s13.1 k0 s13.2  _ hv) ?_
          refine r_isub dX6_layOut_121 ?_
          refine r_mabs dX6_layOut_122 ml_X6_81 wm_abs_s wm_i wm_abs_c (Fits.vm (by decide)) (Nat.le_of_ble_eq_true rfl) ?_
          refine r_istore_nA dX6_layOut_125 (by decide) ?_
          refine r_aload_n dX6_layOut_126 rfl ?_
          refine r_getS (b := rf a0 11) dX6_layOut_127 k0 ft_X6_24 rfl rfl ?_
          refine r_iload_n dX6_layOut_130 rfl ?_
          refine r_bipush (v := 12) dX6_layOut_131 (by decide) ?_
          refine r_imul dX6_layOut_133 ?_
          refine r_iload_n dX6_layOut_134 rfl ?_
          refine r_iadd dX6_layOut_135 ?_
          refine r_iload_n dX6_layOut_136 rfl ?_
          refine r_aload_n dX6_layOut_137 rfl ?_
          refine r_iload_n dX6_layOut_138 rfl ?_
          obtain ⟨v24, hv, hf⟩ := bnd hf
          refine r_callV (lv := 1) dX6_layOut_139 yo_X6_lineOf yi_X6_lineOf ml_X6_84 ya_X6_lineOf k0 ⟨_, rfl, rfl⟩ (Fits.vm (by decide)) rfl rfl (Nat.le_of_ble_eq_true rfl) (S_X6_lineOf a0 s10.1 k0 s13.2  _ hv) ?_
          refine r_aload_n dX6_layOut_142 rfl ?_
          refine r_iload_n dX6_layOut_143 rfl ?_
          obtain ⟨v25, hv, hf⟩ := bnd hf
          refine r_callV (lv := 1) dX6_layOut_144 yo_X6_lineOf yi_X6_lineOf ml_X6_84 ya_X6_lineOf k0 ⟨_, rfl, rfl⟩ (Fits.vm (by decide)) rfl rfl (Nat.le_of_ble_eq_true rfl) (S_X6_lineOf a0 s13.1 k0 s13.2  _ hv) ?_
          refine r_isub dX6_layOut_147 ?_
          refine r_mabs dX6_layOut_148 ml_X6_81 wm_abs_s wm_i wm_abs_c (Fits.vm (by decide)) (Nat.le_of_ble_eq_true rfl) ?_
          refine r_iadd dX6_layOut_151 ?_
          refine r_iast dX6_layOut_152 (sf_6_11 k0) hf fun h26 hf => ?_
          refine r_iincA (v := 1) dX6_layOut_153 rfl (by decide) (by decide) ?_
          refine r_goto 103 dX6_layOut_156 (by decide) ?_
          refine r_lt (ll_s (ll_s (ll_s (ll_n ll_0)))) ?_
          exact ih15 _ hf
    · refine r_aload_n dX6_layOut_55 rfl ?_
      refine r_getS (b := rf a0 13) dX6_layOut_56 k0 ft_X6_30 rfl rfl ?_
      refine r_iload_n dX6_layOut_59 rfl ?_
      refine r_iconst (v := 4) dX6_layOut_60 (by decide) ?_
      refine r_imul dX6_layOut_61 ?_
      refine r_iload_n dX6_layOut_62 rfl ?_
      refine r_iadd dX6_layOut_63 ?_
      refine r_aload_n dX6_layOut_64 rfl ?_
      refine r_iload_n dX6_layOut_65 rfl ?_
      obtain ⟨v29, hv, hf⟩ := bnd hf
      refine r_callV (lv := 1) dX6_layOut_66 yo_X6_secondEnd yi_X6_secondEnd ml_X6_74 ya_X6_secondEnd k0 ⟨_, rfl, rfl⟩ (Fits.vm (by decide)) rfl rfl (Nat.le_of_ble_eq_true rfl) (S_X6_secondEnd a0 s7.1 k0 s7.2  _ hv) ?_
      refine r_iast dX6_layOut_69 (sf_6_13 k0) hf fun h30 hf => ?_
      refine r_aload_n dX6_layOut_70 rfl ?_
      refine r_getS (b := rf a0 13) dX6_layOut_71 k0 ft_X6_30 rfl rfl ?_
      refine r_iload_n dX6_layOut_74 rfl ?_
      refine r_iconst (v := 4) dX6_layOut_75 (by decide) ?_
      refine r_imul dX6_layOut_76 ?_
      refine r_aload_n dX6_layOut_77 rfl ?_
      refine r_iload_n dX6_layOut_78 rfl ?_
      obtain ⟨v31, hv, hf⟩ := bnd hf
      refine r_callV (lv := 1) dX6_layOut_79 yo_X6_secondEnd yi_X6_secondEnd ml_X6_74 ya_X6_secondEnd k0 ⟨_, rfl, rfl⟩ (Fits.vm (by decide)) rfl rfl (Nat.le_of_ble_eq_true rfl) (S_X6_secondEnd a0 s7.1 k0 h30  _ hv) ?_
      refine r_iadd dX6_layOut_82 ?_
      refine r_iload_n dX6_layOut_83 rfl ?_
      refine r_iast dX6_layOut_84 (sf_6_13 k0) hf fun h32 hf => ?_
      refine r_iincA (v := 1) dX6_layOut_85 rfl (by decide) (by decide) ?_
      refine r_goto 47 dX6_layOut_88 (by decide) ?_
      exact ih9 _ hf
  · refine r_if_eq 23 dX6_layOut_5 (by decide) hf (fun c4 hf => ?_) (fun c4 hf => ?_)
    · refine r_aload_n dX6_layOut_23 rfl ?_
      refine r_getI dX6_layOut_24 k0 ft_X6_46 rfl ?_
      refine r_iconst (v := 1) dX6_layOut_27 (by decide) ?_
      refine r_isub dX6_layOut_28 ?_
      refine r_iconst (v := 0) dX6_layOut_29 (by decide) ?_
      refine r_mmax dX6_layOut_30 ml_X6_62 wm_max_s wm_i wm_max_c (Fits.vm (by decide)) (Nat.le_of_ble_eq_true rfl) ?_
      cases hf; exact key2
    · refine r_aload_n dX6_layOut_8 rfl ?_
      refine r_getI dX6_layOut_9 k0 ft_X6_46 rfl ?_
      refine r_iconst (v := 3) dX6_layOut_12 (by decide) ?_
      refine r_icmp_lt 23 dX6_layOut_13 (by decide) hf (fun c3 hf => ?_) (fun c3 hf => ?_)
      · refine r_aload_n dX6_layOut_23 rfl ?_
        refine r_getI dX6_layOut_24 k0 ft_X6_46 rfl ?_
        refine r_iconst (v := 1) dX6_layOut_27 (by decide) ?_
        refine r_isub dX6_layOut_28 ?_
        refine r_iconst (v := 0) dX6_layOut_29 (by decide) ?_
        refine r_mmax dX6_layOut_30 ml_X6_62 wm_max_s wm_i wm_max_c (Fits.vm (by decide)) (Nat.le_of_ble_eq_true rfl) ?_
        cases hf; exact key2
      · refine r_aload_n dX6_layOut_16 rfl ?_
        refine r_getI dX6_layOut_17 k0 ft_X6_46 rfl ?_
        refine r_goto 33 dX6_layOut_20 (by decide) ?_
        cases hf; exact key2
def f_X1_readForm (F : Nat)  (h : Hp) : Option (Int32 × Hp) :=
  (if (gI h 17 2) ≤ (gI h 17 3) then (
    (ckZ (0 : Int32)).bind fun z => some (z, h))
  else (
    (f_X1_sign h).bind fun v1 =>
    jn (α := (Unit) → Option (Int32 × Hp)) (fun t2 =>
      (gO h 17 4 (0, 6, 14)).bind fun y5 =>
      (f_X1_sign h).bind fun v6 =>
      (Option.bind (α := Int32) (
        (if v6 = (114 : Int32) then (
          some (1 : Int32))
        else (
          some (0 : Int32)))) fun t7 =>
      (ckZ t7).bind fun z11 => nm (sI h y5 6 z11) fun h10 =>
      (gO h10 17 4 (0, 6, 14)).bind fun y12 =>
      (f_X6_layOut F y12 h10).bind fun h13 =>
      nm (sI h13 17 3 ((gI h13 17 3) + (1 : Int32))) fun h14 =>
      (ckZ (1 : Int32)).bind fun z => some (z, h14))) fun j3 =>
    (if v1 = (119 : Int32) then (
      j3 ())
    else (
      (f_X1_sign h).bind fun v15 =>
      (if v15 = (114 : Int32) then (
        j3 ())
      else (
        (ckZ (0 : Int32)).bind fun z => some (z, h)))))))
set_option maxRecDepth 100000 in
set_option maxHeartbeats 4000000 in
theorem S_X1_readForm (F : Nat)  (h : Hp) (r : (Int32 × Hp)) (hf : f_X1_readForm F h = some r) : MetP Y_X1_readForm 5 [.ref 17] h (some (.int r.1), r.2) := by
  unfold f_X1_readForm at hf
  refine met_of yo_X1_readForm (Nat.le_of_ble_eq_true rfl) ?_
  show Run Y_X1_readForm _ 0 [some (.ref 17)] [] h
  refine r_aload_n dX1_readForm_0 rfl ?_
  refine r_getI dX1_readForm_1 sh_17 ft_X1_27 rfl ?_
  refine r_aload_n dX1_readForm_4 rfl ?_
  refine r_getI dX1_readForm_5 sh_17 ft_X1_25 rfl ?_
  refine r_icmp_ge 29 dX1_readForm_8 (by decide) hf (fun c18 hf => ?_) (fun c18 hf => ?_)
  · refine r_iconst (v := 0) dX1_readForm_29 (by decide) ?_
    exact e_zH dX1_readForm_30 rfl hf
  · refine r_aload_n dX1_readForm_11 rfl ?_
    obtain ⟨v1, hv, hf⟩ := bnd hf
    refine r_callV (lv := 4) dX1_readForm_12 yo_X1_sign yi_X1_sign ml_X1_56 ya_X1_sign sh_17 ⟨_, rfl, rfl⟩ (Fits.vm (by decide)) rfl rfl (Nat.le_of_ble_eq_true rfl) (S_X1_sign  h  _ hv) ?_
    refine r_bipush (v := 119) dX1_readForm_15 (by decide) ?_
    refine r_jn (P := fun t2 => Run Y_X1_readForm (VM 5 (some (.int r.1), r.2)) 31 [some (.ref 17)] [] h) hf (fun t2 hf => ?_) (fun j3 ih4 hf => ?_)
    · refine r_aload_n dX1_readForm_31 rfl ?_
      refine r_getR (E := (0, 6, 14)) dX1_readForm_32 sh_17 ft_X1_30 rfl hf fun y5 hy5 hf => ?_
      refine r_aload_n dX1_readForm_35 rfl ?_
      obtain ⟨v6, hv, hf⟩ := bnd hf
      refine r_callV (lv := 4) dX1_readForm_36 yo_X1_sign yi_X1_sign ml_X1_56 ya_X1_sign sh_17 ⟨_, rfl, rfl⟩ (Fits.vm (by decide)) rfl rfl (Nat.le_of_ble_eq_true rfl) (S_X1_sign  h  _ hv) ?_
      refine r_bipush (v := 114) dX1_readForm_39 (by decide) ?_
      refine r_reg (P := fun t7 => Run Y_X1_readForm (VM 5 (some (.int r.1), r.2)) 49 [some (.ref 17)] [.int t7, .ref y5] h) hf (fun t7 hf => ?_) (fun t7 key8 hf => ?_)
      · refine r_putZ dX1_readForm_49 hy5 ft_X1_92 rfl hf fun h10 hf => ?_
        refine r_aload_n dX1_readForm_52 rfl ?_
        refine r_getR (E := (0, 6, 14)) dX1_readForm_53 sh_17 ft_X1_30 rfl hf fun y12 hy12 hf => ?_
        obtain ⟨h13, hv, hf⟩ := bnd hf
        refine r_callV (lv := 3) dX1_readForm_56 yo_X6_layOut yi_X6_layOut ml_X1_96 ya_X6_layOut hy12 ⟨_, rfl, rfl⟩ (Fits.vm (by decide)) rfl rfl (Nat.le_of_ble_eq_true rfl) (S_X6_layOut F y12 hy12 h10  _ hv) ?_
        refine r_aload_n dX1_readForm_59 rfl ?_
        refine r_dup dX1_readForm_60 rfl ?_
        refine r_getI dX1_readForm_61 sh_17 ft_X1_27 rfl ?_
        refine r_iconst (v := 1) dX1_readForm_64 (by decide) ?_
        refine r_iadd dX1_readForm_65 ?_
        refine r_putI dX1_readForm_66 sh_17 ft_X1_27 rfl hf fun h14 hf => ?_
        refine r_iconst (v := 1) dX1_readForm_69 (by decide) ?_
        exact e_zH dX1_readForm_70 rfl hf
      · refine r_icmp_ne 48 dX1_readForm_41 (by decide) hf (fun c9 hf => ?_) (fun c9 hf => ?_)
        · refine r_iconst (v := 0) dX1_readForm_48 (by decide) ?_
          cases hf; exact key8
        · refine r_iconst (v := 1) dX1_readForm_44 (by decide) ?_
          refine r_goto 49 dX1_readForm_45 (by decide) ?_
          cases hf; exact key8
    refine r_icmp_eq 31 dX1_readForm_17 (by decide) hf (fun c17 hf => ?_) (fun c17 hf => ?_)
    · exact ih4 _ hf
    · refine r_aload_n dX1_readForm_20 rfl ?_
      obtain ⟨v15, hv, hf⟩ := bnd hf
      refine r_callV (lv := 4) dX1_readForm_21 yo_X1_sign yi_X1_sign ml_X1_56 ya_X1_sign sh_17 ⟨_, rfl, rfl⟩ (Fits.vm (by decide)) rfl rfl (Nat.le_of_ble_eq_true rfl) (S_X1_sign  h  _ hv) ?_
      refine r_bipush (v := 114) dX1_readForm_24 (by decide) ?_
      refine r_icmp_eq 31 dX1_readForm_26 (by decide) hf (fun c16 hf => ?_) (fun c16 hf => ?_)
      · exact ih4 _ hf
      · refine r_iconst (v := 0) dX1_readForm_29 (by decide) ?_
        exact e_zH dX1_readForm_30 rfl hf
def f_X6_giveLength (F : Nat) (a0 : Nat) (x1_ : Int32) (x2_ : Int32) (h : Hp) : Option Hp :=
  fix (σ := Int32 × Int32) (ρ := Hp) (fun self2 s1 =>
    (if (2 : Int32) ≤ s1.2 then (
      (stI h (rf a0 9) x1_ x2_).bind fun h4 =>
      (stI h4 (rf a0 10) x1_ (mxI s1.1 (1 : Int32))).bind fun h5 =>
      some h5)
    else (
      (Option.bind (α := Int32) (
        (if s1.2 = 0 then (
          some x1_)
        else (
          (f_X6_secondEnd a0 x1_ h).bind fun v8 =>
          some v8))) fun t6 =>
      (ldI h (rf a0 7) t6).bind fun v10 =>
      (Option.bind (α := Int32) (
        (if v10 = (1 : Int32) then (
          some (1 : Int32))
        else (
          (if v10 = (5 : Int32) then (
            some (-1 : Int32))
          else (
            some (0 : Int32)))))) fun t11 =>
      self2 ((s1.1 + t11), (s1.2 + 1))))))) F (x2_, (0 : Int32))
set_option maxRecDepth 100000 in
set_option maxHeartbeats 4000000 in
theorem S_X6_giveLength (F : Nat) (a0 : Nat) (x1_ : Int32) (x2_ : Int32) (k0 : sh a0 = (0, 6, 14)) (h : Hp) (r : Hp) (hf : f_X6_giveLength F a0 x1_ x2_ h = some r) : MetP Y_X6_giveLength 2 [.ref a0, .int x1_, .int x2_] h (none, r) := by
  unfold f_X6_giveLength at hf
  refine met_of yo_X6_giveLength (Nat.le_of_ble_eq_true rfl) ?_
  show Run Y_X6_giveLength _ 0 [some (.ref a0), some (.int x1_), some (.int x2_), none, none, none] [] h
  refine r_iload_n dX6_giveLength_0 rfl ?_
  refine r_istore_nA dX6_giveLength_1 (by decide) ?_
  refine r_iconst (v := 0) dX6_giveLength_2 (by decide) ?_
  refine r_istoreA dX6_giveLength_3 (by decide) ?_
  refine r_fix (σ := Int32 × Int32) (fun s1 => [some (.ref a0), some (.int x1_), some (.int x2_), some (.int s1.1), some (.int s1.2), none]) (fun s1 => h) (fun self2 ih3 s1 hf => ?_) F (x2_, (0 : Int32)) hf
  refine r_iload dX6_giveLength_5 rfl ?_
  refine r_iconst (v := 2) dX6_giveLength_7 (by decide) ?_
  refine r_icmp_ge 62 dX6_giveLength_8 (by decide) hf (fun c15 hf => ?_) (fun c15 hf => ?_)
  · refine r_aload_n dX6_giveLength_62 rfl ?_
    refine r_getS (b := rf a0 9) dX6_giveLength_63 k0 ft_X6_18 rfl rfl ?_
    refine r_iload_n dX6_giveLength_66 rfl ?_
    refine r_iload_n dX6_giveLength_67 rfl ?_
    refine r_iast dX6_giveLength_68 (sf_6_9 k0) hf fun h4 hf => ?_
    refine r_aload_n dX6_giveLength_69 rfl ?_
    refine r_getS (b := rf a0 10) dX6_giveLength_70 k0 ft_X6_21 rfl rfl ?_
    refine r_iload_n dX6_giveLength_73 rfl ?_
    refine r_iload_n dX6_giveLength_74 rfl ?_
    refine r_iconst (v := 1) dX6_giveLength_75 (by decide) ?_
    refine r_mmax dX6_giveLength_76 ml_X6_62 wm_max_s wm_i wm_max_c (Fits.vm (by decide)) (Nat.le_of_ble_eq_true rfl) ?_
    refine r_iast dX6_giveLength_79 (sf_6_10 k0) hf fun h5 hf => ?_
    exact e_vH dX6_giveLength_80 rfl hf
  · refine r_aload_n dX6_giveLength_11 rfl ?_
    refine r_getS (b := rf a0 7) dX6_giveLength_12 k0 ft_X6_9 rfl rfl ?_
    refine r_iload dX6_giveLength_15 rfl ?_
    refine r_reg (P := fun t6 => Run Y_X6_giveLength (VM 2 (none, r)) 29 [some (.ref a0), some (.int x1_), some (.int x2_), some (.int s1.1), some (.int s1.2), none] [.int t6, .ref (rf a0 7)] h) hf (fun t6 hf => ?_) (fun t6 key7 hf => ?_)
    · refine r_iald dX6_giveLength_29 (sf_6_7 k0) hf fun v10 hf => ?_
      refine r_istoreA dX6_giveLength_30 (by decide) ?_
      refine r_iload_n dX6_giveLength_32 rfl ?_
      refine r_iload dX6_giveLength_33 rfl ?_
      refine r_iconst (v := 1) dX6_giveLength_35 (by decide) ?_
      refine r_reg (P := fun t11 => Run Y_X6_giveLength (VM 2 (none, r)) 54 [some (.ref a0), some (.int x1_), some (.int x2_), some (.int s1.1), some (.int s1.2), some (.int v10)] [.int t11, .int s1.1] h) hf (fun t11 hf => ?_) (fun t11 key12 hf => ?_)
      · refine r_iadd dX6_giveLength_54 ?_
        refine r_istore_nA dX6_giveLength_55 (by decide) ?_
        refine r_iincA (v := 1) dX6_giveLength_56 rfl (by decide) (by decide) ?_
        refine r_goto 5 dX6_giveLength_59 (by decide) ?_
        refine r_lt (ll_s (ll_s (ll_s (ll_s (ll_s (ll_n ll_0)))))) ?_
        exact ih3 _ hf
      · refine r_icmp_ne 43 dX6_giveLength_36 (by decide) hf (fun c14 hf => ?_) (fun c14 hf => ?_)
        · refine r_iload dX6_giveLength_43 rfl ?_
          refine r_iconst (v := 5) dX6_giveLength_45 (by decide) ?_
          refine r_icmp_ne 53 dX6_giveLength_46 (by decide) hf (fun c13 hf => ?_) (fun c13 hf => ?_)
          · refine r_iconst (v := 0) dX6_giveLength_53 (by decide) ?_
            cases hf; exact key12
          · refine r_iconst (v := -1) dX6_giveLength_49 (by decide) ?_
            refine r_goto 54 dX6_giveLength_50 (by decide) ?_
            cases hf; exact key12
        · refine r_iconst (v := 1) dX6_giveLength_39 (by decide) ?_
          refine r_goto 54 dX6_giveLength_40 (by decide) ?_
          cases hf; exact key12
    · refine r_if_ne 24 dX6_giveLength_17 (by decide) hf (fun c9 hf => ?_) (fun c9 hf => ?_)
      · refine r_aload_n dX6_giveLength_24 rfl ?_
        refine r_iload_n dX6_giveLength_25 rfl ?_
        obtain ⟨v8, hv, hf⟩ := bnd hf
        refine r_callV (lv := 1) dX6_giveLength_26 yo_X6_secondEnd yi_X6_secondEnd ml_X6_74 ya_X6_secondEnd k0 ⟨_, rfl, rfl⟩ (Fits.vm (by decide)) rfl rfl (Nat.le_of_ble_eq_true rfl) (S_X6_secondEnd a0 x1_ k0 h  _ hv) ?_
        cases hf; exact key7
      · refine r_iload_n dX6_giveLength_20 rfl ?_
        refine r_goto 29 dX6_giveLength_21 (by decide) ?_
        cases hf; exact key7
def f_X6_distance (a0 : Nat) (x1_ : Int32) (x2_ : Int32) (h : Hp) : Option Int32 :=
  (Option.bind (α := Int32) (
    (if x1_ < 0 then (
      some (0 : Int32))
    else (
      (if x2_ < 0 then (
        some (0 : Int32))
      else (
        (if (12 : Int32) ≤ x1_ then (
          some (0 : Int32))
        else (
          (if x2_ < (12 : Int32) then (
            (ldI h (rf a0 11) ((x1_ * (12 : Int32)) + x2_)).bind fun v3 =>
            some v3)
          else (
            some (0 : Int32)))))))))) fun t1 =>
  some t1)
set_option maxRecDepth 100000 in
set_option maxHeartbeats 4000000 in
theorem S_X6_distance (a0 : Nat) (x1_ : Int32) (x2_ : Int32) (k0 : sh a0 = (0, 6, 14)) (h : Hp) (r : Int32) (hf : f_X6_distance a0 x1_ x2_ h = some r) : MetP Y_X6_distance 1 [.ref a0, .int x1_, .int x2_] h (some (.int r), h) := by
  unfold f_X6_distance at hf
  refine met_of yo_X6_distance (Nat.le_of_ble_eq_true rfl) ?_
  show Run Y_X6_distance _ 0 [some (.ref a0), some (.int x1_), some (.int x2_)] [] h
  refine r_iload_n dX6_distance_0 rfl ?_
  refine r_reg (P := fun t1 => Run Y_X6_distance (VM 1 (some (.int r), h)) 35 [some (.ref a0), some (.int x1_), some (.int x2_)] [.int t1] h) hf (fun t1 hf => ?_) (fun t1 key2 hf => ?_)
  · exact e_iP dX6_distance_35 rfl hf
  · refine r_if_lt 20 dX6_distance_1 (by decide) hf (fun c7 hf => ?_) (fun c7 hf => ?_)
    · refine r_iconst (v := 0) dX6_distance_20 (by decide) ?_
      refine r_goto 35 dX6_distance_21 (by decide) ?_
      cases hf; exact key2
    · refine r_iload_n dX6_distance_4 rfl ?_
      refine r_if_lt 20 dX6_distance_5 (by decide) hf (fun c6 hf => ?_) (fun c6 hf => ?_)
      · refine r_iconst (v := 0) dX6_distance_20 (by decide) ?_
        refine r_goto 35 dX6_distance_21 (by decide) ?_
        cases hf; exact key2
      · refine r_iload_n dX6_distance_8 rfl ?_
        refine r_bipush (v := 12) dX6_distance_9 (by decide) ?_
        refine r_icmp_ge 20 dX6_distance_11 (by decide) hf (fun c5 hf => ?_) (fun c5 hf => ?_)
        · refine r_iconst (v := 0) dX6_distance_20 (by decide) ?_
          refine r_goto 35 dX6_distance_21 (by decide) ?_
          cases hf; exact key2
        · refine r_iload_n dX6_distance_14 rfl ?_
          refine r_bipush (v := 12) dX6_distance_15 (by decide) ?_
          refine r_icmp_lt 24 dX6_distance_17 (by decide) hf (fun c4 hf => ?_) (fun c4 hf => ?_)
          · refine r_aload_n dX6_distance_24 rfl ?_
            refine r_getS (b := rf a0 11) dX6_distance_25 k0 ft_X6_24 rfl rfl ?_
            refine r_iload_n dX6_distance_28 rfl ?_
            refine r_bipush (v := 12) dX6_distance_29 (by decide) ?_
            refine r_imul dX6_distance_31 ?_
            refine r_iload_n dX6_distance_32 rfl ?_
            refine r_iadd dX6_distance_33 ?_
            refine r_iald dX6_distance_34 (sf_6_11 k0) hf fun v3 hf => ?_
            cases hf; exact key2
          · refine r_iconst (v := 0) dX6_distance_20 (by decide) ?_
            refine r_goto 35 dX6_distance_21 (by decide) ?_
            cases hf; exact key2
def f_X6_keepsAtFirst (a0 : Nat) (x1_ : Int32) (h : Hp) : Option Int32 :=
  (ldI h (rf a0 8) x1_).bind fun v1 =>
  (f_X6_secondEnd a0 x1_ h).bind fun v2 =>
  (ldI h (rf a0 8) v2).bind fun v3 =>
  (f_X6_distance a0 v1 v3 h).bind fun v4 =>
  (ldI h (rf a0 10) x1_).bind fun v5 =>
  (Option.bind (α := Int32) (
    (if v5 < v4 then (
      some (0 : Int32))
    else (
      some (1 : Int32)))) fun t6 =>
  ckZ t6)
set_option maxRecDepth 100000 in
set_option maxHeartbeats 4000000 in
theorem S_X6_keepsAtFirst (a0 : Nat) (x1_ : Int32) (k0 : sh a0 = (0, 6, 14)) (h : Hp) (r : Int32) (hf : f_X6_keepsAtFirst a0 x1_ h = some r) : MetP Y_X6_keepsAtFirst 2 [.ref a0, .int x1_] h (some (.int r), h) := by
  unfold f_X6_keepsAtFirst at hf
  refine met_of yo_X6_keepsAtFirst (Nat.le_of_ble_eq_true rfl) ?_
  show Run Y_X6_keepsAtFirst _ 0 [some (.ref a0), some (.int x1_)] [] h
  refine r_aload_n dX6_keepsAtFirst_0 rfl ?_
  refine r_aload_n dX6_keepsAtFirst_1 rfl ?_
  refine r_getS (b := rf a0 8) dX6_keepsAtFirst_2 k0 ft_X6_15 rfl rfl ?_
  refine r_iload_n dX6_keepsAtFirst_5 rfl ?_
  refine r_iald dX6_keepsAtFirst_6 (sf_6_8 k0) hf fun v1 hf => ?_
  refine r_aload_n dX6_keepsAtFirst_7 rfl ?_
  refine r_getS (b := rf a0 8) dX6_keepsAtFirst_8 k0 ft_X6_15 rfl rfl ?_
  refine r_aload_n dX6_keepsAtFirst_11 rfl ?_
  refine r_iload_n dX6_keepsAtFirst_12 rfl ?_
  obtain ⟨v2, hv, hf⟩ := bnd hf
  refine r_callV (lv := 1) dX6_keepsAtFirst_13 yo_X6_secondEnd yi_X6_secondEnd ml_X6_74 ya_X6_secondEnd k0 ⟨_, rfl, rfl⟩ (Fits.vm (by decide)) rfl rfl (Nat.le_of_ble_eq_true rfl) (S_X6_secondEnd a0 x1_ k0 h  _ hv) ?_
  refine r_iald dX6_keepsAtFirst_16 (sf_6_8 k0) hf fun v3 hf => ?_
  obtain ⟨v4, hv, hf⟩ := bnd hf
  refine r_callV (lv := 1) dX6_keepsAtFirst_17 yo_X6_distance yi_X6_distance ml_X6_94 ya_X6_distance k0 ⟨_, rfl, rfl⟩ (Fits.vm (by decide)) rfl rfl (Nat.le_of_ble_eq_true rfl) (S_X6_distance a0 v1 v3 k0 h  _ hv) ?_
  refine r_aload_n dX6_keepsAtFirst_20 rfl ?_
  refine r_getS (b := rf a0 10) dX6_keepsAtFirst_21 k0 ft_X6_21 rfl rfl ?_
  refine r_iload_n dX6_keepsAtFirst_24 rfl ?_
  refine r_iald dX6_keepsAtFirst_25 (sf_6_10 k0) hf fun v5 hf => ?_
  refine r_reg (P := fun t6 => Run Y_X6_keepsAtFirst (VM 2 (some (.int r), h)) 34 [some (.ref a0), some (.int x1_)] [.int t6] h) hf (fun t6 hf => ?_) (fun t6 key7 hf => ?_)
  · exact e_zP dX6_keepsAtFirst_34 rfl hf
  · refine r_icmp_gt 33 dX6_keepsAtFirst_26 (by decide) hf (fun c8 hf => ?_) (fun c8 hf => ?_)
    · refine r_iconst (v := 0) dX6_keepsAtFirst_33 (by decide) ?_
      cases hf; exact key7
    · refine r_iconst (v := 1) dX6_keepsAtFirst_29 (by decide) ?_
      refine r_goto 34 dX6_keepsAtFirst_30 (by decide) ?_
      cases hf; exact key7
def f_X1_readChains (F : Nat)  (h : Hp) : Option (Int32 × Hp) :=
  fix (σ := Int32 × Hp) (ρ := (Int32 × Hp)) (fun self2 s1 =>
    (gO s1.2 17 4 (0, 6, 14)).bind fun y4 =>
    (if (gI s1.2 y4 5) ≤ s1.1 then (
      (ckZ (1 : Int32)).bind fun z => some (z, s1.2))
    else (
      (if (gI s1.2 17 2) ≤ (gI s1.2 17 3) then (
        (ckZ (0 : Int32)).bind fun z => some (z, s1.2))
      else (
        (f_X1_sign s1.2).bind fun v5 =>
        (if v5 < (49 : Int32) then (
          (ckZ (0 : Int32)).bind fun z => some (z, s1.2))
        else (
          (f_X1_sign s1.2).bind fun v6 =>
          (if v6 ≤ (57 : Int32) then (
            (gO s1.2 17 4 (0, 6, 14)).bind fun y7 =>
            (f_X1_sign s1.2).bind fun v8 =>
            (f_X6_giveLength F y7 s1.1 (v8 - (48 : Int32)) s1.2).bind fun h9 =>
            (gO h9 17 4 (0, 6, 14)).bind fun y10 =>
            (f_X6_keepsAtFirst y10 s1.1 h9).bind fun v11 =>
            (if v11 = 0 then (
              (ckZ (0 : Int32)).bind fun z => some (z, h9))
            else (
              nm (sI h9 17 3 ((gI h9 17 3) + (1 : Int32))) fun h12 =>
              self2 ((s1.1 + 1), h12))))
          else (
            (ckZ (0 : Int32)).bind fun z => some (z, s1.2)))))))))) F ((0 : Int32), h)
set_option maxRecDepth 100000 in
set_option maxHeartbeats 4000000 in
theorem S_X1_readChains (F : Nat)  (h : Hp) (r : (Int32 × Hp)) (hf : f_X1_readChains F h = some r) : MetP Y_X1_readChains 5 [.ref 17] h (some (.int r.1), r.2) := by
  unfold f_X1_readChains at hf
  refine met_of yo_X1_readChains (Nat.le_of_ble_eq_true rfl) ?_
  show Run Y_X1_readChains _ 0 [some (.ref 17), none] [] h
  refine r_iconst (v := 0) dX1_readChains_0 (by decide) ?_
  refine r_istore_nA dX1_readChains_1 (by decide) ?_
  refine r_fix (σ := Int32 × Hp) (fun s1 => [some (.ref 17), some (.int s1.1)]) (fun s1 => s1.2) (fun self2 ih3 s1 hf => ?_) F ((0 : Int32), h) hf
  refine r_iload_n dX1_readChains_2 rfl ?_
  refine r_aload_n dX1_readChains_3 rfl ?_
  refine r_getR (E := (0, 6, 14)) dX1_readChains_4 sh_17 ft_X1_30 rfl hf fun y4 hy4 hf => ?_
  refine r_getI dX1_readChains_7 hy4 ft_X1_99 rfl ?_
  refine r_icmp_ge 88 dX1_readChains_10 (by decide) hf (fun c17 hf => ?_) (fun c17 hf => ?_)
  · refine r_iconst (v := 1) dX1_readChains_88 (by decide) ?_
    exact e_zH dX1_readChains_89 rfl hf
  · refine r_aload_n dX1_readChains_13 rfl ?_
    refine r_getI dX1_readChains_14 sh_17 ft_X1_27 rfl ?_
    refine r_aload_n dX1_readChains_17 rfl ?_
    refine r_getI dX1_readChains_18 sh_17 ft_X1_25 rfl ?_
    refine r_icmp_ge 42 dX1_readChains_21 (by decide) hf (fun c16 hf => ?_) (fun c16 hf => ?_)
    · refine r_iconst (v := 0) dX1_readChains_42 (by decide) ?_
      exact e_zH dX1_readChains_43 rfl hf
    · refine r_aload_n dX1_readChains_24 rfl ?_
      obtain ⟨v5, hv, hf⟩ := bnd hf
      refine r_callV (lv := 4) dX1_readChains_25 yo_X1_sign yi_X1_sign ml_X1_56 ya_X1_sign sh_17 ⟨_, rfl, rfl⟩ (Fits.vm (by decide)) rfl rfl (Nat.le_of_ble_eq_true rfl) (S_X1_sign  s1.2  _ hv) ?_
      refine r_bipush (v := 49) dX1_readChains_28 (by decide) ?_
      refine r_icmp_lt 42 dX1_readChains_30 (by decide) hf (fun c15 hf => ?_) (fun c15 hf => ?_)
      · refine r_iconst (v := 0) dX1_readChains_42 (by decide) ?_
        exact e_zH dX1_readChains_43 rfl hf
      · refine r_aload_n dX1_readChains_33 rfl ?_
        obtain ⟨v6, hv, hf⟩ := bnd hf
        refine r_callV (lv := 4) dX1_readChains_34 yo_X1_sign yi_X1_sign ml_X1_56 ya_X1_sign sh_17 ⟨_, rfl, rfl⟩ (Fits.vm (by decide)) rfl rfl (Nat.le_of_ble_eq_true rfl) (S_X1_sign  s1.2  _ hv) ?_
        refine r_bipush (v := 57) dX1_readChains_37 (by decide) ?_
        refine r_icmp_le 44 dX1_readChains_39 (by decide) hf (fun c14 hf => ?_) (fun c14 hf => ?_)
        · refine r_aload_n dX1_readChains_44 rfl ?_
          refine r_getR (E := (0, 6, 14)) dX1_readChains_45 sh_17 ft_X1_30 rfl hf fun y7 hy7 hf => ?_
          refine r_iload_n dX1_readChains_48 rfl ?_
          refine r_aload_n dX1_readChains_49 rfl ?_
          obtain ⟨v8, hv, hf⟩ := bnd hf
          refine r_callV (lv := 4) dX1_readChains_50 yo_X1_sign yi_X1_sign ml_X1_56 ya_X1_sign sh_17 ⟨_, rfl, rfl⟩ (Fits.vm (by decide)) rfl rfl (Nat.le_of_ble_eq_true rfl) (S_X1_sign  s1.2  _ hv) ?_
          refine r_bipush (v := 48) dX1_readChains_53 (by decide) ?_
          refine r_isub dX1_readChains_55 ?_
          obtain ⟨h9, hv, hf⟩ := bnd hf
          refine r_callV (lv := 2) dX1_readChains_56 yo_X6_giveLength yi_X6_giveLength ml_X1_102 ya_X6_giveLength hy7 ⟨_, rfl, rfl⟩ (Fits.vm (by decide)) rfl rfl (Nat.le_of_ble_eq_true rfl) (S_X6_giveLength F y7 s1.1 (v8 - (48 : Int32)) hy7 s1.2  _ hv) ?_
          refine r_aload_n dX1_readChains_59 rfl ?_
          refine r_getR (E := (0, 6, 14)) dX1_readChains_60 sh_17 ft_X1_30 rfl hf fun y10 hy10 hf => ?_
          refine r_iload_n dX1_readChains_63 rfl ?_
          obtain ⟨v11, hv, hf⟩ := bnd hf
          refine r_callV (lv := 2) dX1_readChains_64 yo_X6_keepsAtFirst yi_X6_keepsAtFirst ml_X1_106 ya_X6_keepsAtFirst hy10 ⟨_, rfl, rfl⟩ (Fits.vm (by decide)) rfl rfl (Nat.le_of_ble_eq_true rfl) (S_X6_keepsAtFirst y10 s1.1 hy10 h9  _ hv) ?_
          refine r_if_ne 72 dX1_readChains_67 (by decide) hf (fun c13 hf => ?_) (fun c13 hf => ?_)
          · refine r_aload_n dX1_readChains_72 rfl ?_
            refine r_dup dX1_readChains_73 rfl ?_
            refine r_getI dX1_readChains_74 sh_17 ft_X1_27 rfl ?_
            refine r_iconst (v := 1) dX1_readChains_77 (by decide) ?_
            refine r_iadd dX1_readChains_78 ?_
            refine r_putI dX1_readChains_79 sh_17 ft_X1_27 rfl hf fun h12 hf => ?_
            refine r_iincA (v := 1) dX1_readChains_82 rfl (by decide) (by decide) ?_
            refine r_goto 2 dX1_readChains_85 (by decide) ?_
            exact ih3 _ hf
          · refine r_iconst (v := 0) dX1_readChains_70 (by decide) ?_
            exact e_zH dX1_readChains_71 rfl hf
        · refine r_iconst (v := 0) dX1_readChains_42 (by decide) ?_
          exact e_zH dX1_readChains_43 rfl hf
def f_X1_read (F : Nat) (a1 : Nat) (x2_ : Int32) (a3 : Nat) (h : Hp) : Option (Int32 × Hp) :=
  nm (sR h 17 0 (some a1)) fun h1 =>
  nm (sI h1 17 1 x2_) fun h2 =>
  (f_X4_size a1 x2_ h2).bind fun v3 =>
  nm (sI h2 17 2 v3) fun h4 =>
  nm (sI h4 17 3 (0 : Int32)) fun h5 =>
  nm (sR h5 17 4 (some a3)) fun h6 =>
  (gO h6 17 4 (0, 6, 14)).bind fun y7 =>
  (f_X6_clear y7 h6).bind fun h8 =>
  (f_X1_skipBlanks F h8).bind fun h9 =>
  (f_X1_readCells F h9).bind fun v10 =>
  (if v10.1 = 0 then (
    some ((gI v10.2 17 3), v10.2))
  else (
    (f_X1_readForm F v10.2).bind fun v11 =>
    (if v11.1 = 0 then (
      some ((gI v11.2 17 3), v11.2))
    else (
      (f_X1_readChains F v11.2).bind fun v12 =>
      (if v12.1 = 0 then (
        some ((gI v12.2 17 3), v12.2))
      else (
        (f_X1_skipBlanks F v12.2).bind fun h13 =>
        (Option.bind (α := Int32) (
          (if (gI h13 17 2) ≤ (gI h13 17 3) then (
            some (-9 : Int32))
          else (
            some (gI h13 17 3)))) fun t14 =>
        some (t14, h13))))))))
set_option maxRecDepth 100000 in
set_option maxHeartbeats 4000000 in
theorem S_X1_read (F : Nat) (a1 : Nat) (x2_ : Int32) (a3 : Nat) (k1 : sh a1 = (0, 4, 2)) (k3 : sh a3 = (0, 6, 14)) (h : Hp) (r : (Int32 × Hp)) (hf : f_X1_read F a1 x2_ a3 h = some r) : MetP Y_X1_read 6 [.ref 17, .ref a1, .int x2_, .ref a3] h (some (.int r.1), r.2) := by
  unfold f_X1_read at hf
  refine met_of yo_X1_read (Nat.le_of_ble_eq_true rfl) ?_
  show Run Y_X1_read _ 0 [some (.ref 17), some (.ref a1), some (.int x2_), some (.ref a3)] [] h
  refine r_aload_n dX1_read_0 rfl ?_
  refine r_aload_n dX1_read_1 rfl ?_
  refine r_putR dX1_read_2 sh_17 ft_X1_9 rfl hf fun h1 hf => ?_
  refine r_aload_n dX1_read_5 rfl ?_
  refine r_iload_n dX1_read_6 rfl ?_
  refine r_putI dX1_read_7 sh_17 ft_X1_15 rfl hf fun h2 hf => ?_
  refine r_aload_n dX1_read_10 rfl ?_
  refine r_aload_n dX1_read_11 rfl ?_
  refine r_iload_n dX1_read_12 rfl ?_
  obtain ⟨v3, hv, hf⟩ := bnd hf
  refine r_callV (lv := 2) dX1_read_13 yo_X4_size yi_X4_size ml_X1_19 ya_X4_size k1 ⟨_, rfl, rfl⟩ (Fits.vm (by decide)) rfl rfl (Nat.le_of_ble_eq_true rfl) (S_X4_size a1 x2_ k1 h2  _ hv) ?_
  refine r_putI dX1_read_16 sh_17 ft_X1_25 rfl hf fun h4 hf => ?_
  refine r_aload_n dX1_read_19 rfl ?_
  refine r_iconst (v := 0) dX1_read_20 (by decide) ?_
  refine r_putI dX1_read_21 sh_17 ft_X1_27 rfl hf fun h5 hf => ?_
  refine r_aload_n dX1_read_24 rfl ?_
  refine r_aload_n dX1_read_25 rfl ?_
  refine r_putR dX1_read_26 sh_17 ft_X1_30 rfl hf fun h6 hf => ?_
  refine r_aload_n dX1_read_29 rfl ?_
  refine r_getR (E := (0, 6, 14)) dX1_read_30 sh_17 ft_X1_30 rfl hf fun y7 hy7 hf => ?_
  obtain ⟨h8, hv, hf⟩ := bnd hf
  refine r_callV (lv := 1) dX1_read_33 yo_X6_clear yi_X6_clear ml_X1_34 ya_X6_clear hy7 ⟨_, rfl, rfl⟩ (Fits.vm (by decide)) rfl rfl (Nat.le_of_ble_eq_true rfl) (S_X6_clear y7 hy7 h6  _ hv) ?_
  refine r_aload_n dX1_read_36 rfl ?_
  obtain ⟨h9, hv, hf⟩ := bnd hf
  refine r_callV (lv := 5) dX1_read_37 yo_X1_skipBlanks yi_X1_skipBlanks ml_X1_39 ya_X1_skipBlanks sh_17 ⟨_, rfl, rfl⟩ (Fits.vm (by decide)) rfl rfl (Nat.le_of_ble_eq_true rfl) (S_X1_skipBlanks F h8  _ hv) ?_
  refine r_aload_n dX1_read_40 rfl ?_
  obtain ⟨v10, hv, hf⟩ := bnd hf
  refine r_callV (lv := 5) dX1_read_41 yo_X1_readCells yi_X1_readCells ml_X1_42 ya_X1_readCells sh_17 ⟨_, rfl, rfl⟩ (Fits.vm (by decide)) rfl rfl (Nat.le_of_ble_eq_true rfl) (S_X1_readCells F h9  _ hv) ?_
  refine r_if_eq 61 dX1_read_44 (by decide) hf (fun c19 hf => ?_) (fun c19 hf => ?_)
  · refine r_aload_n dX1_read_61 rfl ?_
    refine r_getI dX1_read_62 sh_17 ft_X1_27 rfl ?_
    exact e_iH dX1_read_65 rfl hf
  · refine r_aload_n dX1_read_47 rfl ?_
    obtain ⟨v11, hv, hf⟩ := bnd hf
    refine r_callV (lv := 5) dX1_read_48 yo_X1_readForm yi_X1_readForm ml_X1_46 ya_X1_readForm sh_17 ⟨_, rfl, rfl⟩ (Fits.vm (by decide)) rfl rfl (Nat.le_of_ble_eq_true rfl) (S_X1_readForm F v10.2  _ hv) ?_
    refine r_if_eq 61 dX1_read_51 (by decide) hf (fun c18 hf => ?_) (fun c18 hf => ?_)
    · refine r_aload_n dX1_read_61 rfl ?_
      refine r_getI dX1_read_62 sh_17 ft_X1_27 rfl ?_
      exact e_iH dX1_read_65 rfl hf
    · refine r_aload_n dX1_read_54 rfl ?_
      obtain ⟨v12, hv, hf⟩ := bnd hf
      refine r_callV (lv := 5) dX1_read_55 yo_X1_readChains yi_X1_readChains ml_X1_49 ya_X1_readChains sh_17 ⟨_, rfl, rfl⟩ (Fits.vm (by decide)) rfl rfl (Nat.le_of_ble_eq_true rfl) (S_X1_readChains F v11.2  _ hv) ?_
      refine r_if_ne 66 dX1_read_58 (by decide) hf (fun c17 hf => ?_) (fun c17 hf => ?_)
      · refine r_aload_n dX1_read_66 rfl ?_
        obtain ⟨h13, hv, hf⟩ := bnd hf
        refine r_callV (lv := 5) dX1_read_67 yo_X1_skipBlanks yi_X1_skipBlanks ml_X1_39 ya_X1_skipBlanks sh_17 ⟨_, rfl, rfl⟩ (Fits.vm (by decide)) rfl rfl (Nat.le_of_ble_eq_true rfl) (S_X1_skipBlanks F v12.2  _ hv) ?_
        refine r_aload_n dX1_read_70 rfl ?_
        refine r_getI dX1_read_71 sh_17 ft_X1_27 rfl ?_
        refine r_aload_n dX1_read_74 rfl ?_
        refine r_getI dX1_read_75 sh_17 ft_X1_25 rfl ?_
        refine r_reg (P := fun t14 => Run Y_X1_read (VM 6 (some (.int r.1), r.2)) 90 [some (.ref 17), some (.ref a1), some (.int x2_), some (.ref a3)] [.int t14] h13) hf (fun t14 hf => ?_) (fun t14 key15 hf => ?_)
        · exact e_iH dX1_read_90 rfl hf
        · refine r_icmp_ge 88 dX1_read_78 (by decide) hf (fun c16 hf => ?_) (fun c16 hf => ?_)
          · refine r_bipush (v := -9) dX1_read_88 (by decide) ?_
            cases hf; exact key15
          · refine r_aload_n dX1_read_81 rfl ?_
            refine r_getI dX1_read_82 sh_17 ft_X1_27 rfl ?_
            refine r_goto 90 dX1_read_85 (by decide) ?_
            cases hf; exact key15
      · refine r_aload_n dX1_read_61 rfl ?_
        refine r_getI dX1_read_62 sh_17 ft_X1_27 rfl ?_
        exact e_iH dX1_read_65 rfl hf
