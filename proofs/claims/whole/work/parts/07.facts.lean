theorem gt_sub {ws : List Cond} (is : List Nat) (h : is.filterMap (fun i => lw_tbl[i]?) = ws) (hg : ws.all goodWord = true) : ∀ w ∈ ws, w ∈ gt := by
  intro w hw
  refine List.mem_filter.mpr ⟨?_, List.all_eq_true.mp hg w hw⟩
  rw [← h] at hw
  obtain ⟨i, -, hi⟩ := List.mem_filterMap.mp hw
  exact List.mem_of_getElem? hi
theorem uw_X0 : ∀ w ∈ u_ws RX0 TX0 7, w ∈ gt := gt_sub [192, 194, 196, 198, 200, 202, 204] (by decide +kernel) (by decide +kernel)
theorem uw_X1 : ∀ w ∈ u_ws RX1 TX1 5, w ∈ gt := gt_sub [163, 165, 167, 169, 171] (by decide +kernel) (by decide +kernel)
theorem uw_X2 : ∀ w ∈ u_ws RX2 TX2 3, w ∈ gt := gt_sub [217, 219, 221] (by decide +kernel) (by decide +kernel)
theorem uw_X3 : ∀ w ∈ u_ws RX3 TX3 12, w ∈ gt := gt_sub [243, 245, 247, 249, 251, 253, 255, 257, 259, 261, 263, 265] (by decide +kernel) (by decide +kernel)
theorem uw_X4 : ∀ w ∈ u_ws RX4 TX4 2, w ∈ gt := gt_sub [146, 148] (by decide +kernel) (by decide +kernel)
theorem uw_X5 : ∀ w ∈ u_ws RX5 TX5 10, w ∈ gt := gt_sub [289, 291, 293, 295, 297, 299, 301, 303, 305, 307] (by decide +kernel) (by decide +kernel)
theorem uw_X6 : ∀ w ∈ u_ws RX6 TX6 14, w ∈ gt := gt_sub [354, 356, 358, 360, 362, 364, 366, 368, 370, 372, 374, 376, 378, 380] (by decide +kernel) (by decide +kernel)
theorem uw_X7 : ∀ w ∈ u_ws RX7 TX7 16, w ∈ gt := gt_sub [415, 417, 419, 421, 423, 425, 427, 429, 431, 433, 435, 437, 439, 441, 443, 445] (by decide +kernel) (by decide +kernel)
theorem uw_X8 : ∀ w ∈ u_ws RX8 TX8 63, w ∈ gt := gt_sub [1131, 1133, 1135, 1137, 1139, 1141, 1143, 1145, 1147, 1149, 1151, 1153, 1155, 1157, 1159, 1161, 1163, 1165, 1167, 1169, 1171, 1173, 1175, 1177, 1179, 1181, 1183, 1185, 1187, 1189, 1191, 1193, 1195, 1197, 1199, 1201, 1203, 1205, 1207, 1209, 1211, 1213, 1215, 1217, 1219, 1221, 1223, 1225, 1227, 1229, 1231, 1233, 1235, 1237, 1239, 1241, 1243, 1245, 1247, 1249, 1251, 1253, 1255] (by decide +kernel) (by decide +kernel)
theorem sh_0 : sh 0 = (0, 7, 16) := rfl
theorem sh_1 : sh 1 = (0, 4, 2) := rfl
theorem sh_2 : sh 2 = (2, 3, 6) := rfl
theorem sh_3 : sh 3 = (1, 0, 40) := rfl
theorem sh_4 : sh 4 = (1, 0, 40) := rfl
theorem sh_5 : sh 5 = (1, 0, 40) := rfl
theorem sh_6 : sh 6 = (1, 0, 40) := rfl
theorem sh_7 : sh 7 = (1, 0, 40) := rfl
theorem sh_8 : sh 8 = (1, 0, 40) := rfl
theorem sh_9 : sh 9 = (1, 0, 6) := rfl
theorem sh_10 : sh 10 = (0, 4, 2) := rfl
theorem sh_11 : sh 11 = (2, 3, 4) := rfl
theorem sh_12 : sh 12 = (1, 0, 40) := rfl
theorem sh_13 : sh 13 = (1, 0, 40) := rfl
theorem sh_14 : sh 14 = (1, 0, 40) := rfl
theorem sh_15 : sh 15 = (1, 0, 40) := rfl
theorem sh_16 : sh 16 = (1, 0, 4) := rfl
theorem sh_17 : sh 17 = (0, 1, 5) := rfl
theorem sh_18 : sh 18 = (0, 0, 7) := rfl
theorem sh_19 : sh 19 = (1, 0, 60) := rfl
theorem sh_20 : sh 20 = (1, 0, 60) := rfl
theorem sh_21 : sh 21 = (2, 4, 3) := rfl
theorem sh_22 : sh 22 = (0, 2, 3) := rfl
theorem sh_23 : sh 23 = (0, 3, 12) := rfl
theorem sh_24 : sh 24 = (1, 0, 11880) := rfl
theorem sh_25 : sh 25 = (1, 0, 11880) := rfl
theorem sh_26 : sh 26 = (1, 0, 11880) := rfl
theorem sh_27 : sh 27 = (1, 0, 11880) := rfl
theorem sh_28 : sh 28 = (1, 0, 20736) := rfl
theorem sh_29 : sh 29 = (1, 0, 20736) := rfl
theorem sh_30 : sh 30 = (1, 0, 97921) := rfl
theorem sh_31 : sh 31 = (0, 5, 10) := rfl
theorem sh_32 : sh 32 = (1, 0, 5) := rfl
theorem sh_33 : sh 33 = (1, 0, 5) := rfl
theorem sh_34 : sh 34 = (1, 0, 5) := rfl
theorem sh_35 : sh 35 = (1, 0, 5) := rfl
theorem sh_36 : sh 36 = (1, 0, 25) := rfl
theorem sh_37 : sh 37 = (1, 0, 25) := rfl
theorem sh_38 : sh 38 = (1, 0, 8) := rfl
theorem sh_39 : sh 39 = (1, 0, 8) := rfl
theorem sh_40 : sh 40 = (1, 0, 6) := rfl
theorem sh_41 : sh 41 = (0, 6, 14) := rfl
theorem sh_42 : sh 42 = (1, 0, 4) := rfl
theorem sh_43 : sh 43 = (1, 0, 4) := rfl
theorem sh_44 : sh 44 = (1, 0, 4) := rfl
theorem sh_45 : sh 45 = (1, 0, 4) := rfl
theorem sh_46 : sh 46 = (1, 0, 144) := rfl
theorem sh_47 : sh 47 = (1, 0, 48) := rfl
theorem sh_48 : sh 48 = (1, 0, 16) := rfl
theorem sh_49 : sh 49 = (0, 6, 14) := rfl
theorem sh_50 : sh 50 = (1, 0, 4) := rfl
theorem sh_51 : sh 51 = (1, 0, 4) := rfl
theorem sh_52 : sh 52 = (1, 0, 4) := rfl
theorem sh_53 : sh 53 = (1, 0, 4) := rfl
theorem sh_54 : sh 54 = (1, 0, 144) := rfl
theorem sh_55 : sh 55 = (1, 0, 48) := rfl
theorem sh_56 : sh 56 = (1, 0, 16) := rfl
theorem sh_57 : sh 57 = (0, 0, 7) := rfl
theorem sh_58 : sh 58 = (1, 0, 60) := rfl
theorem sh_59 : sh 59 = (1, 0, 60) := rfl
theorem sh_60 : sh 60 = (0, 0, 7) := rfl
theorem sh_61 : sh 61 = (1, 0, 60) := rfl
theorem sh_62 : sh 62 = (1, 0, 60) := rfl
theorem sh_63 : sh 63 = (0, 0, 7) := rfl
theorem sh_64 : sh 64 = (1, 0, 60) := rfl
theorem sh_65 : sh 65 = (1, 0, 60) := rfl
theorem sh_66 : sh 66 = (0, 8, 63) := rfl
theorem sh_67 : sh 67 = (1, 0, 6) := rfl
theorem sh_68 : sh 68 = (1, 0, 6) := rfl
theorem sh_69 : sh 69 = (1, 0, 240) := rfl
theorem sh_70 : sh 70 = (1, 0, 40) := rfl
theorem sh_71 : sh 71 = (1, 0, 4) := rfl
theorem sh_72 : sh 72 = (1, 1, 160) := rfl
theorem sh_73 : sh 73 = (1, 0, 12) := rfl
theorem sh_74 : sh 74 = (1, 0, 4) := rfl
theorem sh_75 : sh 75 = (1, 0, 4) := rfl
theorem sh_76 : sh 76 = (1, 0, 4) := rfl
theorem sh_77 : sh 77 = (1, 0, 4) := rfl
theorem sh_78 : sh 78 = (1, 0, 12) := rfl
theorem sh_79 : sh 79 = (1, 0, 4) := rfl
theorem sh_80 : sh 80 = (1, 0, 4) := rfl
theorem sh_81 : sh 81 = (1, 0, 4) := rfl
theorem sh_82 : sh 82 = (1, 0, 4) := rfl
theorem sh_83 : sh 83 = (1, 0, 60) := rfl
theorem sh_84 : sh 84 = (1, 0, 240) := rfl
theorem sh_85 : sh 85 = (1, 2, 3) := rfl
theorem sh_86 : sh 86 = (1, 0, 3) := rfl
theorem sh_87 : sh 87 = (1, 0, 3) := rfl
theorem sh_88 : sh 88 = (1, 0, 12) := rfl
theorem sh_89 : sh 89 = (1, 0, 12) := rfl
theorem sh_90 : sh 90 = (1, 0, 180) := rfl
theorem sh_91 : sh 91 = (1, 0, 720) := rfl
theorem sh_92 : sh 92 = (1, 0, 20736) := rfl
theorem sh_93 : sh 93 = (1, 0, 20736) := rfl
theorem sh_94 : sh 94 = (1, 0, 20736) := rfl
theorem sh_95 : sh 95 = (1, 0, 20736) := rfl
theorem sh_96 : sh 96 = (1, 0, 4) := rfl
theorem sh_97 : sh 97 = (1, 0, 5) := rfl
theorem sh_98 : sh 98 = (1, 0, 6) := rfl
theorem sh_99 : sh 99 = (1, 0, 6) := rfl
theorem sh_100 : sh 100 = (1, 0, 5) := rfl
theorem sh_101 : sh 101 = (1, 0, 5) := rfl
theorem sh_102 : sh 102 = (1, 0, 8) := rfl
theorem sh_103 : sh 103 = (1, 0, 8) := rfl
theorem sh_104 : sh 104 = (1, 0, 4) := rfl
theorem sh_105 : sh 105 = (1, 0, 4) := rfl
theorem sf_0_5 {s : Nat} (h : sh s = (0, 0, 7)) : sh (rf s 5) = (1, 0, (sh (rf s 5)).2.2) := (show ∀ s, s < NN → sh s = (0, 0, 7) → sh (rf s 5) = (1, 0, (sh (rf s 5)).2.2) by decide +kernel) s (sh_l h (by decide)) h
theorem sf_0_6 {s : Nat} (h : sh s = (0, 0, 7)) : sh (rf s 6) = (1, 0, (sh (rf s 6)).2.2) := (show ∀ s, s < NN → sh s = (0, 0, 7) → sh (rf s 6) = (1, 0, (sh (rf s 6)).2.2) by decide +kernel) s (sh_l h (by decide)) h
theorem sf_4_0 {s : Nat} (h : sh s = (0, 4, 2)) : sh (rf s 0) = (2, 3, (sh (rf s 0)).2.2) := (show ∀ s, s < NN → sh s = (0, 4, 2) → sh (rf s 0) = (2, 3, (sh (rf s 0)).2.2) by decide +kernel) s (sh_l h (by decide)) h
theorem sf_4_1 {s : Nat} (h : sh s = (0, 4, 2)) : sh (rf s 1) = (1, 0, (sh (rf s 1)).2.2) := (show ∀ s, s < NN → sh s = (0, 4, 2) → sh (rf s 1) = (1, 0, (sh (rf s 1)).2.2) by decide +kernel) s (sh_l h (by decide)) h
theorem sf_6_7 {s : Nat} (h : sh s = (0, 6, 14)) : sh (rf s 7) = (1, 0, (sh (rf s 7)).2.2) := (show ∀ s, s < NN → sh s = (0, 6, 14) → sh (rf s 7) = (1, 0, (sh (rf s 7)).2.2) by decide +kernel) s (sh_l h (by decide)) h
theorem sf_6_8 {s : Nat} (h : sh s = (0, 6, 14)) : sh (rf s 8) = (1, 0, (sh (rf s 8)).2.2) := (show ∀ s, s < NN → sh s = (0, 6, 14) → sh (rf s 8) = (1, 0, (sh (rf s 8)).2.2) by decide +kernel) s (sh_l h (by decide)) h
theorem sf_6_9 {s : Nat} (h : sh s = (0, 6, 14)) : sh (rf s 9) = (1, 0, (sh (rf s 9)).2.2) := (show ∀ s, s < NN → sh s = (0, 6, 14) → sh (rf s 9) = (1, 0, (sh (rf s 9)).2.2) by decide +kernel) s (sh_l h (by decide)) h
theorem sf_6_10 {s : Nat} (h : sh s = (0, 6, 14)) : sh (rf s 10) = (1, 0, (sh (rf s 10)).2.2) := (show ∀ s, s < NN → sh s = (0, 6, 14) → sh (rf s 10) = (1, 0, (sh (rf s 10)).2.2) by decide +kernel) s (sh_l h (by decide)) h
theorem sf_6_11 {s : Nat} (h : sh s = (0, 6, 14)) : sh (rf s 11) = (1, 0, (sh (rf s 11)).2.2) := (show ∀ s, s < NN → sh s = (0, 6, 14) → sh (rf s 11) = (1, 0, (sh (rf s 11)).2.2) by decide +kernel) s (sh_l h (by decide)) h
theorem sf_6_12 {s : Nat} (h : sh s = (0, 6, 14)) : sh (rf s 12) = (1, 0, (sh (rf s 12)).2.2) := (show ∀ s, s < NN → sh s = (0, 6, 14) → sh (rf s 12) = (1, 0, (sh (rf s 12)).2.2) by decide +kernel) s (sh_l h (by decide)) h
theorem sf_6_13 {s : Nat} (h : sh s = (0, 6, 14)) : sh (rf s 13) = (1, 0, (sh (rf s 13)).2.2) := (show ∀ s, s < NN → sh s = (0, 6, 14) → sh (rf s 13) = (1, 0, (sh (rf s 13)).2.2) by decide +kernel) s (sh_l h (by decide)) h
theorem se_pl {s : Nat} (h : sh s = (0, 4, 2)) : ∀ j, j < (sh (rf s 0)).2.2 → sh (rf (rf s 0) j) = (1, 0, 40) := (show ∀ s, s < NN → sh s = (0, 4, 2) → ∀ j, j < (sh (rf s 0)).2.2 → sh (rf (rf s 0) j) = (1, 0, 40) by decide +kernel) s (sh_l h (by decide)) h
theorem se_kept : ∀ j, j < 3 → sh (rf 21 j) = (0, 0, 7) := by decide +kernel
theorem w_acn : Cond.native arraycopyName ∈ gt := gt_in 521 (by decide +kernel) (by decide +kernel)
theorem w_acs : Cond.static arraycopyName ∈ gt := gt_in 520 (by decide +kernel) (by decide +kernel)
theorem wm_i : Cond.initialized "java/lang/Math" ∈ gt := gt_in 123 (by decide +kernel) (by decide +kernel)
theorem wm_max_s : Cond.static Lib.Math.max.name ∈ gt := gt_in 584 (by decide +kernel) (by decide +kernel)
theorem wm_max_c : Cond.code Lib.Math.max.name Lib.Math.max.code 2 (some .int) ∈ gt := gt_in 585 (by decide +kernel) (by decide +kernel)
theorem wm_min_s : Cond.static Lib.Math.min.name ∈ gt := gt_in 896 (by decide +kernel) (by decide +kernel)
theorem wm_min_c : Cond.code Lib.Math.min.name Lib.Math.min.code 2 (some .int) ∈ gt := gt_in 897 (by decide +kernel) (by decide +kernel)
theorem wm_abs_s : Cond.static Lib.Math.abs.name ∈ gt := gt_in 596 (by decide +kernel) (by decide +kernel)
theorem wm_abs_c : Cond.code Lib.Math.abs.name Lib.Math.abs.code 1 (some .int) ∈ gt := gt_in 597 (by decide +kernel) (by decide +kernel)
theorem w_aci : Cond.initialized "java/lang/System" ∈ gt := gt_in 122 (by decide +kernel) (by decide +kernel)
def Y_X0_restart : Yd := (yX0_restart, cX0_restart, 2, none)
theorem yo_X0_restart : YO Y_X0_restart := ⟨gt_in 636 (by decide +kernel) (by decide +kernel), gt_in 116 (by decide +kernel) (by decide +kernel), ⟨by decide +kernel, by decide +kernel⟩, by decide +kernel, by decide⟩
theorem ya_X0_restart : (parseMethodDescriptor Y_X0_restart.1.desc).map (fun d => d.parameters.length) = some 1 := by decide +kernel
theorem yi_X0_restart : YI Y_X0_restart := ⟨gt_in 634 (by decide +kernel) (by decide +kernel), gt_in 635 (by decide +kernel) (by decide +kernel)⟩
def Y_X0_become : Yd := (yX0_become, cX0_become, 2, none)
theorem yo_X0_become : YO Y_X0_become := ⟨gt_in 781 (by decide +kernel) (by decide +kernel), gt_in 116 (by decide +kernel) (by decide +kernel), ⟨by decide +kernel, by decide +kernel⟩, by decide +kernel, by decide⟩
theorem ya_X0_become : (parseMethodDescriptor Y_X0_become.1.desc).map (fun d => d.parameters.length) = some 1 := by decide +kernel
theorem yi_X0_become : YI Y_X0_become := ⟨gt_in 779 (by decide +kernel) (by decide +kernel), gt_in 780 (by decide +kernel) (by decide +kernel)⟩
def Y_X0_go : Yd := (yX0_go, cX0_go, 3, none)
theorem yo_X0_go : YO Y_X0_go := ⟨gt_in 753 (by decide +kernel) (by decide +kernel), gt_in 116 (by decide +kernel) (by decide +kernel), ⟨by decide +kernel, by decide +kernel⟩, by decide +kernel, by decide⟩
theorem ya_X0_go : (parseMethodDescriptor Y_X0_go.1.desc).map (fun d => d.parameters.length) = some 2 := by decide +kernel
theorem yi_X0_go : YI Y_X0_go := ⟨gt_in 751 (by decide +kernel) (by decide +kernel), gt_in 752 (by decide +kernel) (by decide +kernel)⟩
def Y_X0_goBack : Yd := (yX0_goBack, cX0_goBack, 2, none)
theorem yo_X0_goBack : YO Y_X0_goBack := ⟨gt_in 765 (by decide +kernel) (by decide +kernel), gt_in 116 (by decide +kernel) (by decide +kernel), ⟨by decide +kernel, by decide +kernel⟩, by decide +kernel, by decide⟩
theorem ya_X0_goBack : (parseMethodDescriptor Y_X0_goBack.1.desc).map (fun d => d.parameters.length) = some 1 := by decide +kernel
theorem yi_X0_goBack : YI Y_X0_goBack := ⟨gt_in 763 (by decide +kernel) (by decide +kernel), gt_in 764 (by decide +kernel) (by decide +kernel)⟩
def Y_X0_stepsOf : Yd := (yX0_stepsOf, cX0_stepsOf, 4, (some .int))
theorem yo_X0_stepsOf : YO Y_X0_stepsOf := ⟨gt_in 670 (by decide +kernel) (by decide +kernel), gt_in 116 (by decide +kernel) (by decide +kernel), ⟨by decide +kernel, by decide +kernel⟩, by decide +kernel, by decide⟩
theorem ya_X0_stepsOf : (parseMethodDescriptor Y_X0_stepsOf.1.desc).map (fun d => d.parameters.length) = some 1 := by decide +kernel
theorem yi_X0_stepsOf : YI Y_X0_stepsOf := ⟨gt_in 668 (by decide +kernel) (by decide +kernel), gt_in 669 (by decide +kernel) (by decide +kernel)⟩
def Y_X4_knows : Yd := (yX4_knows, cX4_knows, 2, (some .boolean))
theorem yo_X4_knows : YO Y_X4_knows := ⟨gt_in 459 (by decide +kernel) (by decide +kernel), gt_in 113 (by decide +kernel) (by decide +kernel), ⟨by decide +kernel, by decide +kernel⟩, by decide +kernel, by decide⟩
theorem ya_X4_knows : (parseMethodDescriptor Y_X4_knows.1.desc).map (fun d => d.parameters.length) = some 1 := by decide +kernel
theorem yi_X4_knows : YI Y_X4_knows := ⟨gt_in 457 (by decide +kernel) (by decide +kernel), gt_in 458 (by decide +kernel) (by decide +kernel)⟩
def Y_X4_size : Yd := (yX4_size, cX4_size, 2, (some .int))
theorem yo_X4_size : YO Y_X4_size := ⟨gt_in 529 (by decide +kernel) (by decide +kernel), gt_in 113 (by decide +kernel) (by decide +kernel), ⟨by decide +kernel, by decide +kernel⟩, by decide +kernel, by decide⟩
theorem ya_X4_size : (parseMethodDescriptor Y_X4_size.1.desc).map (fun d => d.parameters.length) = some 1 := by decide +kernel
theorem yi_X4_size : YI Y_X4_size := ⟨gt_in 527 (by decide +kernel) (by decide +kernel), gt_in 528 (by decide +kernel) (by decide +kernel)⟩
def Y_X6_clear : Yd := (yX6_clear, cX6_clear, 1, none)
theorem yo_X6_clear : YO Y_X6_clear := ⟨gt_in 550 (by decide +kernel) (by decide +kernel), gt_in 120 (by decide +kernel) (by decide +kernel), ⟨by decide +kernel, by decide +kernel⟩, by decide +kernel, by decide⟩
theorem ya_X6_clear : (parseMethodDescriptor Y_X6_clear.1.desc).map (fun d => d.parameters.length) = some 0 := by decide +kernel
theorem yi_X6_clear : YI Y_X6_clear := ⟨gt_in 548 (by decide +kernel) (by decide +kernel), gt_in 549 (by decide +kernel) (by decide +kernel)⟩
def Y_X4_holds : Yd := (yX4_holds, cX4_holds, 2, (some .boolean))
theorem yo_X4_holds : YO Y_X4_holds := ⟨gt_in 484 (by decide +kernel) (by decide +kernel), gt_in 113 (by decide +kernel) (by decide +kernel), ⟨by decide +kernel, by decide +kernel⟩, by decide +kernel, by decide⟩
theorem ya_X4_holds : (parseMethodDescriptor Y_X4_holds.1.desc).map (fun d => d.parameters.length) = some 1 := by decide +kernel
theorem yi_X4_holds : YI Y_X4_holds := ⟨gt_in 482 (by decide +kernel) (by decide +kernel), gt_in 483 (by decide +kernel) (by decide +kernel)⟩
def Y_X4_has : Yd := (yX4_has, cX4_has, 4, (some .boolean))
theorem yo_X4_has : YO Y_X4_has := ⟨gt_in 488 (by decide +kernel) (by decide +kernel), gt_in 113 (by decide +kernel) (by decide +kernel), ⟨by decide +kernel, by decide +kernel⟩, by decide +kernel, by decide⟩
theorem ya_X4_has : (parseMethodDescriptor Y_X4_has.1.desc).map (fun d => d.parameters.length) = some 3 := by decide +kernel
theorem yi_X4_has : YI Y_X4_has := ⟨gt_in 486 (by decide +kernel) (by decide +kernel), gt_in 487 (by decide +kernel) (by decide +kernel)⟩
def Y_X4_get : Yd := (yX4_get, cX4_get, 3, (some .int))
theorem yo_X4_get : YO Y_X4_get := ⟨gt_in 493 (by decide +kernel) (by decide +kernel), gt_in 113 (by decide +kernel) (by decide +kernel), ⟨by decide +kernel, by decide +kernel⟩, by decide +kernel, by decide⟩
theorem ya_X4_get : (parseMethodDescriptor Y_X4_get.1.desc).map (fun d => d.parameters.length) = some 2 := by decide +kernel
theorem yi_X4_get : YI Y_X4_get := ⟨gt_in 491 (by decide +kernel) (by decide +kernel), gt_in 492 (by decide +kernel) (by decide +kernel)⟩
def Y_X1_sign : Yd := (yX1_sign, cX1_sign, 1, (some .int))
theorem yo_X1_sign : YO Y_X1_sign := ⟨gt_in 558 (by decide +kernel) (by decide +kernel), gt_in 115 (by decide +kernel) (by decide +kernel), ⟨by decide +kernel, by decide +kernel⟩, by decide +kernel, by decide⟩
theorem ya_X1_sign : (parseMethodDescriptor Y_X1_sign.1.desc).map (fun d => d.parameters.length) = some 0 := by decide +kernel
theorem yi_X1_sign : YI Y_X1_sign := ⟨gt_in 557 (by decide +kernel) (by decide +kernel), gt_in 6 (by decide +kernel) (by decide +kernel)⟩
def Y_X1_skipBlanks : Yd := (yX1_skipBlanks, cX1_skipBlanks, 1, none)
theorem yo_X1_skipBlanks : YO Y_X1_skipBlanks := ⟨gt_in 554 (by decide +kernel) (by decide +kernel), gt_in 115 (by decide +kernel) (by decide +kernel), ⟨by decide +kernel, by decide +kernel⟩, by decide +kernel, by decide⟩
theorem ya_X1_skipBlanks : (parseMethodDescriptor Y_X1_skipBlanks.1.desc).map (fun d => d.parameters.length) = some 0 := by decide +kernel
theorem yi_X1_skipBlanks : YI Y_X1_skipBlanks := ⟨gt_in 553 (by decide +kernel) (by decide +kernel), gt_in 5 (by decide +kernel) (by decide +kernel)⟩
def Y_X1_kindBySign : Yd := (yX1_kindBySign, cX1_kindBySign, 1, (some .int))
theorem yo_X1_kindBySign : YO Y_X1_kindBySign := ⟨gt_in 570 (by decide +kernel) (by decide +kernel), gt_in 115 (by decide +kernel) (by decide +kernel), ⟨by decide +kernel, by decide +kernel⟩, by decide +kernel, by decide⟩
theorem ya_X1_kindBySign : (parseMethodDescriptor Y_X1_kindBySign.1.desc).map (fun d => d.parameters.length) = some 1 := by decide +kernel
theorem ys_X1_kindBySign : Cond.static Y_X1_kindBySign.1 ∈ gt := gt_in 569 (by decide +kernel) (by decide +kernel)
def Y_X1_addCell : Yd := (yX1_addCell, cX1_addCell, 3, (some .boolean))
theorem yo_X1_addCell : YO Y_X1_addCell := ⟨gt_in 567 (by decide +kernel) (by decide +kernel), gt_in 115 (by decide +kernel) (by decide +kernel), ⟨by decide +kernel, by decide +kernel⟩, by decide +kernel, by decide⟩
theorem ya_X1_addCell : (parseMethodDescriptor Y_X1_addCell.1.desc).map (fun d => d.parameters.length) = some 1 := by decide +kernel
theorem yi_X1_addCell : YI Y_X1_addCell := ⟨gt_in 566 (by decide +kernel) (by decide +kernel), gt_in 8 (by decide +kernel) (by decide +kernel)⟩
def Y_X1_endLine : Yd := (yX1_endLine, cX1_endLine, 2, (some .boolean))
theorem yo_X1_endLine : YO Y_X1_endLine := ⟨gt_in 574 (by decide +kernel) (by decide +kernel), gt_in 115 (by decide +kernel) (by decide +kernel), ⟨by decide +kernel, by decide +kernel⟩, by decide +kernel, by decide⟩
theorem ya_X1_endLine : (parseMethodDescriptor Y_X1_endLine.1.desc).map (fun d => d.parameters.length) = some 1 := by decide +kernel
theorem yi_X1_endLine : YI Y_X1_endLine := ⟨gt_in 573 (by decide +kernel) (by decide +kernel), gt_in 9 (by decide +kernel) (by decide +kernel)⟩
def Y_X1_readCells : Yd := (yX1_readCells, cX1_readCells, 3, (some .boolean))
theorem yo_X1_readCells : YO Y_X1_readCells := ⟨gt_in 563 (by decide +kernel) (by decide +kernel), gt_in 115 (by decide +kernel) (by decide +kernel), ⟨by decide +kernel, by decide +kernel⟩, by decide +kernel, by decide⟩
theorem ya_X1_readCells : (parseMethodDescriptor Y_X1_readCells.1.desc).map (fun d => d.parameters.length) = some 0 := by decide +kernel
theorem yi_X1_readCells : YI Y_X1_readCells := ⟨gt_in 562 (by decide +kernel) (by decide +kernel), gt_in 7 (by decide +kernel) (by decide +kernel)⟩
def Y_J7_fill_53178 : Yd := (yJ7_fill_53178, cJ7_fill_53178, 4, none)
theorem yo_J7_fill_53178 : YO Y_J7_fill_53178 := ⟨gt_in 143 (by decide +kernel) (by decide +kernel), gt_in 114 (by decide +kernel) (by decide +kernel), ⟨by decide +kernel, by decide +kernel⟩, by decide +kernel, by decide⟩
theorem ya_J7_fill_53178 : (parseMethodDescriptor Y_J7_fill_53178.1.desc).map (fun d => d.parameters.length) = some 2 := by decide +kernel
theorem ys_J7_fill_53178 : Cond.static Y_J7_fill_53178.1 ∈ gt := gt_in 142 (by decide +kernel) (by decide +kernel)
def Y_X6_secondEnd : Yd := (yX6_secondEnd, cX6_secondEnd, 2, (some .int))
theorem yo_X6_secondEnd : YO Y_X6_secondEnd := ⟨gt_in 590 (by decide +kernel) (by decide +kernel), gt_in 120 (by decide +kernel) (by decide +kernel), ⟨by decide +kernel, by decide +kernel⟩, by decide +kernel, by decide⟩
theorem ya_X6_secondEnd : (parseMethodDescriptor Y_X6_secondEnd.1.desc).map (fun d => d.parameters.length) = some 1 := by decide +kernel
theorem yi_X6_secondEnd : YI Y_X6_secondEnd := ⟨gt_in 588 (by decide +kernel) (by decide +kernel), gt_in 589 (by decide +kernel) (by decide +kernel)⟩
def Y_X6_columnOf : Yd := (yX6_columnOf, cX6_columnOf, 2, (some .int))
theorem yo_X6_columnOf : YO Y_X6_columnOf := ⟨gt_in 594 (by decide +kernel) (by decide +kernel), gt_in 120 (by decide +kernel) (by decide +kernel), ⟨by decide +kernel, by decide +kernel⟩, by decide +kernel, by decide⟩
theorem ya_X6_columnOf : (parseMethodDescriptor Y_X6_columnOf.1.desc).map (fun d => d.parameters.length) = some 1 := by decide +kernel
theorem yi_X6_columnOf : YI Y_X6_columnOf := ⟨gt_in 592 (by decide +kernel) (by decide +kernel), gt_in 593 (by decide +kernel) (by decide +kernel)⟩
def Y_X6_lineOf : Yd := (yX6_lineOf, cX6_lineOf, 2, (some .int))
theorem yo_X6_lineOf : YO Y_X6_lineOf := ⟨gt_in 394 (by decide +kernel) (by decide +kernel), gt_in 120 (by decide +kernel) (by decide +kernel), ⟨by decide +kernel, by decide +kernel⟩, by decide +kernel, by decide⟩
theorem ya_X6_lineOf : (parseMethodDescriptor Y_X6_lineOf.1.desc).map (fun d => d.parameters.length) = some 1 := by decide +kernel
theorem yi_X6_lineOf : YI Y_X6_lineOf := ⟨gt_in 392 (by decide +kernel) (by decide +kernel), gt_in 393 (by decide +kernel) (by decide +kernel)⟩
def Y_X6_isWall : Yd := (yX6_isWall, cX6_isWall, 2, (some .boolean))
theorem yo_X6_isWall : YO Y_X6_isWall := ⟨gt_in 606 (by decide +kernel) (by decide +kernel), gt_in 120 (by decide +kernel) (by decide +kernel), ⟨by decide +kernel, by decide +kernel⟩, by decide +kernel, by decide⟩
theorem ya_X6_isWall : (parseMethodDescriptor Y_X6_isWall.1.desc).map (fun d => d.parameters.length) = some 1 := by decide +kernel
theorem yi_X6_isWall : YI Y_X6_isWall := ⟨gt_in 604 (by decide +kernel) (by decide +kernel), gt_in 605 (by decide +kernel) (by decide +kernel)⟩
def Y_X6_neighbour : Yd := (yX6_neighbour, cX6_neighbour, 6, (some .int))
theorem yo_X6_neighbour : YO Y_X6_neighbour := ⟨gt_in 602 (by decide +kernel) (by decide +kernel), gt_in 120 (by decide +kernel) (by decide +kernel), ⟨by decide +kernel, by decide +kernel⟩, by decide +kernel, by decide⟩
theorem ya_X6_neighbour : (parseMethodDescriptor Y_X6_neighbour.1.desc).map (fun d => d.parameters.length) = some 2 := by decide +kernel
theorem yi_X6_neighbour : YI Y_X6_neighbour := ⟨gt_in 601 (by decide +kernel) (by decide +kernel), gt_in 11 (by decide +kernel) (by decide +kernel)⟩
def Y_X6_layOut : Yd := (yX6_layOut, cX6_layOut, 4, none)
theorem yo_X6_layOut : YO Y_X6_layOut := ⟨gt_in 582 (by decide +kernel) (by decide +kernel), gt_in 120 (by decide +kernel) (by decide +kernel), ⟨by decide +kernel, by decide +kernel⟩, by decide +kernel, by decide⟩
theorem ya_X6_layOut : (parseMethodDescriptor Y_X6_layOut.1.desc).map (fun d => d.parameters.length) = some 0 := by decide +kernel
theorem yi_X6_layOut : YI Y_X6_layOut := ⟨gt_in 580 (by decide +kernel) (by decide +kernel), gt_in 581 (by decide +kernel) (by decide +kernel)⟩
def Y_X1_readForm : Yd := (yX1_readForm, cX1_readForm, 1, (some .boolean))
theorem yo_X1_readForm : YO Y_X1_readForm := ⟨gt_in 578 (by decide +kernel) (by decide +kernel), gt_in 115 (by decide +kernel) (by decide +kernel), ⟨by decide +kernel, by decide +kernel⟩, by decide +kernel, by decide⟩
theorem ya_X1_readForm : (parseMethodDescriptor Y_X1_readForm.1.desc).map (fun d => d.parameters.length) = some 0 := by decide +kernel
theorem yi_X1_readForm : YI Y_X1_readForm := ⟨gt_in 577 (by decide +kernel) (by decide +kernel), gt_in 10 (by decide +kernel) (by decide +kernel)⟩
def Y_X6_giveLength : Yd := (yX6_giveLength, cX6_giveLength, 6, none)
theorem yo_X6_giveLength : YO Y_X6_giveLength := ⟨gt_in 614 (by decide +kernel) (by decide +kernel), gt_in 120 (by decide +kernel) (by decide +kernel), ⟨by decide +kernel, by decide +kernel⟩, by decide +kernel, by decide⟩
theorem ya_X6_giveLength : (parseMethodDescriptor Y_X6_giveLength.1.desc).map (fun d => d.parameters.length) = some 2 := by decide +kernel
theorem yi_X6_giveLength : YI Y_X6_giveLength := ⟨gt_in 612 (by decide +kernel) (by decide +kernel), gt_in 613 (by decide +kernel) (by decide +kernel)⟩
def Y_X6_distance : Yd := (yX6_distance, cX6_distance, 3, (some .int))
theorem yo_X6_distance : YO Y_X6_distance := ⟨gt_in 622 (by decide +kernel) (by decide +kernel), gt_in 120 (by decide +kernel) (by decide +kernel), ⟨by decide +kernel, by decide +kernel⟩, by decide +kernel, by decide⟩
theorem ya_X6_distance : (parseMethodDescriptor Y_X6_distance.1.desc).map (fun d => d.parameters.length) = some 2 := by decide +kernel
theorem yi_X6_distance : YI Y_X6_distance := ⟨gt_in 620 (by decide +kernel) (by decide +kernel), gt_in 621 (by decide +kernel) (by decide +kernel)⟩
def Y_X6_keepsAtFirst : Yd := (yX6_keepsAtFirst, cX6_keepsAtFirst, 2, (some .boolean))
theorem yo_X6_keepsAtFirst : YO Y_X6_keepsAtFirst := ⟨gt_in 618 (by decide +kernel) (by decide +kernel), gt_in 120 (by decide +kernel) (by decide +kernel), ⟨by decide +kernel, by decide +kernel⟩, by decide +kernel, by decide⟩
theorem ya_X6_keepsAtFirst : (parseMethodDescriptor Y_X6_keepsAtFirst.1.desc).map (fun d => d.parameters.length) = some 1 := by decide +kernel
theorem yi_X6_keepsAtFirst : YI Y_X6_keepsAtFirst := ⟨gt_in 616 (by decide +kernel) (by decide +kernel), gt_in 617 (by decide +kernel) (by decide +kernel)⟩
def Y_X1_readChains : Yd := (yX1_readChains, cX1_readChains, 2, (some .boolean))
theorem yo_X1_readChains : YO Y_X1_readChains := ⟨gt_in 610 (by decide +kernel) (by decide +kernel), gt_in 115 (by decide +kernel) (by decide +kernel), ⟨by decide +kernel, by decide +kernel⟩, by decide +kernel, by decide⟩
theorem ya_X1_readChains : (parseMethodDescriptor Y_X1_readChains.1.desc).map (fun d => d.parameters.length) = some 0 := by decide +kernel
theorem yi_X1_readChains : YI Y_X1_readChains := ⟨gt_in 609 (by decide +kernel) (by decide +kernel), gt_in 12 (by decide +kernel) (by decide +kernel)⟩
def Y_X1_read : Yd := (yX1_read, cX1_read, 4, (some .int))
theorem yo_X1_read : YO Y_X1_read := ⟨gt_in 545 (by decide +kernel) (by decide +kernel), gt_in 115 (by decide +kernel) (by decide +kernel), ⟨by decide +kernel, by decide +kernel⟩, by decide +kernel, by decide⟩
theorem ya_X1_read : (parseMethodDescriptor Y_X1_read.1.desc).map (fun d => d.parameters.length) = some 3 := by decide +kernel
theorem yi_X1_read : YI Y_X1_read := ⟨gt_in 543 (by decide +kernel) (by decide +kernel), gt_in 544 (by decide +kernel) (by decide +kernel)⟩
def Y_X2_follow : Yd := (yX2_follow, cX2_follow, 5, none)
theorem yo_X2_follow : YO Y_X2_follow := ⟨gt_in 390 (by decide +kernel) (by decide +kernel), gt_in 117 (by decide +kernel) (by decide +kernel), ⟨by decide +kernel, by decide +kernel⟩, by decide +kernel, by decide⟩
theorem ya_X2_follow : (parseMethodDescriptor Y_X2_follow.1.desc).map (fun d => d.parameters.length) = some 3 := by decide +kernel
theorem yi_X2_follow : YI Y_X2_follow := ⟨gt_in 388 (by decide +kernel) (by decide +kernel), gt_in 389 (by decide +kernel) (by decide +kernel)⟩
def Y_X7_cellOf : Yd := (yX7_cellOf, cX7_cellOf, 2, (some .int))
theorem yo_X7_cellOf : YO Y_X7_cellOf := ⟨gt_in 651 (by decide +kernel) (by decide +kernel), gt_in 112 (by decide +kernel) (by decide +kernel), ⟨by decide +kernel, by decide +kernel⟩, by decide +kernel, by decide⟩
theorem ya_X7_cellOf : (parseMethodDescriptor Y_X7_cellOf.1.desc).map (fun d => d.parameters.length) = some 2 := by decide +kernel
theorem ys_X7_cellOf : Cond.static Y_X7_cellOf.1 ∈ gt := gt_in 650 (by decide +kernel) (by decide +kernel)
def Y_X2_taken : Yd := (yX2_taken, cX2_taken, 4, (some .int))
theorem yo_X2_taken : YO Y_X2_taken := ⟨gt_in 717 (by decide +kernel) (by decide +kernel), gt_in 117 (by decide +kernel) (by decide +kernel), ⟨by decide +kernel, by decide +kernel⟩, by decide +kernel, by decide⟩
theorem ya_X2_taken : (parseMethodDescriptor Y_X2_taken.1.desc).map (fun d => d.parameters.length) = some 1 := by decide +kernel
theorem yi_X2_taken : YI Y_X2_taken := ⟨gt_in 716 (by decide +kernel) (by decide +kernel), gt_in 21 (by decide +kernel) (by decide +kernel)⟩
def Y_X6_tooFar : Yd := (yX6_tooFar, cX6_tooFar, 8, (some .int))
theorem yo_X6_tooFar : YO Y_X6_tooFar := ⟨gt_in 722 (by decide +kernel) (by decide +kernel), gt_in 120 (by decide +kernel) (by decide +kernel), ⟨by decide +kernel, by decide +kernel⟩, by decide +kernel, by decide⟩
theorem ya_X6_tooFar : (parseMethodDescriptor Y_X6_tooFar.1.desc).map (fun d => d.parameters.length) = some 2 := by decide +kernel
theorem yi_X6_tooFar : YI Y_X6_tooFar := ⟨gt_in 720 (by decide +kernel) (by decide +kernel), gt_in 721 (by decide +kernel) (by decide +kernel)⟩
def Y_X2_takingAlong : Yd := (yX2_takingAlong, cX2_takingAlong, 8, (some .int))
theorem yo_X2_takingAlong : YO Y_X2_takingAlong := ⟨gt_in 726 (by decide +kernel) (by decide +kernel), gt_in 117 (by decide +kernel) (by decide +kernel), ⟨by decide +kernel, by decide +kernel⟩, by decide +kernel, by decide⟩
theorem ya_X2_takingAlong : (parseMethodDescriptor Y_X2_takingAlong.1.desc).map (fun d => d.parameters.length) = some 4 := by decide +kernel
theorem yi_X2_takingAlong : YI Y_X2_takingAlong := ⟨gt_in 725 (by decide +kernel) (by decide +kernel), gt_in 22 (by decide +kernel) (by decide +kernel)⟩
def Y_X2_after : Yd := (yX2_after, cX2_after, 8, (some .int))
theorem yo_X2_after : YO Y_X2_after := ⟨gt_in 710 (by decide +kernel) (by decide +kernel), gt_in 117 (by decide +kernel) (by decide +kernel), ⟨by decide +kernel, by decide +kernel⟩, by decide +kernel, by decide⟩
theorem ya_X2_after : (parseMethodDescriptor Y_X2_after.1.desc).map (fun d => d.parameters.length) = some 3 := by decide +kernel
theorem yi_X2_after : YI Y_X2_after := ⟨gt_in 708 (by decide +kernel) (by decide +kernel), gt_in 709 (by decide +kernel) (by decide +kernel)⟩
def Y_X3_forget : Yd := (yX3_forget, cX3_forget, 1, none)
theorem yo_X3_forget : YO Y_X3_forget := ⟨gt_in 398 (by decide +kernel) (by decide +kernel), gt_in 118 (by decide +kernel) (by decide +kernel), ⟨by decide +kernel, by decide +kernel⟩, by decide +kernel, by decide⟩
theorem ya_X3_forget : (parseMethodDescriptor Y_X3_forget.1.desc).map (fun d => d.parameters.length) = some 0 := by decide +kernel
theorem yi_X3_forget : YI Y_X3_forget := ⟨gt_in 396 (by decide +kernel) (by decide +kernel), gt_in 397 (by decide +kernel) (by decide +kernel)⟩
def Y_X3_arrive : Yd := (yX3_arrive, cX3_arrive, 5, none)
theorem yo_X3_arrive : YO Y_X3_arrive := ⟨gt_in 811 (by decide +kernel) (by decide +kernel), gt_in 118 (by decide +kernel) (by decide +kernel), ⟨by decide +kernel, by decide +kernel⟩, by decide +kernel, by decide⟩
theorem ya_X3_arrive : (parseMethodDescriptor Y_X3_arrive.1.desc).map (fun d => d.parameters.length) = some 4 := by decide +kernel
theorem yi_X3_arrive : YI Y_X3_arrive := ⟨gt_in 810 (by decide +kernel) (by decide +kernel), gt_in 29 (by decide +kernel) (by decide +kernel)⟩
def Y_X3_begin : Yd := (yX3_begin, cX3_begin, 2, none)
theorem yo_X3_begin : YO Y_X3_begin := ⟨gt_in 806 (by decide +kernel) (by decide +kernel), gt_in 118 (by decide +kernel) (by decide +kernel), ⟨by decide +kernel, by decide +kernel⟩, by decide +kernel, by decide⟩
theorem ya_X3_begin : (parseMethodDescriptor Y_X3_begin.1.desc).map (fun d => d.parameters.length) = some 1 := by decide +kernel
theorem yi_X3_begin : YI Y_X3_begin := ⟨gt_in 804 (by decide +kernel) (by decide +kernel), gt_in 805 (by decide +kernel) (by decide +kernel)⟩
def Y_X3_learn : Yd := (yX3_learn, cX3_learn, 5, none)
theorem yo_X3_learn : YO Y_X3_learn := ⟨gt_in 823 (by decide +kernel) (by decide +kernel), gt_in 118 (by decide +kernel) (by decide +kernel), ⟨by decide +kernel, by decide +kernel⟩, by decide +kernel, by decide⟩
theorem ya_X3_learn : (parseMethodDescriptor Y_X3_learn.1.desc).map (fun d => d.parameters.length) = some 1 := by decide +kernel
theorem yi_X3_learn : YI Y_X3_learn := ⟨gt_in 822 (by decide +kernel) (by decide +kernel), gt_in 31 (by decide +kernel) (by decide +kernel)⟩
def Y_X3_expand : Yd := (yX3_expand, cX3_expand, 6, none)
theorem yo_X3_expand : YO Y_X3_expand := ⟨gt_in 819 (by decide +kernel) (by decide +kernel), gt_in 118 (by decide +kernel) (by decide +kernel), ⟨by decide +kernel, by decide +kernel⟩, by decide +kernel, by decide⟩
theorem ya_X3_expand : (parseMethodDescriptor Y_X3_expand.1.desc).map (fun d => d.parameters.length) = some 1 := by decide +kernel
theorem yi_X3_expand : YI Y_X3_expand := ⟨gt_in 818 (by decide +kernel) (by decide +kernel), gt_in 30 (by decide +kernel) (by decide +kernel)⟩
def Y_X3_finds : Yd := (yX3_finds, cX3_finds, 2, (some .boolean))
theorem yo_X3_finds : YO Y_X3_finds := ⟨gt_in 815 (by decide +kernel) (by decide +kernel), gt_in 118 (by decide +kernel) (by decide +kernel), ⟨by decide +kernel, by decide +kernel⟩, by decide +kernel, by decide⟩
theorem ya_X3_finds : (parseMethodDescriptor Y_X3_finds.1.desc).map (fun d => d.parameters.length) = some 1 := by decide +kernel
theorem yi_X3_finds : YI Y_X3_finds := ⟨gt_in 813 (by decide +kernel) (by decide +kernel), gt_in 814 (by decide +kernel) (by decide +kernel)⟩
def Y_X3_stand : Yd := (yX3_stand, cX3_stand, 2, (some .int))
theorem yo_X3_stand : YO Y_X3_stand := ⟨gt_in 828 (by decide +kernel) (by decide +kernel), gt_in 118 (by decide +kernel) (by decide +kernel), ⟨by decide +kernel, by decide +kernel⟩, by decide +kernel, by decide⟩
theorem ya_X3_stand : (parseMethodDescriptor Y_X3_stand.1.desc).map (fun d => d.parameters.length) = some 1 := by decide +kernel
theorem yi_X3_stand : YI Y_X3_stand := ⟨gt_in 826 (by decide +kernel) (by decide +kernel), gt_in 827 (by decide +kernel) (by decide +kernel)⟩
def Y_X3_depth : Yd := (yX3_depth, cX3_depth, 2, (some .int))
theorem yo_X3_depth : YO Y_X3_depth := ⟨gt_in 840 (by decide +kernel) (by decide +kernel), gt_in 118 (by decide +kernel) (by decide +kernel), ⟨by decide +kernel, by decide +kernel⟩, by decide +kernel, by decide⟩
theorem ya_X3_depth : (parseMethodDescriptor Y_X3_depth.1.desc).map (fun d => d.parameters.length) = some 1 := by decide +kernel
theorem yi_X3_depth : YI Y_X3_depth := ⟨gt_in 838 (by decide +kernel) (by decide +kernel), gt_in 839 (by decide +kernel) (by decide +kernel)⟩
def Y_X4_set : Yd := (yX4_set, cX4_set, 4, none)
theorem yo_X4_set : YO Y_X4_set := ⟨gt_in 498 (by decide +kernel) (by decide +kernel), gt_in 113 (by decide +kernel) (by decide +kernel), ⟨by decide +kernel, by decide +kernel⟩, by decide +kernel, by decide⟩
theorem ya_X4_set : (parseMethodDescriptor Y_X4_set.1.desc).map (fun d => d.parameters.length) = some 3 := by decide +kernel
theorem yi_X4_set : YI Y_X4_set := ⟨gt_in 496 (by decide +kernel) (by decide +kernel), gt_in 497 (by decide +kernel) (by decide +kernel)⟩
def Y_X3_trace : Yd := (yX3_trace, cX3_trace, 7, (some .int))
theorem yo_X3_trace : YO Y_X3_trace := ⟨gt_in 836 (by decide +kernel) (by decide +kernel), gt_in 118 (by decide +kernel) (by decide +kernel), ⟨by decide +kernel, by decide +kernel⟩, by decide +kernel, by decide⟩
theorem ya_X3_trace : (parseMethodDescriptor Y_X3_trace.1.desc).map (fun d => d.parameters.length) = some 3 := by decide +kernel
theorem yi_X3_trace : YI Y_X3_trace := ⟨gt_in 834 (by decide +kernel) (by decide +kernel), gt_in 835 (by decide +kernel) (by decide +kernel)⟩
def Y_X3_nearest : Yd := (yX3_nearest, cX3_nearest, 7, (some .int))
theorem yo_X3_nearest : YO Y_X3_nearest := ⟨gt_in 903 (by decide +kernel) (by decide +kernel), gt_in 118 (by decide +kernel) (by decide +kernel), ⟨by decide +kernel, by decide +kernel⟩, by decide +kernel, by decide⟩
theorem ya_X3_nearest : (parseMethodDescriptor Y_X3_nearest.1.desc).map (fun d => d.parameters.length) = some 3 := by decide +kernel
theorem yi_X3_nearest : YI Y_X3_nearest := ⟨gt_in 901 (by decide +kernel) (by decide +kernel), gt_in 902 (by decide +kernel) (by decide +kernel)⟩
def Y_X4_make : Yd := (yX4_make, cX4_make, 4, none)
theorem yo_X4_make : YO Y_X4_make := ⟨gt_in 467 (by decide +kernel) (by decide +kernel), gt_in 113 (by decide +kernel) (by decide +kernel), ⟨by decide +kernel, by decide +kernel⟩, by decide +kernel, by decide⟩
theorem ya_X4_make : (parseMethodDescriptor Y_X4_make.1.desc).map (fun d => d.parameters.length) = some 3 := by decide +kernel
theorem yi_X4_make : YI Y_X4_make := ⟨gt_in 465 (by decide +kernel) (by decide +kernel), gt_in 466 (by decide +kernel) (by decide +kernel)⟩
def Y_X4_drop : Yd := (yX4_drop, cX4_drop, 2, none)
theorem yo_X4_drop : YO Y_X4_drop := ⟨gt_in 510 (by decide +kernel) (by decide +kernel), gt_in 113 (by decide +kernel) (by decide +kernel), ⟨by decide +kernel, by decide +kernel⟩, by decide +kernel, by decide⟩
theorem ya_X4_drop : (parseMethodDescriptor Y_X4_drop.1.desc).map (fun d => d.parameters.length) = some 1 := by decide +kernel
theorem yi_X4_drop : YI Y_X4_drop := ⟨gt_in 508 (by decide +kernel) (by decide +kernel), gt_in 509 (by decide +kernel) (by decide +kernel)⟩
def Y_X4_move : Yd := (yX4_move, cX4_move, 6, none)
theorem yo_X4_move : YO Y_X4_move := ⟨gt_in 518 (by decide +kernel) (by decide +kernel), gt_in 113 (by decide +kernel) (by decide +kernel), ⟨by decide +kernel, by decide +kernel⟩, by decide +kernel, by decide⟩
theorem ya_X4_move : (parseMethodDescriptor Y_X4_move.1.desc).map (fun d => d.parameters.length) = some 5 := by decide +kernel
theorem yi_X4_move : YI Y_X4_move := ⟨gt_in 516 (by decide +kernel) (by decide +kernel), gt_in 517 (by decide +kernel) (by decide +kernel)⟩
def Y_X4_held : Yd := (yX4_held, cX4_held, 3, (some .int))
theorem yo_X4_held : YO Y_X4_held := ⟨gt_in 1037 (by decide +kernel) (by decide +kernel), gt_in 113 (by decide +kernel) (by decide +kernel), ⟨by decide +kernel, by decide +kernel⟩, by decide +kernel, by decide⟩
theorem ya_X4_held : (parseMethodDescriptor Y_X4_held.1.desc).map (fun d => d.parameters.length) = some 0 := by decide +kernel
theorem yi_X4_held : YI Y_X4_held := ⟨gt_in 1035 (by decide +kernel) (by decide +kernel), gt_in 1036 (by decide +kernel) (by decide +kernel)⟩
def Y_X4_mixedInto : Yd := (yX4_mixedInto, cX4_mixedInto, 7, (some .long))
theorem yo_X4_mixedInto : YO Y_X4_mixedInto := ⟨gt_in 1060 (by decide +kernel) (by decide +kernel), gt_in 113 (by decide +kernel) (by decide +kernel), ⟨by decide +kernel, by decide +kernel⟩, by decide +kernel, by decide⟩
theorem ya_X4_mixedInto : (parseMethodDescriptor Y_X4_mixedInto.1.desc).map (fun d => d.parameters.length) = some 1 := by decide +kernel
theorem yi_X4_mixedInto : YI Y_X4_mixedInto := ⟨gt_in 1058 (by decide +kernel) (by decide +kernel), gt_in 1059 (by decide +kernel) (by decide +kernel)⟩
def Y_X5_take : Yd := (yX5_take, cX5_take, 4, none)
theorem yo_X5_take : YO Y_X5_take := ⟨gt_in 893 (by decide +kernel) (by decide +kernel), gt_in 119 (by decide +kernel) (by decide +kernel), ⟨by decide +kernel, by decide +kernel⟩, by decide +kernel, by decide⟩
theorem ya_X5_take : (parseMethodDescriptor Y_X5_take.1.desc).map (fun d => d.parameters.length) = some 2 := by decide +kernel
theorem yi_X5_take : YI Y_X5_take := ⟨gt_in 891 (by decide +kernel) (by decide +kernel), gt_in 892 (by decide +kernel) (by decide +kernel)⟩
def Y_X5_all : Yd := (yX5_all, cX5_all, 1, (some .int))
theorem yo_X5_all : YO Y_X5_all := ⟨gt_in 914 (by decide +kernel) (by decide +kernel), gt_in 119 (by decide +kernel) (by decide +kernel), ⟨by decide +kernel, by decide +kernel⟩, by decide +kernel, by decide⟩
theorem ya_X5_all : (parseMethodDescriptor Y_X5_all.1.desc).map (fun d => d.parameters.length) = some 0 := by decide +kernel
theorem yi_X5_all : YI Y_X5_all := ⟨gt_in 912 (by decide +kernel) (by decide +kernel), gt_in 913 (by decide +kernel) (by decide +kernel)⟩
def Y_X5_beats : Yd := (yX5_beats, cX5_beats, 3, (some .boolean))
theorem yo_X5_beats : YO Y_X5_beats := ⟨gt_in 926 (by decide +kernel) (by decide +kernel), gt_in 119 (by decide +kernel) (by decide +kernel), ⟨by decide +kernel, by decide +kernel⟩, by decide +kernel, by decide⟩
theorem ya_X5_beats : (parseMethodDescriptor Y_X5_beats.1.desc).map (fun d => d.parameters.length) = some 2 := by decide +kernel
theorem yi_X5_beats : YI Y_X5_beats := ⟨gt_in 925 (by decide +kernel) (by decide +kernel), gt_in 39 (by decide +kernel) (by decide +kernel)⟩
def Y_X5_offer : Yd := (yX5_offer, cX5_offer, 7, none)
theorem yo_X5_offer : YO Y_X5_offer := ⟨gt_in 922 (by decide +kernel) (by decide +kernel), gt_in 119 (by decide +kernel) (by decide +kernel), ⟨by decide +kernel, by decide +kernel⟩, by decide +kernel, by decide⟩
theorem ya_X5_offer : (parseMethodDescriptor Y_X5_offer.1.desc).map (fun d => d.parameters.length) = some 4 := by decide +kernel
theorem yi_X5_offer : YI Y_X5_offer := ⟨gt_in 921 (by decide +kernel) (by decide +kernel), gt_in 38 (by decide +kernel) (by decide +kernel)⟩
def Y_J6_bitCount_0f7a4 : Yd := (yJ6_bitCount_0f7a4, cJ6_bitCount_0f7a4, 1, (some .int))
theorem yo_J6_bitCount_0f7a4 : YO Y_J6_bitCount_0f7a4 := ⟨gt_in 663 (by decide +kernel) (by decide +kernel), gt_in 124 (by decide +kernel) (by decide +kernel), ⟨by decide +kernel, by decide +kernel⟩, by decide +kernel, by decide⟩
theorem ya_J6_bitCount_0f7a4 : (parseMethodDescriptor Y_J6_bitCount_0f7a4.1.desc).map (fun d => d.parameters.length) = some 1 := by decide +kernel
theorem ys_J6_bitCount_0f7a4 : Cond.static Y_J6_bitCount_0f7a4.1 ∈ gt := gt_in 662 (by decide +kernel) (by decide +kernel)
def Y_X5_arrange : Yd := (yX5_arrange, cX5_arrange, 10, none)
theorem yo_X5_arrange : YO Y_X5_arrange := ⟨gt_in 918 (by decide +kernel) (by decide +kernel), gt_in 119 (by decide +kernel) (by decide +kernel), ⟨by decide +kernel, by decide +kernel⟩, by decide +kernel, by decide⟩
theorem ya_X5_arrange : (parseMethodDescriptor Y_X5_arrange.1.desc).map (fun d => d.parameters.length) = some 5 := by decide +kernel
theorem yi_X5_arrange : YI Y_X5_arrange := ⟨gt_in 917 (by decide +kernel) (by decide +kernel), gt_in 37 (by decide +kernel) (by decide +kernel)⟩
def Y_X6_is : Yd := (yX6_is, cX6_is, 5, (some .boolean))
theorem yo_X6_is : YO Y_X6_is := ⟨gt_in 696 (by decide +kernel) (by decide +kernel), gt_in 120 (by decide +kernel) (by decide +kernel), ⟨by decide +kernel, by decide +kernel⟩, by decide +kernel, by decide⟩
theorem ya_X6_is : (parseMethodDescriptor Y_X6_is.1.desc).map (fun d => d.parameters.length) = some 2 := by decide +kernel
theorem yi_X6_is : YI Y_X6_is := ⟨gt_in 694 (by decide +kernel) (by decide +kernel), gt_in 695 (by decide +kernel) (by decide +kernel)⟩
def Y_X6_chainsOf : Yd := (yX6_chainsOf, cX6_chainsOf, 4, (some .int))
theorem yo_X6_chainsOf : YO Y_X6_chainsOf := ⟨gt_in 660 (by decide +kernel) (by decide +kernel), gt_in 120 (by decide +kernel) (by decide +kernel), ⟨by decide +kernel, by decide +kernel⟩, by decide +kernel, by decide⟩
theorem ya_X6_chainsOf : (parseMethodDescriptor Y_X6_chainsOf.1.desc).map (fun d => d.parameters.length) = some 1 := by decide +kernel
theorem yi_X6_chainsOf : YI Y_X6_chainsOf := ⟨gt_in 658 (by decide +kernel) (by decide +kernel), gt_in 659 (by decide +kernel) (by decide +kernel)⟩
def Y_X6_firstStand : Yd := (yX6_firstStand, cX6_firstStand, 3, (some .int))
theorem yo_X6_firstStand : YO Y_X6_firstStand := ⟨gt_in 630 (by decide +kernel) (by decide +kernel), gt_in 120 (by decide +kernel) (by decide +kernel), ⟨by decide +kernel, by decide +kernel⟩, by decide +kernel, by decide⟩
theorem ya_X6_firstStand : (parseMethodDescriptor Y_X6_firstStand.1.desc).map (fun d => d.parameters.length) = some 0 := by decide +kernel
theorem yi_X6_firstStand : YI Y_X6_firstStand := ⟨gt_in 628 (by decide +kernel) (by decide +kernel), gt_in 629 (by decide +kernel) (by decide +kernel)⟩
def Y_X7_found : Yd := (yX7_found, cX7_found, 2, (some .int))
theorem yo_X7_found : YO Y_X7_found := ⟨gt_in 463 (by decide +kernel) (by decide +kernel), gt_in 112 (by decide +kernel) (by decide +kernel), ⟨by decide +kernel, by decide +kernel⟩, by decide +kernel, by decide⟩
theorem ya_X7_found : (parseMethodDescriptor Y_X7_found.1.desc).map (fun d => d.parameters.length) = some 1 := by decide +kernel
theorem yi_X7_found : YI Y_X7_found := ⟨gt_in 462 (by decide +kernel) (by decide +kernel), gt_in 2 (by decide +kernel) (by decide +kernel)⟩
def Y_X7_made : Yd := (yX7_made, cX7_made, 5, (some .int))
theorem yo_X7_made : YO Y_X7_made := ⟨gt_in 455 (by decide +kernel) (by decide +kernel), gt_in 112 (by decide +kernel) (by decide +kernel), ⟨by decide +kernel, by decide +kernel⟩, by decide +kernel, by decide⟩
theorem ya_X7_made : (parseMethodDescriptor Y_X7_made.1.desc).map (fun d => d.parameters.length) = some 4 := by decide +kernel
theorem yi_X7_made : YI Y_X7_made := ⟨gt_in 454 (by decide +kernel) (by decide +kernel), gt_in 1 (by decide +kernel) (by decide +kernel)⟩
def Y_X7_row : Yd := (yX7_row, cX7_row, 3, (some .int))
theorem yo_X7_row : YO Y_X7_row := ⟨gt_in 451 (by decide +kernel) (by decide +kernel), gt_in 112 (by decide +kernel) (by decide +kernel), ⟨by decide +kernel, by decide +kernel⟩, by decide +kernel, by decide⟩
theorem ya_X7_row : (parseMethodDescriptor Y_X7_row.1.desc).map (fun d => d.parameters.length) = some 2 := by decide +kernel
theorem yi_X7_row : YI Y_X7_row := ⟨gt_in 449 (by decide +kernel) (by decide +kernel), gt_in 450 (by decide +kernel) (by decide +kernel)⟩
def Y_X7_refusedMissing : Yd := (yX7_refusedMissing, cX7_refusedMissing, 3, (some .int))
theorem yo_X7_refusedMissing : YO Y_X7_refusedMissing := ⟨gt_in 480 (by decide +kernel) (by decide +kernel), gt_in 112 (by decide +kernel) (by decide +kernel), ⟨by decide +kernel, by decide +kernel⟩, by decide +kernel, by decide⟩
theorem ya_X7_refusedMissing : (parseMethodDescriptor Y_X7_refusedMissing.1.desc).map (fun d => d.parameters.length) = some 2 := by decide +kernel
theorem yi_X7_refusedMissing : YI Y_X7_refusedMissing := ⟨gt_in 479 (by decide +kernel) (by decide +kernel), gt_in 4 (by decide +kernel) (by decide +kernel)⟩
def Y_X7_refusedPlace : Yd := (yX7_refusedPlace, cX7_refusedPlace, 5, (some .int))
theorem yo_X7_refusedPlace : YO Y_X7_refusedPlace := ⟨gt_in 476 (by decide +kernel) (by decide +kernel), gt_in 112 (by decide +kernel) (by decide +kernel), ⟨by decide +kernel, by decide +kernel⟩, by decide +kernel, by decide⟩
theorem ya_X7_refusedPlace : (parseMethodDescriptor Y_X7_refusedPlace.1.desc).map (fun d => d.parameters.length) = some 3 := by decide +kernel
theorem yi_X7_refusedPlace : YI Y_X7_refusedPlace := ⟨gt_in 475 (by decide +kernel) (by decide +kernel), gt_in 3 (by decide +kernel) (by decide +kernel)⟩
def Y_X7_lay : Yd := (yX7_lay, cX7_lay, 5, (some .int))
theorem yo_X7_lay : YO Y_X7_lay := ⟨gt_in 472 (by decide +kernel) (by decide +kernel), gt_in 112 (by decide +kernel) (by decide +kernel), ⟨by decide +kernel, by decide +kernel⟩, by decide +kernel, by decide⟩
theorem ya_X7_lay : (parseMethodDescriptor Y_X7_lay.1.desc).map (fun d => d.parameters.length) = some 3 := by decide +kernel
theorem yi_X7_lay : YI Y_X7_lay := ⟨gt_in 470 (by decide +kernel) (by decide +kernel), gt_in 471 (by decide +kernel) (by decide +kernel)⟩
def Y_X7_at : Yd := (yX7_at, cX7_at, 4, (some .int))
theorem yo_X7_at : YO Y_X7_at := ⟨gt_in 502 (by decide +kernel) (by decide +kernel), gt_in 112 (by decide +kernel) (by decide +kernel), ⟨by decide +kernel, by decide +kernel⟩, by decide +kernel, by decide⟩
theorem ya_X7_at : (parseMethodDescriptor Y_X7_at.1.desc).map (fun d => d.parameters.length) = some 2 := by decide +kernel
theorem yi_X7_at : YI Y_X7_at := ⟨gt_in 500 (by decide +kernel) (by decide +kernel), gt_in 501 (by decide +kernel) (by decide +kernel)⟩
def Y_X7_tear : Yd := (yX7_tear, cX7_tear, 3, (some .int))
theorem yo_X7_tear : YO Y_X7_tear := ⟨gt_in 506 (by decide +kernel) (by decide +kernel), gt_in 112 (by decide +kernel) (by decide +kernel), ⟨by decide +kernel, by decide +kernel⟩, by decide +kernel, by decide⟩
theorem ya_X7_tear : (parseMethodDescriptor Y_X7_tear.1.desc).map (fun d => d.parameters.length) = some 1 := by decide +kernel
theorem yi_X7_tear : YI Y_X7_tear := ⟨gt_in 504 (by decide +kernel) (by decide +kernel), gt_in 505 (by decide +kernel) (by decide +kernel)⟩
def Y_X7_copy : Yd := (yX7_copy, cX7_copy, 6, (some .int))
theorem yo_X7_copy : YO Y_X7_copy := ⟨gt_in 514 (by decide +kernel) (by decide +kernel), gt_in 112 (by decide +kernel) (by decide +kernel), ⟨by decide +kernel, by decide +kernel⟩, by decide +kernel, by decide⟩
theorem ya_X7_copy : (parseMethodDescriptor Y_X7_copy.1.desc).map (fun d => d.parameters.length) = some 5 := by decide +kernel
theorem yi_X7_copy : YI Y_X7_copy := ⟨gt_in 512 (by decide +kernel) (by decide +kernel), gt_in 513 (by decide +kernel) (by decide +kernel)⟩
def Y_X7_mean : Yd := (yX7_mean, cX7_mean, 7, (some .int))
theorem yo_X7_mean : YO Y_X7_mean := ⟨gt_in 525 (by decide +kernel) (by decide +kernel), gt_in 112 (by decide +kernel) (by decide +kernel), ⟨by decide +kernel, by decide +kernel⟩, by decide +kernel, by decide⟩
theorem ya_X7_mean : (parseMethodDescriptor Y_X7_mean.1.desc).map (fun d => d.parameters.length) = some 1 := by decide +kernel
theorem yi_X7_mean : YI Y_X7_mean := ⟨gt_in 523 (by decide +kernel) (by decide +kernel), gt_in 524 (by decide +kernel) (by decide +kernel)⟩
def Y_X7_text : Yd := (yX7_text, cX7_text, 3, (some .int))
theorem yo_X7_text : YO Y_X7_text := ⟨gt_in 533 (by decide +kernel) (by decide +kernel), gt_in 112 (by decide +kernel) (by decide +kernel), ⟨by decide +kernel, by decide +kernel⟩, by decide +kernel, by decide⟩
theorem ya_X7_text : (parseMethodDescriptor Y_X7_text.1.desc).map (fun d => d.parameters.length) = some 2 := by decide +kernel
theorem yi_X7_text : YI Y_X7_text := ⟨gt_in 531 (by decide +kernel) (by decide +kernel), gt_in 532 (by decide +kernel) (by decide +kernel)⟩
def Y_X7_put : Yd := (yX7_put, cX7_put, 6, (some .int))
theorem yo_X7_put : YO Y_X7_put := ⟨gt_in 537 (by decide +kernel) (by decide +kernel), gt_in 112 (by decide +kernel) (by decide +kernel), ⟨by decide +kernel, by decide +kernel⟩, by decide +kernel, by decide⟩
theorem ya_X7_put : (parseMethodDescriptor Y_X7_put.1.desc).map (fun d => d.parameters.length) = some 3 := by decide +kernel
theorem yi_X7_put : YI Y_X7_put := ⟨gt_in 535 (by decide +kernel) (by decide +kernel), gt_in 536 (by decide +kernel) (by decide +kernel)⟩
def Y_X7_fault : Yd := (yX7_fault, cX7_fault, 3, (some .int))
theorem yo_X7_fault : YO Y_X7_fault := ⟨gt_in 541 (by decide +kernel) (by decide +kernel), gt_in 112 (by decide +kernel) (by decide +kernel), ⟨by decide +kernel, by decide +kernel⟩, by decide +kernel, by decide⟩
theorem ya_X7_fault : (parseMethodDescriptor Y_X7_fault.1.desc).map (fun d => d.parameters.length) = some 1 := by decide +kernel
theorem yi_X7_fault : YI Y_X7_fault := ⟨gt_in 539 (by decide +kernel) (by decide +kernel), gt_in 540 (by decide +kernel) (by decide +kernel)⟩
def Y_X7_changeRules : Yd := (yX7_changeRules, cX7_changeRules, 1, none)
theorem yo_X7_changeRules : YO Y_X7_changeRules := ⟨gt_in 386 (by decide +kernel) (by decide +kernel), gt_in 112 (by decide +kernel) (by decide +kernel), ⟨by decide +kernel, by decide +kernel⟩, by decide +kernel, by decide⟩
theorem ya_X7_changeRules : (parseMethodDescriptor Y_X7_changeRules.1.desc).map (fun d => d.parameters.length) = some 0 := by decide +kernel
theorem yi_X7_changeRules : YI Y_X7_changeRules := ⟨gt_in 385 (by decide +kernel) (by decide +kernel), gt_in 0 (by decide +kernel) (by decide +kernel)⟩
def Y_X7_yard : Yd := (yX7_yard, cX7_yard, 5, (some .int))
theorem yo_X7_yard : YO Y_X7_yard := ⟨gt_in 626 (by decide +kernel) (by decide +kernel), gt_in 112 (by decide +kernel) (by decide +kernel), ⟨by decide +kernel, by decide +kernel⟩, by decide +kernel, by decide⟩
theorem ya_X7_yard : (parseMethodDescriptor Y_X7_yard.1.desc).map (fun d => d.parameters.length) = some 1 := by decide +kernel
theorem yi_X7_yard : YI Y_X7_yard := ⟨gt_in 624 (by decide +kernel) (by decide +kernel), gt_in 625 (by decide +kernel) (by decide +kernel)⟩
def Y_X7_isMan : Yd := (yX7_isMan, cX7_isMan, 2, (some .boolean))
theorem yo_X7_isMan : YO Y_X7_isMan := ⟨gt_in 644 (by decide +kernel) (by decide +kernel), gt_in 112 (by decide +kernel) (by decide +kernel), ⟨by decide +kernel, by decide +kernel⟩, by decide +kernel, by decide⟩
theorem ya_X7_isMan : (parseMethodDescriptor Y_X7_isMan.1.desc).map (fun d => d.parameters.length) = some 1 := by decide +kernel
theorem yi_X7_isMan : YI Y_X7_isMan := ⟨gt_in 643 (by decide +kernel) (by decide +kernel), gt_in 13 (by decide +kernel) (by decide +kernel)⟩
def Y_X7_closedChains : Yd := (yX7_closedChains, cX7_closedChains, 1, (some .int))
theorem yo_X7_closedChains : YO Y_X7_closedChains := ⟨gt_in 656 (by decide +kernel) (by decide +kernel), gt_in 112 (by decide +kernel) (by decide +kernel), ⟨by decide +kernel, by decide +kernel⟩, by decide +kernel, by decide⟩
theorem ya_X7_closedChains : (parseMethodDescriptor Y_X7_closedChains.1.desc).map (fun d => d.parameters.length) = some 0 := by decide +kernel
theorem yi_X7_closedChains : YI Y_X7_closedChains := ⟨gt_in 655 (by decide +kernel) (by decide +kernel), gt_in 15 (by decide +kernel) (by decide +kernel)⟩
def Y_X7_ofMan : Yd := (yX7_ofMan, cX7_ofMan, 3, (some .int))
theorem yo_X7_ofMan : YO Y_X7_ofMan := ⟨gt_in 648 (by decide +kernel) (by decide +kernel), gt_in 112 (by decide +kernel) (by decide +kernel), ⟨by decide +kernel, by decide +kernel⟩, by decide +kernel, by decide⟩
theorem ya_X7_ofMan : (parseMethodDescriptor Y_X7_ofMan.1.desc).map (fun d => d.parameters.length) = some 2 := by decide +kernel
theorem yi_X7_ofMan : YI Y_X7_ofMan := ⟨gt_in 647 (by decide +kernel) (by decide +kernel), gt_in 14 (by decide +kernel) (by decide +kernel)⟩
def Y_X7_man : Yd := (yX7_man, cX7_man, 3, (some .int))
theorem yo_X7_man : YO Y_X7_man := ⟨gt_in 640 (by decide +kernel) (by decide +kernel), gt_in 112 (by decide +kernel) (by decide +kernel), ⟨by decide +kernel, by decide +kernel⟩, by decide +kernel, by decide⟩
theorem ya_X7_man : (parseMethodDescriptor Y_X7_man.1.desc).map (fun d => d.parameters.length) = some 2 := by decide +kernel
theorem yi_X7_man : YI Y_X7_man := ⟨gt_in 638 (by decide +kernel) (by decide +kernel), gt_in 639 (by decide +kernel) (by decide +kernel)⟩
def Y_X7_isChain : Yd := (yX7_isChain, cX7_isChain, 2, (some .boolean))
theorem yo_X7_isChain : YO Y_X7_isChain := ⟨gt_in 678 (by decide +kernel) (by decide +kernel), gt_in 112 (by decide +kernel) (by decide +kernel), ⟨by decide +kernel, by decide +kernel⟩, by decide +kernel, by decide⟩
theorem ya_X7_isChain : (parseMethodDescriptor Y_X7_isChain.1.desc).map (fun d => d.parameters.length) = some 1 := by decide +kernel
theorem yi_X7_isChain : YI Y_X7_isChain := ⟨gt_in 677 (by decide +kernel) (by decide +kernel), gt_in 16 (by decide +kernel) (by decide +kernel)⟩
def Y_X7_apart : Yd := (yX7_apart, cX7_apart, 4, (some .int))
theorem yo_X7_apart : YO Y_X7_apart := ⟨gt_in 687 (by decide +kernel) (by decide +kernel), gt_in 112 (by decide +kernel) (by decide +kernel), ⟨by decide +kernel, by decide +kernel⟩, by decide +kernel, by decide⟩
theorem ya_X7_apart : (parseMethodDescriptor Y_X7_apart.1.desc).map (fun d => d.parameters.length) = some 3 := by decide +kernel
theorem yi_X7_apart : YI Y_X7_apart := ⟨gt_in 686 (by decide +kernel) (by decide +kernel), gt_in 18 (by decide +kernel) (by decide +kernel)⟩
def Y_X7_ofChain : Yd := (yX7_ofChain, cX7_ofChain, 3, (some .int))
theorem yo_X7_ofChain : YO Y_X7_ofChain := ⟨gt_in 682 (by decide +kernel) (by decide +kernel), gt_in 112 (by decide +kernel) (by decide +kernel), ⟨by decide +kernel, by decide +kernel⟩, by decide +kernel, by decide⟩
theorem ya_X7_ofChain : (parseMethodDescriptor Y_X7_ofChain.1.desc).map (fun d => d.parameters.length) = some 2 := by decide +kernel
theorem yi_X7_ofChain : YI Y_X7_ofChain := ⟨gt_in 681 (by decide +kernel) (by decide +kernel), gt_in 17 (by decide +kernel) (by decide +kernel)⟩
def Y_X7_chain : Yd := (yX7_chain, cX7_chain, 3, (some .int))
theorem yo_X7_chain : YO Y_X7_chain := ⟨gt_in 674 (by decide +kernel) (by decide +kernel), gt_in 112 (by decide +kernel) (by decide +kernel), ⟨by decide +kernel, by decide +kernel⟩, by decide +kernel, by decide⟩
theorem ya_X7_chain : (parseMethodDescriptor Y_X7_chain.1.desc).map (fun d => d.parameters.length) = some 2 := by decide +kernel
theorem yi_X7_chain : YI Y_X7_chain := ⟨gt_in 672 (by decide +kernel) (by decide +kernel), gt_in 673 (by decide +kernel) (by decide +kernel)⟩
def Y_X7_chainedTo : Yd := (yX7_chainedTo, cX7_chainedTo, 6, (some .int))
theorem yo_X7_chainedTo : YO Y_X7_chainedTo := ⟨gt_in 702 (by decide +kernel) (by decide +kernel), gt_in 112 (by decide +kernel) (by decide +kernel), ⟨by decide +kernel, by decide +kernel⟩, by decide +kernel, by decide⟩
theorem ya_X7_chainedTo : (parseMethodDescriptor Y_X7_chainedTo.1.desc).map (fun d => d.parameters.length) = some 2 := by decide +kernel
theorem yi_X7_chainedTo : YI Y_X7_chainedTo := ⟨gt_in 701 (by decide +kernel) (by decide +kernel), gt_in 19 (by decide +kernel) (by decide +kernel)⟩
def Y_X7_waysOpenTo : Yd := (yX7_waysOpenTo, cX7_waysOpenTo, 4, (some .int))
theorem yo_X7_waysOpenTo : YO Y_X7_waysOpenTo := ⟨gt_in 706 (by decide +kernel) (by decide +kernel), gt_in 112 (by decide +kernel) (by decide +kernel), ⟨by decide +kernel, by decide +kernel⟩, by decide +kernel, by decide⟩
theorem ya_X7_waysOpenTo : (parseMethodDescriptor Y_X7_waysOpenTo.1.desc).map (fun d => d.parameters.length) = some 1 := by decide +kernel
theorem yi_X7_waysOpenTo : YI Y_X7_waysOpenTo := ⟨gt_in 705 (by decide +kernel) (by decide +kernel), gt_in 20 (by decide +kernel) (by decide +kernel)⟩
def Y_X7_fartherThanTwo : Yd := (yX7_fartherThanTwo, cX7_fartherThanTwo, 4, (some .int))
theorem yo_X7_fartherThanTwo : YO Y_X7_fartherThanTwo := ⟨gt_in 730 (by decide +kernel) (by decide +kernel), gt_in 112 (by decide +kernel) (by decide +kernel), ⟨by decide +kernel, by decide +kernel⟩, by decide +kernel, by decide⟩
theorem ya_X7_fartherThanTwo : (parseMethodDescriptor Y_X7_fartherThanTwo.1.desc).map (fun d => d.parameters.length) = some 1 := by decide +kernel
theorem yi_X7_fartherThanTwo : YI Y_X7_fartherThanTwo := ⟨gt_in 729 (by decide +kernel) (by decide +kernel), gt_in 23 (by decide +kernel) (by decide +kernel)⟩
def Y_X7_leastReach : Yd := (yX7_leastReach, cX7_leastReach, 4, (some .int))
theorem yo_X7_leastReach : YO Y_X7_leastReach := ⟨gt_in 734 (by decide +kernel) (by decide +kernel), gt_in 112 (by decide +kernel) (by decide +kernel), ⟨by decide +kernel, by decide +kernel⟩, by decide +kernel, by decide⟩
theorem ya_X7_leastReach : (parseMethodDescriptor Y_X7_leastReach.1.desc).map (fun d => d.parameters.length) = some 1 := by decide +kernel
theorem yi_X7_leastReach : YI Y_X7_leastReach := ⟨gt_in 733 (by decide +kernel) (by decide +kernel), gt_in 24 (by decide +kernel) (by decide +kernel)⟩
def Y_X7_mark : Yd := (yX7_mark, cX7_mark, 3, (some .int))
theorem yo_X7_mark : YO Y_X7_mark := ⟨gt_in 692 (by decide +kernel) (by decide +kernel), gt_in 112 (by decide +kernel) (by decide +kernel), ⟨by decide +kernel, by decide +kernel⟩, by decide +kernel, by decide⟩
theorem ya_X7_mark : (parseMethodDescriptor Y_X7_mark.1.desc).map (fun d => d.parameters.length) = some 2 := by decide +kernel
theorem yi_X7_mark : YI Y_X7_mark := ⟨gt_in 690 (by decide +kernel) (by decide +kernel), gt_in 691 (by decide +kernel) (by decide +kernel)⟩
def Y_X7_tide : Yd := (yX7_tide, cX7_tide, 3, (some .int))
theorem yo_X7_tide : YO Y_X7_tide := ⟨gt_in 738 (by decide +kernel) (by decide +kernel), gt_in 112 (by decide +kernel) (by decide +kernel), ⟨by decide +kernel, by decide +kernel⟩, by decide +kernel, by decide⟩
theorem ya_X7_tide : (parseMethodDescriptor Y_X7_tide.1.desc).map (fun d => d.parameters.length) = some 1 := by decide +kernel
theorem yi_X7_tide : YI Y_X7_tide := ⟨gt_in 736 (by decide +kernel) (by decide +kernel), gt_in 737 (by decide +kernel) (by decide +kernel)⟩
def Y_X7_open : Yd := (yX7_open, cX7_open, 4, (some .int))
theorem yo_X7_open : YO Y_X7_open := ⟨gt_in 742 (by decide +kernel) (by decide +kernel), gt_in 112 (by decide +kernel) (by decide +kernel), ⟨by decide +kernel, by decide +kernel⟩, by decide +kernel, by decide⟩
theorem ya_X7_open : (parseMethodDescriptor Y_X7_open.1.desc).map (fun d => d.parameters.length) = some 2 := by decide +kernel
theorem yi_X7_open : YI Y_X7_open := ⟨gt_in 740 (by decide +kernel) (by decide +kernel), gt_in 741 (by decide +kernel) (by decide +kernel)⟩
def Y_X7_stepOf : Yd := (yX7_stepOf, cX7_stepOf, 2, (some .int))
theorem yo_X7_stepOf : YO Y_X7_stepOf := ⟨gt_in 749 (by decide +kernel) (by decide +kernel), gt_in 112 (by decide +kernel) (by decide +kernel), ⟨by decide +kernel, by decide +kernel⟩, by decide +kernel, by decide⟩
theorem ya_X7_stepOf : (parseMethodDescriptor Y_X7_stepOf.1.desc).map (fun d => d.parameters.length) = some 2 := by decide +kernel
theorem ys_X7_stepOf : Cond.static Y_X7_stepOf.1 ∈ gt := gt_in 748 (by decide +kernel) (by decide +kernel)
def Y_X7_step : Yd := (yX7_step, cX7_step, 4, (some .int))
theorem yo_X7_step : YO Y_X7_step := ⟨gt_in 746 (by decide +kernel) (by decide +kernel), gt_in 112 (by decide +kernel) (by decide +kernel), ⟨by decide +kernel, by decide +kernel⟩, by decide +kernel, by decide⟩
theorem ya_X7_step : (parseMethodDescriptor Y_X7_step.1.desc).map (fun d => d.parameters.length) = some 2 := by decide +kernel
theorem yi_X7_step : YI Y_X7_step := ⟨gt_in 744 (by decide +kernel) (by decide +kernel), gt_in 745 (by decide +kernel) (by decide +kernel)⟩
def Y_X7_can : Yd := (yX7_can, cX7_can, 2, (some .int))
theorem yo_X7_can : YO Y_X7_can := ⟨gt_in 757 (by decide +kernel) (by decide +kernel), gt_in 112 (by decide +kernel) (by decide +kernel), ⟨by decide +kernel, by decide +kernel⟩, by decide +kernel, by decide⟩
theorem ya_X7_can : (parseMethodDescriptor Y_X7_can.1.desc).map (fun d => d.parameters.length) = some 1 := by decide +kernel
theorem yi_X7_can : YI Y_X7_can := ⟨gt_in 755 (by decide +kernel) (by decide +kernel), gt_in 756 (by decide +kernel) (by decide +kernel)⟩
def Y_X7_undo : Yd := (yX7_undo, cX7_undo, 3, (some .int))
theorem yo_X7_undo : YO Y_X7_undo := ⟨gt_in 761 (by decide +kernel) (by decide +kernel), gt_in 112 (by decide +kernel) (by decide +kernel), ⟨by decide +kernel, by decide +kernel⟩, by decide +kernel, by decide⟩
theorem ya_X7_undo : (parseMethodDescriptor Y_X7_undo.1.desc).map (fun d => d.parameters.length) = some 1 := by decide +kernel
theorem yi_X7_undo : YI Y_X7_undo := ⟨gt_in 759 (by decide +kernel) (by decide +kernel), gt_in 760 (by decide +kernel) (by decide +kernel)⟩
def Y_X7_isCell : Yd := (yX7_isCell, cX7_isCell, 2, (some .boolean))
theorem yo_X7_isCell : YO Y_X7_isCell := ⟨gt_in 773 (by decide +kernel) (by decide +kernel), gt_in 112 (by decide +kernel) (by decide +kernel), ⟨by decide +kernel, by decide +kernel⟩, by decide +kernel, by decide⟩
theorem ya_X7_isCell : (parseMethodDescriptor Y_X7_isCell.1.desc).map (fun d => d.parameters.length) = some 1 := by decide +kernel
theorem yi_X7_isCell : YI Y_X7_isCell := ⟨gt_in 772 (by decide +kernel) (by decide +kernel), gt_in 25 (by decide +kernel) (by decide +kernel)⟩
def Y_X7_who : Yd := (yX7_who, cX7_who, 3, (some .int))
theorem yo_X7_who : YO Y_X7_who := ⟨gt_in 769 (by decide +kernel) (by decide +kernel), gt_in 112 (by decide +kernel) (by decide +kernel), ⟨by decide +kernel, by decide +kernel⟩, by decide +kernel, by decide⟩
theorem ya_X7_who : (parseMethodDescriptor Y_X7_who.1.desc).map (fun d => d.parameters.length) = some 1 := by decide +kernel
theorem yi_X7_who : YI Y_X7_who := ⟨gt_in 767 (by decide +kernel) (by decide +kernel), gt_in 768 (by decide +kernel) (by decide +kernel)⟩
def Y_X7_keep : Yd := (yX7_keep, cX7_keep, 2, (some .int))
theorem yo_X7_keep : YO Y_X7_keep := ⟨gt_in 777 (by decide +kernel) (by decide +kernel), gt_in 112 (by decide +kernel) (by decide +kernel), ⟨by decide +kernel, by decide +kernel⟩, by decide +kernel, by decide⟩
theorem ya_X7_keep : (parseMethodDescriptor Y_X7_keep.1.desc).map (fun d => d.parameters.length) = some 1 := by decide +kernel
theorem yi_X7_keep : YI Y_X7_keep := ⟨gt_in 775 (by decide +kernel) (by decide +kernel), gt_in 776 (by decide +kernel) (by decide +kernel)⟩
def Y_X7_on : Yd := (yX7_on, cX7_on, 2, (some .int))
theorem yo_X7_on : YO Y_X7_on := ⟨gt_in 786 (by decide +kernel) (by decide +kernel), gt_in 112 (by decide +kernel) (by decide +kernel), ⟨by decide +kernel, by decide +kernel⟩, by decide +kernel, by decide⟩
theorem ya_X7_on : (parseMethodDescriptor Y_X7_on.1.desc).map (fun d => d.parameters.length) = some 1 := by decide +kernel
theorem yi_X7_on : YI Y_X7_on := ⟨gt_in 784 (by decide +kernel) (by decide +kernel), gt_in 785 (by decide +kernel) (by decide +kernel)⟩
def Y_X7_refusedWithMen : Yd := (yX7_refusedWithMen, cX7_refusedWithMen, 3, (some .int))
theorem yo_X7_refusedWithMen : YO Y_X7_refusedWithMen := ⟨gt_in 798 (by decide +kernel) (by decide +kernel), gt_in 112 (by decide +kernel) (by decide +kernel), ⟨by decide +kernel, by decide +kernel⟩, by decide +kernel, by decide⟩
theorem ya_X7_refusedWithMen : (parseMethodDescriptor Y_X7_refusedWithMen.1.desc).map (fun d => d.parameters.length) = some 2 := by decide +kernel
theorem yi_X7_refusedWithMen : YI Y_X7_refusedWithMen := ⟨gt_in 797 (by decide +kernel) (by decide +kernel), gt_in 27 (by decide +kernel) (by decide +kernel)⟩
def Y_X7_refusedAim : Yd := (yX7_refusedAim, cX7_refusedAim, 5, (some .int))
theorem yo_X7_refusedAim : YO Y_X7_refusedAim := ⟨gt_in 794 (by decide +kernel) (by decide +kernel), gt_in 112 (by decide +kernel) (by decide +kernel), ⟨by decide +kernel, by decide +kernel⟩, by decide +kernel, by decide⟩
theorem ya_X7_refusedAim : (parseMethodDescriptor Y_X7_refusedAim.1.desc).map (fun d => d.parameters.length) = some 2 := by decide +kernel
theorem yi_X7_refusedAim : YI Y_X7_refusedAim := ⟨gt_in 793 (by decide +kernel) (by decide +kernel), gt_in 26 (by decide +kernel) (by decide +kernel)⟩
def Y_X7_isLike : Yd := (yX7_isLike, cX7_isLike, 5, (some .boolean))
theorem yo_X7_isLike : YO Y_X7_isLike := ⟨gt_in 832 (by decide +kernel) (by decide +kernel), gt_in 112 (by decide +kernel) (by decide +kernel), ⟨by decide +kernel, by decide +kernel⟩, by decide +kernel, by decide⟩
theorem ya_X7_isLike : (parseMethodDescriptor Y_X7_isLike.1.desc).map (fun d => d.parameters.length) = some 2 := by decide +kernel
theorem yi_X7_isLike : YI Y_X7_isLike := ⟨gt_in 831 (by decide +kernel) (by decide +kernel), gt_in 32 (by decide +kernel) (by decide +kernel)⟩
def Y_X7_firstLike : Yd := (yX7_firstLike, cX7_firstLike, 3, (some .int))
theorem yo_X7_firstLike : YO Y_X7_firstLike := ⟨gt_in 802 (by decide +kernel) (by decide +kernel), gt_in 112 (by decide +kernel) (by decide +kernel), ⟨by decide +kernel, by decide +kernel⟩, by decide +kernel, by decide⟩
theorem ya_X7_firstLike : (parseMethodDescriptor Y_X7_firstLike.1.desc).map (fun d => d.parameters.length) = some 1 := by decide +kernel
theorem yi_X7_firstLike : YI Y_X7_firstLike := ⟨gt_in 801 (by decide +kernel) (by decide +kernel), gt_in 28 (by decide +kernel) (by decide +kernel)⟩
def Y_X7_near : Yd := (yX7_near, cX7_near, 4, (some .int))
theorem yo_X7_near : YO Y_X7_near := ⟨gt_in 790 (by decide +kernel) (by decide +kernel), gt_in 112 (by decide +kernel) (by decide +kernel), ⟨by decide +kernel, by decide +kernel⟩, by decide +kernel, by decide⟩
theorem ya_X7_near : (parseMethodDescriptor Y_X7_near.1.desc).map (fun d => d.parameters.length) = some 1 := by decide +kernel
theorem yi_X7_near : YI Y_X7_near := ⟨gt_in 788 (by decide +kernel) (by decide +kernel), gt_in 789 (by decide +kernel) (by decide +kernel)⟩
def Y_X7_path : Yd := (yX7_path, cX7_path, 6, (some .int))
theorem yo_X7_path : YO Y_X7_path := ⟨gt_in 846 (by decide +kernel) (by decide +kernel), gt_in 112 (by decide +kernel) (by decide +kernel), ⟨by decide +kernel, by decide +kernel⟩, by decide +kernel, by decide⟩
theorem ya_X7_path : (parseMethodDescriptor Y_X7_path.1.desc).map (fun d => d.parameters.length) = some 2 := by decide +kernel
theorem yi_X7_path : YI Y_X7_path := ⟨gt_in 844 (by decide +kernel) (by decide +kernel), gt_in 845 (by decide +kernel) (by decide +kernel)⟩
def Y_X7_reach : Yd := (yX7_reach, cX7_reach, 3, (some .int))
theorem yo_X7_reach : YO Y_X7_reach := ⟨gt_in 850 (by decide +kernel) (by decide +kernel), gt_in 112 (by decide +kernel) (by decide +kernel), ⟨by decide +kernel, by decide +kernel⟩, by decide +kernel, by decide⟩
theorem ya_X7_reach : (parseMethodDescriptor Y_X7_reach.1.desc).map (fun d => d.parameters.length) = some 0 := by decide +kernel
theorem yi_X7_reach : YI Y_X7_reach := ⟨gt_in 848 (by decide +kernel) (by decide +kernel), gt_in 849 (by decide +kernel) (by decide +kernel)⟩
def Y_X7_where : Yd := (yX7_where, cX7_where, 5, (some .int))
theorem yo_X7_where : YO Y_X7_where := ⟨gt_in 854 (by decide +kernel) (by decide +kernel), gt_in 112 (by decide +kernel) (by decide +kernel), ⟨by decide +kernel, by decide +kernel⟩, by decide +kernel, by decide⟩
theorem ya_X7_where : (parseMethodDescriptor Y_X7_where.1.desc).map (fun d => d.parameters.length) = some 1 := by decide +kernel
theorem yi_X7_where : YI Y_X7_where := ⟨gt_in 852 (by decide +kernel) (by decide +kernel), gt_in 853 (by decide +kernel) (by decide +kernel)⟩
def Y_X7_meet : Yd := (yX7_meet, cX7_meet, 4, (some .int))
theorem yo_X7_meet : YO Y_X7_meet := ⟨gt_in 858 (by decide +kernel) (by decide +kernel), gt_in 112 (by decide +kernel) (by decide +kernel), ⟨by decide +kernel, by decide +kernel⟩, by decide +kernel, by decide⟩
theorem ya_X7_meet : (parseMethodDescriptor Y_X7_meet.1.desc).map (fun d => d.parameters.length) = some 2 := by decide +kernel
theorem yi_X7_meet : YI Y_X7_meet := ⟨gt_in 856 (by decide +kernel) (by decide +kernel), gt_in 857 (by decide +kernel) (by decide +kernel)⟩
def Y_X7_allInColumn : Yd := (yX7_allInColumn, cX7_allInColumn, 4, (some .boolean))
theorem yo_X7_allInColumn : YO Y_X7_allInColumn := ⟨gt_in 866 (by decide +kernel) (by decide +kernel), gt_in 112 (by decide +kernel) (by decide +kernel), ⟨by decide +kernel, by decide +kernel⟩, by decide +kernel, by decide⟩
theorem ya_X7_allInColumn : (parseMethodDescriptor Y_X7_allInColumn.1.desc).map (fun d => d.parameters.length) = some 2 := by decide +kernel
theorem yi_X7_allInColumn : YI Y_X7_allInColumn := ⟨gt_in 865 (by decide +kernel) (by decide +kernel), gt_in 33 (by decide +kernel) (by decide +kernel)⟩
def Y_X7_window : Yd := (yX7_window, cX7_window, 3, (some .int))
theorem yo_X7_window : YO Y_X7_window := ⟨gt_in 862 (by decide +kernel) (by decide +kernel), gt_in 112 (by decide +kernel) (by decide +kernel), ⟨by decide +kernel, by decide +kernel⟩, by decide +kernel, by decide⟩
theorem ya_X7_window : (parseMethodDescriptor Y_X7_window.1.desc).map (fun d => d.parameters.length) = some 1 := by decide +kernel
theorem yi_X7_window : YI Y_X7_window := ⟨gt_in 860 (by decide +kernel) (by decide +kernel), gt_in 861 (by decide +kernel) (by decide +kernel)⟩
def Y_X7_standFrom : Yd := (yX7_standFrom, cX7_standFrom, 5, (some .int))
theorem yo_X7_standFrom : YO Y_X7_standFrom := ⟨gt_in 880 (by decide +kernel) (by decide +kernel), gt_in 112 (by decide +kernel) (by decide +kernel), ⟨by decide +kernel, by decide +kernel⟩, by decide +kernel, by decide⟩
theorem ya_X7_standFrom : (parseMethodDescriptor Y_X7_standFrom.1.desc).map (fun d => d.parameters.length) = some 2 := by decide +kernel
theorem yi_X7_standFrom : YI Y_X7_standFrom := ⟨gt_in 879 (by decide +kernel) (by decide +kernel), gt_in 35 (by decide +kernel) (by decide +kernel)⟩
def Y_X7_soundStand : Yd := (yX7_soundStand, cX7_soundStand, 5, (some .int))
theorem yo_X7_soundStand : YO Y_X7_soundStand := ⟨gt_in 875 (by decide +kernel) (by decide +kernel), gt_in 112 (by decide +kernel) (by decide +kernel), ⟨by decide +kernel, by decide +kernel⟩, by decide +kernel, by decide⟩
theorem ya_X7_soundStand : (parseMethodDescriptor Y_X7_soundStand.1.desc).map (fun d => d.parameters.length) = some 1 := by decide +kernel
theorem yi_X7_soundStand : YI Y_X7_soundStand := ⟨gt_in 874 (by decide +kernel) (by decide +kernel), gt_in 34 (by decide +kernel) (by decide +kernel)⟩
def Y_X7_comes : Yd := (yX7_comes, cX7_comes, 6, (some .int))
theorem yo_X7_comes : YO Y_X7_comes := ⟨gt_in 871 (by decide +kernel) (by decide +kernel), gt_in 112 (by decide +kernel) (by decide +kernel), ⟨by decide +kernel, by decide +kernel⟩, by decide +kernel, by decide⟩
theorem ya_X7_comes : (parseMethodDescriptor Y_X7_comes.1.desc).map (fun d => d.parameters.length) = some 2 := by decide +kernel
theorem yi_X7_comes : YI Y_X7_comes := ⟨gt_in 869 (by decide +kernel) (by decide +kernel), gt_in 870 (by decide +kernel) (by decide +kernel)⟩
def Y_X7_refusedWants : Yd := (yX7_refusedWants, cX7_refusedWants, 6, (some .int))
theorem yo_X7_refusedWants : YO Y_X7_refusedWants := ⟨gt_in 889 (by decide +kernel) (by decide +kernel), gt_in 112 (by decide +kernel) (by decide +kernel), ⟨by decide +kernel, by decide +kernel⟩, by decide +kernel, by decide⟩
theorem ya_X7_refusedWants : (parseMethodDescriptor Y_X7_refusedWants.1.desc).map (fun d => d.parameters.length) = some 2 := by decide +kernel
theorem yi_X7_refusedWants : YI Y_X7_refusedWants := ⟨gt_in 888 (by decide +kernel) (by decide +kernel), gt_in 36 (by decide +kernel) (by decide +kernel)⟩
def Y_X7_fetch : Yd := (yX7_fetch, cX7_fetch, 7, (some .int))
theorem yo_X7_fetch : YO Y_X7_fetch := ⟨gt_in 885 (by decide +kernel) (by decide +kernel), gt_in 112 (by decide +kernel) (by decide +kernel), ⟨by decide +kernel, by decide +kernel⟩, by decide +kernel, by decide⟩
theorem ya_X7_fetch : (parseMethodDescriptor Y_X7_fetch.1.desc).map (fun d => d.parameters.length) = some 1 := by decide +kernel
theorem yi_X7_fetch : YI Y_X7_fetch := ⟨gt_in 883 (by decide +kernel) (by decide +kernel), gt_in 884 (by decide +kernel) (by decide +kernel)⟩
def Y_X7_order : Yd := (yX7_order, cX7_order, 5, (some .int))
theorem yo_X7_order : YO Y_X7_order := ⟨gt_in 910 (by decide +kernel) (by decide +kernel), gt_in 112 (by decide +kernel) (by decide +kernel), ⟨by decide +kernel, by decide +kernel⟩, by decide +kernel, by decide⟩
theorem ya_X7_order : (parseMethodDescriptor Y_X7_order.1.desc).map (fun d => d.parameters.length) = some 2 := by decide +kernel
theorem yi_X7_order : YI Y_X7_order := ⟨gt_in 908 (by decide +kernel) (by decide +kernel), gt_in 909 (by decide +kernel) (by decide +kernel)⟩
def Y_X7_refusedKeys : Yd := (yX7_refusedKeys, cX7_refusedKeys, 4, (some .int))
theorem yo_X7_refusedKeys : YO Y_X7_refusedKeys := ⟨gt_in 940 (by decide +kernel) (by decide +kernel), gt_in 112 (by decide +kernel) (by decide +kernel), ⟨by decide +kernel, by decide +kernel⟩, by decide +kernel, by decide⟩
theorem ya_X7_refusedKeys : (parseMethodDescriptor Y_X7_refusedKeys.1.desc).map (fun d => d.parameters.length) = some 1 := by decide +kernel
theorem yi_X7_refusedKeys : YI Y_X7_refusedKeys := ⟨gt_in 939 (by decide +kernel) (by decide +kernel), gt_in 40 (by decide +kernel) (by decide +kernel)⟩
def Y_X7_opened : Yd := (yX7_opened, cX7_opened, 5, (some .int))
theorem yo_X7_opened : YO Y_X7_opened := ⟨gt_in 948 (by decide +kernel) (by decide +kernel), gt_in 112 (by decide +kernel) (by decide +kernel), ⟨by decide +kernel, by decide +kernel⟩, by decide +kernel, by decide⟩
theorem ya_X7_opened : (parseMethodDescriptor Y_X7_opened.1.desc).map (fun d => d.parameters.length) = some 2 := by decide +kernel
theorem yi_X7_opened : YI Y_X7_opened := ⟨gt_in 947 (by decide +kernel) (by decide +kernel), gt_in 42 (by decide +kernel) (by decide +kernel)⟩
def Y_X7_fewestKeys : Yd := (yX7_fewestKeys, cX7_fewestKeys, 6, (some .int))
theorem yo_X7_fewestKeys : YO Y_X7_fewestKeys := ⟨gt_in 944 (by decide +kernel) (by decide +kernel), gt_in 112 (by decide +kernel) (by decide +kernel), ⟨by decide +kernel, by decide +kernel⟩, by decide +kernel, by decide⟩
theorem ya_X7_fewestKeys : (parseMethodDescriptor Y_X7_fewestKeys.1.desc).map (fun d => d.parameters.length) = some 2 := by decide +kernel
theorem yi_X7_fewestKeys : YI Y_X7_fewestKeys := ⟨gt_in 943 (by decide +kernel) (by decide +kernel), gt_in 41 (by decide +kernel) (by decide +kernel)⟩
def Y_X7_keys : Yd := (yX7_keys, cX7_keys, 3, (some .int))
theorem yo_X7_keys : YO Y_X7_keys := ⟨gt_in 936 (by decide +kernel) (by decide +kernel), gt_in 112 (by decide +kernel) (by decide +kernel), ⟨by decide +kernel, by decide +kernel⟩, by decide +kernel, by decide⟩
theorem ya_X7_keys : (parseMethodDescriptor Y_X7_keys.1.desc).map (fun d => d.parameters.length) = some 1 := by decide +kernel
theorem yi_X7_keys : YI Y_X7_keys := ⟨gt_in 934 (by decide +kernel) (by decide +kernel), gt_in 935 (by decide +kernel) (by decide +kernel)⟩
def Y_X7_free : Yd := (yX7_free, cX7_free, 4, (some .int))
theorem yo_X7_free : YO Y_X7_free := ⟨gt_in 952 (by decide +kernel) (by decide +kernel), gt_in 112 (by decide +kernel) (by decide +kernel), ⟨by decide +kernel, by decide +kernel⟩, by decide +kernel, by decide⟩
theorem ya_X7_free : (parseMethodDescriptor Y_X7_free.1.desc).map (fun d => d.parameters.length) = some 2 := by decide +kernel
theorem yi_X7_free : YI Y_X7_free := ⟨gt_in 950 (by decide +kernel) (by decide +kernel), gt_in 951 (by decide +kernel) (by decide +kernel)⟩
def Y_X7_couldBeFiled : Yd := (yX7_couldBeFiled, cX7_couldBeFiled, 4, (some .int))
theorem yo_X7_couldBeFiled : YO Y_X7_couldBeFiled := ⟨gt_in 960 (by decide +kernel) (by decide +kernel), gt_in 112 (by decide +kernel) (by decide +kernel), ⟨by decide +kernel, by decide +kernel⟩, by decide +kernel, by decide⟩
theorem ya_X7_couldBeFiled : (parseMethodDescriptor Y_X7_couldBeFiled.1.desc).map (fun d => d.parameters.length) = some 1 := by decide +kernel
theorem yi_X7_couldBeFiled : YI Y_X7_couldBeFiled := ⟨gt_in 959 (by decide +kernel) (by decide +kernel), gt_in 43 (by decide +kernel) (by decide +kernel)⟩
def Y_X7_filed : Yd := (yX7_filed, cX7_filed, 6, (some .int))
theorem yo_X7_filed : YO Y_X7_filed := ⟨gt_in 956 (by decide +kernel) (by decide +kernel), gt_in 112 (by decide +kernel) (by decide +kernel), ⟨by decide +kernel, by decide +kernel⟩, by decide +kernel, by decide⟩
theorem ya_X7_filed : (parseMethodDescriptor Y_X7_filed.1.desc).map (fun d => d.parameters.length) = some 1 := by decide +kernel
theorem yi_X7_filed : YI Y_X7_filed := ⟨gt_in 954 (by decide +kernel) (by decide +kernel), gt_in 955 (by decide +kernel) (by decide +kernel)⟩
def Y_X7_isStep : Yd := (yX7_isStep, cX7_isStep, 2, (some .boolean))
theorem yo_X7_isStep : YO Y_X7_isStep := ⟨gt_in 968 (by decide +kernel) (by decide +kernel), gt_in 112 (by decide +kernel) (by decide +kernel), ⟨by decide +kernel, by decide +kernel⟩, by decide +kernel, by decide⟩
theorem ya_X7_isStep : (parseMethodDescriptor Y_X7_isStep.1.desc).map (fun d => d.parameters.length) = some 1 := by decide +kernel
theorem yi_X7_isStep : YI Y_X7_isStep := ⟨gt_in 967 (by decide +kernel) (by decide +kernel), gt_in 44 (by decide +kernel) (by decide +kernel)⟩
def Y_X7_stretch : Yd := (yX7_stretch, cX7_stretch, 4, (some .int))
theorem yo_X7_stretch : YO Y_X7_stretch := ⟨gt_in 972 (by decide +kernel) (by decide +kernel), gt_in 112 (by decide +kernel) (by decide +kernel), ⟨by decide +kernel, by decide +kernel⟩, by decide +kernel, by decide⟩
theorem ya_X7_stretch : (parseMethodDescriptor Y_X7_stretch.1.desc).map (fun d => d.parameters.length) = some 1 := by decide +kernel
theorem yi_X7_stretch : YI Y_X7_stretch := ⟨gt_in 971 (by decide +kernel) (by decide +kernel), gt_in 45 (by decide +kernel) (by decide +kernel)⟩
def Y_X7_judge : Yd := (yX7_judge, cX7_judge, 8, (some .int))
theorem yo_X7_judge : YO Y_X7_judge := ⟨gt_in 964 (by decide +kernel) (by decide +kernel), gt_in 112 (by decide +kernel) (by decide +kernel), ⟨by decide +kernel, by decide +kernel⟩, by decide +kernel, by decide⟩
theorem ya_X7_judge : (parseMethodDescriptor Y_X7_judge.1.desc).map (fun d => d.parameters.length) = some 1 := by decide +kernel
theorem yi_X7_judge : YI Y_X7_judge := ⟨gt_in 962 (by decide +kernel) (by decide +kernel), gt_in 963 (by decide +kernel) (by decide +kernel)⟩
def Y_X7_quarrel : Yd := (yX7_quarrel, cX7_quarrel, 3, (some .int))
theorem yo_X7_quarrel : YO Y_X7_quarrel := ⟨gt_in 976 (by decide +kernel) (by decide +kernel), gt_in 112 (by decide +kernel) (by decide +kernel), ⟨by decide +kernel, by decide +kernel⟩, by decide +kernel, by decide⟩
theorem ya_X7_quarrel : (parseMethodDescriptor Y_X7_quarrel.1.desc).map (fun d => d.parameters.length) = some 2 := by decide +kernel
theorem yi_X7_quarrel : YI Y_X7_quarrel := ⟨gt_in 974 (by decide +kernel) (by decide +kernel), gt_in 975 (by decide +kernel) (by decide +kernel)⟩
def Y_X7_peace : Yd := (yX7_peace, cX7_peace, 3, (some .int))
theorem yo_X7_peace : YO Y_X7_peace := ⟨gt_in 980 (by decide +kernel) (by decide +kernel), gt_in 112 (by decide +kernel) (by decide +kernel), ⟨by decide +kernel, by decide +kernel⟩, by decide +kernel, by decide⟩
theorem ya_X7_peace : (parseMethodDescriptor Y_X7_peace.1.desc).map (fun d => d.parameters.length) = some 1 := by decide +kernel
theorem yi_X7_peace : YI Y_X7_peace := ⟨gt_in 978 (by decide +kernel) (by decide +kernel), gt_in 979 (by decide +kernel) (by decide +kernel)⟩
def Y_X7_manAt : Yd := (yX7_manAt, cX7_manAt, 3, (some .int))
theorem yo_X7_manAt : YO Y_X7_manAt := ⟨gt_in 992 (by decide +kernel) (by decide +kernel), gt_in 112 (by decide +kernel) (by decide +kernel), ⟨by decide +kernel, by decide +kernel⟩, by decide +kernel, by decide⟩
theorem ya_X7_manAt : (parseMethodDescriptor Y_X7_manAt.1.desc).map (fun d => d.parameters.length) = some 2 := by decide +kernel
theorem yi_X7_manAt : YI Y_X7_manAt := ⟨gt_in 991 (by decide +kernel) (by decide +kernel), gt_in 47 (by decide +kernel) (by decide +kernel)⟩
def Y_X7_isOrderOfMen : Yd := (yX7_isOrderOfMen, cX7_isOrderOfMen, 4, (some .boolean))
theorem yo_X7_isOrderOfMen : YO Y_X7_isOrderOfMen := ⟨gt_in 988 (by decide +kernel) (by decide +kernel), gt_in 112 (by decide +kernel) (by decide +kernel), ⟨by decide +kernel, by decide +kernel⟩, by decide +kernel, by decide⟩
theorem ya_X7_isOrderOfMen : (parseMethodDescriptor Y_X7_isOrderOfMen.1.desc).map (fun d => d.parameters.length) = some 1 := by decide +kernel
theorem yi_X7_isOrderOfMen : YI Y_X7_isOrderOfMen := ⟨gt_in 987 (by decide +kernel) (by decide +kernel), gt_in 46 (by decide +kernel) (by decide +kernel)⟩
def Y_X7_quarrelsIn : Yd := (yX7_quarrelsIn, cX7_quarrelsIn, 8, (some .int))
theorem yo_X7_quarrelsIn : YO Y_X7_quarrelsIn := ⟨gt_in 996 (by decide +kernel) (by decide +kernel), gt_in 112 (by decide +kernel) (by decide +kernel), ⟨by decide +kernel, by decide +kernel⟩, by decide +kernel, by decide⟩
theorem ya_X7_quarrelsIn : (parseMethodDescriptor Y_X7_quarrelsIn.1.desc).map (fun d => d.parameters.length) = some 1 := by decide +kernel
theorem yi_X7_quarrelsIn : YI Y_X7_quarrelsIn := ⟨gt_in 995 (by decide +kernel) (by decide +kernel), gt_in 48 (by decide +kernel) (by decide +kernel)⟩
def Y_X7_easter : Yd := (yX7_easter, cX7_easter, 7, (some .int))
theorem yo_X7_easter : YO Y_X7_easter := ⟨gt_in 984 (by decide +kernel) (by decide +kernel), gt_in 112 (by decide +kernel) (by decide +kernel), ⟨by decide +kernel, by decide +kernel⟩, by decide +kernel, by decide⟩
theorem ya_X7_easter : (parseMethodDescriptor Y_X7_easter.1.desc).map (fun d => d.parameters.length) = some 1 := by decide +kernel
theorem yi_X7_easter : YI Y_X7_easter := ⟨gt_in 982 (by decide +kernel) (by decide +kernel), gt_in 983 (by decide +kernel) (by decide +kernel)⟩
def Y_X7_lots : Yd := (yX7_lots, cX7_lots, 10, (some .int))
theorem yo_X7_lots : YO Y_X7_lots := ⟨gt_in 1000 (by decide +kernel) (by decide +kernel), gt_in 112 (by decide +kernel) (by decide +kernel), ⟨by decide +kernel, by decide +kernel⟩, by decide +kernel, by decide⟩
theorem ya_X7_lots : (parseMethodDescriptor Y_X7_lots.1.desc).map (fun d => d.parameters.length) = some 2 := by decide +kernel
theorem yi_X7_lots : YI Y_X7_lots := ⟨gt_in 998 (by decide +kernel) (by decide +kernel), gt_in 999 (by decide +kernel) (by decide +kernel)⟩
def Y_X7_asked : Yd := (yX7_asked, cX7_asked, 1, (some .int))
theorem yo_X7_asked : YO Y_X7_asked := ⟨gt_in 1009 (by decide +kernel) (by decide +kernel), gt_in 112 (by decide +kernel) (by decide +kernel), ⟨by decide +kernel, by decide +kernel⟩, by decide +kernel, by decide⟩
theorem ya_X7_asked : (parseMethodDescriptor Y_X7_asked.1.desc).map (fun d => d.parameters.length) = some 0 := by decide +kernel
theorem yi_X7_asked : YI Y_X7_asked := ⟨gt_in 1007 (by decide +kernel) (by decide +kernel), gt_in 1008 (by decide +kernel) (by decide +kernel)⟩
def Y_X7_possibleSteps : Yd := (yX7_possibleSteps, cX7_possibleSteps, 3, (some .int))
theorem yo_X7_possibleSteps : YO Y_X7_possibleSteps := ⟨gt_in 1017 (by decide +kernel) (by decide +kernel), gt_in 112 (by decide +kernel) (by decide +kernel), ⟨by decide +kernel, by decide +kernel⟩, by decide +kernel, by decide⟩
theorem ya_X7_possibleSteps : (parseMethodDescriptor Y_X7_possibleSteps.1.desc).map (fun d => d.parameters.length) = some 0 := by decide +kernel
theorem yi_X7_possibleSteps : YI Y_X7_possibleSteps := ⟨gt_in 1016 (by decide +kernel) (by decide +kernel), gt_in 49 (by decide +kernel) (by decide +kernel)⟩
def Y_X7_commonPart : Yd := (yX7_commonPart, cX7_commonPart, 4, (some .int))
theorem yo_X7_commonPart : YO Y_X7_commonPart := ⟨gt_in 1021 (by decide +kernel) (by decide +kernel), gt_in 112 (by decide +kernel) (by decide +kernel), ⟨by decide +kernel, by decide +kernel⟩, by decide +kernel, by decide⟩
theorem ya_X7_commonPart : (parseMethodDescriptor Y_X7_commonPart.1.desc).map (fun d => d.parameters.length) = some 0 := by decide +kernel
theorem yi_X7_commonPart : YI Y_X7_commonPart := ⟨gt_in 1020 (by decide +kernel) (by decide +kernel), gt_in 50 (by decide +kernel) (by decide +kernel)⟩
def Y_X7_upper : Yd := (yX7_upper, cX7_upper, 1, (some .long))
theorem yo_X7_upper : YO Y_X7_upper := ⟨gt_in 1013 (by decide +kernel) (by decide +kernel), gt_in 112 (by decide +kernel) (by decide +kernel), ⟨by decide +kernel, by decide +kernel⟩, by decide +kernel, by decide⟩
theorem ya_X7_upper : (parseMethodDescriptor Y_X7_upper.1.desc).map (fun d => d.parameters.length) = some 0 := by decide +kernel
theorem yi_X7_upper : YI Y_X7_upper := ⟨gt_in 1011 (by decide +kernel) (by decide +kernel), gt_in 1012 (by decide +kernel) (by decide +kernel)⟩
def Y_X7_lower : Yd := (yX7_lower, cX7_lower, 1, (some .long))
theorem yo_X7_lower : YO Y_X7_lower := ⟨gt_in 1025 (by decide +kernel) (by decide +kernel), gt_in 112 (by decide +kernel) (by decide +kernel), ⟨by decide +kernel, by decide +kernel⟩, by decide +kernel, by decide⟩
theorem ya_X7_lower : (parseMethodDescriptor Y_X7_lower.1.desc).map (fun d => d.parameters.length) = some 0 := by decide +kernel
theorem yi_X7_lower : YI Y_X7_lower := ⟨gt_in 1023 (by decide +kernel) (by decide +kernel), gt_in 1024 (by decide +kernel) (by decide +kernel)⟩
def Y_X7_sleepers : Yd := (yX7_sleepers, cX7_sleepers, 3, (some .int))
theorem yo_X7_sleepers : YO Y_X7_sleepers := ⟨gt_in 1033 (by decide +kernel) (by decide +kernel), gt_in 112 (by decide +kernel) (by decide +kernel), ⟨by decide +kernel, by decide +kernel⟩, by decide +kernel, by decide⟩
theorem ya_X7_sleepers : (parseMethodDescriptor Y_X7_sleepers.1.desc).map (fun d => d.parameters.length) = some 0 := by decide +kernel
theorem yi_X7_sleepers : YI Y_X7_sleepers := ⟨gt_in 1032 (by decide +kernel) (by decide +kernel), gt_in 51 (by decide +kernel) (by decide +kernel)⟩
def Y_X7_yardsKept : Yd := (yX7_yardsKept, cX7_yardsKept, 3, (some .int))
theorem yo_X7_yardsKept : YO Y_X7_yardsKept := ⟨gt_in 1041 (by decide +kernel) (by decide +kernel), gt_in 112 (by decide +kernel) (by decide +kernel), ⟨by decide +kernel, by decide +kernel⟩, by decide +kernel, by decide⟩
theorem ya_X7_yardsKept : (parseMethodDescriptor Y_X7_yardsKept.1.desc).map (fun d => d.parameters.length) = some 0 := by decide +kernel
theorem yi_X7_yardsKept : YI Y_X7_yardsKept := ⟨gt_in 1040 (by decide +kernel) (by decide +kernel), gt_in 52 (by decide +kernel) (by decide +kernel)⟩
def Y_X7_count : Yd := (yX7_count, cX7_count, 2, (some .int))
theorem yo_X7_count : YO Y_X7_count := ⟨gt_in 1029 (by decide +kernel) (by decide +kernel), gt_in 112 (by decide +kernel) (by decide +kernel), ⟨by decide +kernel, by decide +kernel⟩, by decide +kernel, by decide⟩
theorem ya_X7_count : (parseMethodDescriptor Y_X7_count.1.desc).map (fun d => d.parameters.length) = some 1 := by decide +kernel
theorem yi_X7_count : YI Y_X7_count := ⟨gt_in 1027 (by decide +kernel) (by decide +kernel), gt_in 1028 (by decide +kernel) (by decide +kernel)⟩
def Y_X7_finding : Yd := (yX7_finding, cX7_finding, 1, (some .int))
theorem yo_X7_finding : YO Y_X7_finding := ⟨gt_in 1045 (by decide +kernel) (by decide +kernel), gt_in 112 (by decide +kernel) (by decide +kernel), ⟨by decide +kernel, by decide +kernel⟩, by decide +kernel, by decide⟩
theorem ya_X7_finding : (parseMethodDescriptor Y_X7_finding.1.desc).map (fun d => d.parameters.length) = some 0 := by decide +kernel
theorem yi_X7_finding : YI Y_X7_finding := ⟨gt_in 1043 (by decide +kernel) (by decide +kernel), gt_in 1044 (by decide +kernel) (by decide +kernel)⟩
def Y_X7_findings : Yd := (yX7_findings, cX7_findings, 2, (some .int))
theorem yo_X7_findings : YO Y_X7_findings := ⟨gt_in 1049 (by decide +kernel) (by decide +kernel), gt_in 112 (by decide +kernel) (by decide +kernel), ⟨by decide +kernel, by decide +kernel⟩, by decide +kernel, by decide⟩
theorem ya_X7_findings : (parseMethodDescriptor Y_X7_findings.1.desc).map (fun d => d.parameters.length) = some 1 := by decide +kernel
theorem yi_X7_findings : YI Y_X7_findings := ⟨gt_in 1047 (by decide +kernel) (by decide +kernel), gt_in 1048 (by decide +kernel) (by decide +kernel)⟩
def Y_X7_digest : Yd := (yX7_digest, cX7_digest, 4, (some .long))
theorem yo_X7_digest : YO Y_X7_digest := ⟨gt_in 1053 (by decide +kernel) (by decide +kernel), gt_in 112 (by decide +kernel) (by decide +kernel), ⟨by decide +kernel, by decide +kernel⟩, by decide +kernel, by decide⟩
theorem ya_X7_digest : (parseMethodDescriptor Y_X7_digest.1.desc).map (fun d => d.parameters.length) = some 0 := by decide +kernel
theorem yi_X7_digest : YI Y_X7_digest := ⟨gt_in 1051 (by decide +kernel) (by decide +kernel), gt_in 1052 (by decide +kernel) (by decide +kernel)⟩
def Y_X8_in : Yd := (yX8_in, cX8_in, 3, (some .boolean))
theorem yo_X8_in : YO Y_X8_in := ⟨gt_in 1270 (by decide +kernel) (by decide +kernel), gt_in 121 (by decide +kernel) (by decide +kernel), ⟨by decide +kernel, by decide +kernel⟩, by decide +kernel, by decide⟩
theorem ya_X8_in : (parseMethodDescriptor Y_X8_in.1.desc).map (fun d => d.parameters.length) = some 3 := by decide +kernel
theorem ys_X8_in : Cond.static Y_X8_in.1 ∈ gt := gt_in 1269 (by decide +kernel) (by decide +kernel)
def Y_X8_has : Yd := (yX8_has, cX8_has, 2, (some .boolean))
theorem yo_X8_has : YO Y_X8_has := ⟨gt_in 1577 (by decide +kernel) (by decide +kernel), gt_in 121 (by decide +kernel) (by decide +kernel), ⟨by decide +kernel, by decide +kernel⟩, by decide +kernel, by decide⟩
theorem ya_X8_has : (parseMethodDescriptor Y_X8_has.1.desc).map (fun d => d.parameters.length) = some 2 := by decide +kernel
theorem ys_X8_has : Cond.static Y_X8_has.1 ∈ gt := gt_in 1576 (by decide +kernel) (by decide +kernel)
def Y_X8_bits : Yd := (yX8_bits, cX8_bits, 3, (some .int))
theorem yo_X8_bits : YO Y_X8_bits := ⟨gt_in 1470 (by decide +kernel) (by decide +kernel), gt_in 121 (by decide +kernel) (by decide +kernel), ⟨by decide +kernel, by decide +kernel⟩, by decide +kernel, by decide⟩
theorem ya_X8_bits : (parseMethodDescriptor Y_X8_bits.1.desc).map (fun d => d.parameters.length) = some 1 := by decide +kernel
theorem ys_X8_bits : Cond.static Y_X8_bits.1 ∈ gt := gt_in 1469 (by decide +kernel) (by decide +kernel)
def Y_X8_sizeOf : Yd := (yX8_sizeOf, cX8_sizeOf, 1, (some .int))
theorem yo_X8_sizeOf : YO Y_X8_sizeOf := ⟨gt_in 1361 (by decide +kernel) (by decide +kernel), gt_in 121 (by decide +kernel) (by decide +kernel), ⟨by decide +kernel, by decide +kernel⟩, by decide +kernel, by decide⟩
theorem ya_X8_sizeOf : (parseMethodDescriptor Y_X8_sizeOf.1.desc).map (fun d => d.parameters.length) = some 1 := by decide +kernel
theorem ys_X8_sizeOf : Cond.static Y_X8_sizeOf.1 ∈ gt := gt_in 1360 (by decide +kernel) (by decide +kernel)
def Y_X8_greater : Yd := (yX8_greater, cX8_greater, 2, (some .int))
theorem yo_X8_greater : YO Y_X8_greater := ⟨gt_in 1367 (by decide +kernel) (by decide +kernel), gt_in 121 (by decide +kernel) (by decide +kernel), ⟨by decide +kernel, by decide +kernel⟩, by decide +kernel, by decide⟩
theorem ya_X8_greater : (parseMethodDescriptor Y_X8_greater.1.desc).map (fun d => d.parameters.length) = some 2 := by decide +kernel
theorem ys_X8_greater : Cond.static Y_X8_greater.1 ∈ gt := gt_in 1366 (by decide +kernel) (by decide +kernel)
def Y_X8_meets : Yd := (yX8_meets, cX8_meets, 2, (some .int))
theorem yo_X8_meets : YO Y_X8_meets := ⟨gt_in 1285 (by decide +kernel) (by decide +kernel), gt_in 121 (by decide +kernel) (by decide +kernel), ⟨by decide +kernel, by decide +kernel⟩, by decide +kernel, by decide⟩
theorem ya_X8_meets : (parseMethodDescriptor Y_X8_meets.1.desc).map (fun d => d.parameters.length) = some 1 := by decide +kernel
theorem yi_X8_meets : YI Y_X8_meets := ⟨gt_in 1284 (by decide +kernel) (by decide +kernel), gt_in 53 (by decide +kernel) (by decide +kernel)⟩
def Y_X8_finding : Yd := (yX8_finding, cX8_finding, 1, (some .int))
theorem yo_X8_finding : YO Y_X8_finding := ⟨gt_in 1263 (by decide +kernel) (by decide +kernel), gt_in 121 (by decide +kernel) (by decide +kernel), ⟨by decide +kernel, by decide +kernel⟩, by decide +kernel, by decide⟩
theorem ya_X8_finding : (parseMethodDescriptor Y_X8_finding.1.desc).map (fun d => d.parameters.length) = some 0 := by decide +kernel
theorem yi_X8_finding : YI Y_X8_finding := ⟨gt_in 1261 (by decide +kernel) (by decide +kernel), gt_in 1262 (by decide +kernel) (by decide +kernel)⟩
def Y_X8_findings : Yd := (yX8_findings, cX8_findings, 2, (some .int))
theorem yo_X8_findings : YO Y_X8_findings := ⟨gt_in 1267 (by decide +kernel) (by decide +kernel), gt_in 121 (by decide +kernel) (by decide +kernel), ⟨by decide +kernel, by decide +kernel⟩, by decide +kernel, by decide⟩
theorem ya_X8_findings : (parseMethodDescriptor Y_X8_findings.1.desc).map (fun d => d.parameters.length) = some 1 := by decide +kernel
theorem yi_X8_findings : YI Y_X8_findings := ⟨gt_in 1265 (by decide +kernel) (by decide +kernel), gt_in 1266 (by decide +kernel) (by decide +kernel)⟩
def Y_X8_tells : Yd := (yX8_tells, cX8_tells, 3, (some .int))
theorem yo_X8_tells : YO Y_X8_tells := ⟨gt_in 1297 (by decide +kernel) (by decide +kernel), gt_in 121 (by decide +kernel) (by decide +kernel), ⟨by decide +kernel, by decide +kernel⟩, by decide +kernel, by decide⟩
theorem ya_X8_tells : (parseMethodDescriptor Y_X8_tells.1.desc).map (fun d => d.parameters.length) = some 2 := by decide +kernel
theorem yi_X8_tells : YI Y_X8_tells := ⟨gt_in 1296 (by decide +kernel) (by decide +kernel), gt_in 55 (by decide +kernel) (by decide +kernel)⟩
def Y_X8_asked : Yd := (yX8_asked, cX8_asked, 1, (some .int))
theorem yo_X8_asked : YO Y_X8_asked := ⟨gt_in 1274 (by decide +kernel) (by decide +kernel), gt_in 121 (by decide +kernel) (by decide +kernel), ⟨by decide +kernel, by decide +kernel⟩, by decide +kernel, by decide⟩
theorem ya_X8_asked : (parseMethodDescriptor Y_X8_asked.1.desc).map (fun d => d.parameters.length) = some 0 := by decide +kernel
theorem yi_X8_asked : YI Y_X8_asked := ⟨gt_in 1272 (by decide +kernel) (by decide +kernel), gt_in 1273 (by decide +kernel) (by decide +kernel)⟩
def Y_X8_isRow : Yd := (yX8_isRow, cX8_isRow, 1, (some .boolean))
theorem yo_X8_isRow : YO Y_X8_isRow := ⟨gt_in 1281 (by decide +kernel) (by decide +kernel), gt_in 121 (by decide +kernel) (by decide +kernel), ⟨by decide +kernel, by decide +kernel⟩, by decide +kernel, by decide⟩
theorem ya_X8_isRow : (parseMethodDescriptor Y_X8_isRow.1.desc).map (fun d => d.parameters.length) = some 1 := by decide +kernel
theorem ys_X8_isRow : Cond.static Y_X8_isRow.1 ∈ gt := gt_in 1280 (by decide +kernel) (by decide +kernel)
def Y_X8_rowAt : Yd := (yX8_rowAt, cX8_rowAt, 3, (some .int))
theorem yo_X8_rowAt : YO Y_X8_rowAt := ⟨gt_in 1293 (by decide +kernel) (by decide +kernel), gt_in 121 (by decide +kernel) (by decide +kernel), ⟨by decide +kernel, by decide +kernel⟩, by decide +kernel, by decide⟩
theorem ya_X8_rowAt : (parseMethodDescriptor Y_X8_rowAt.1.desc).map (fun d => d.parameters.length) = some 2 := by decide +kernel
theorem yi_X8_rowAt : YI Y_X8_rowAt := ⟨gt_in 1292 (by decide +kernel) (by decide +kernel), gt_in 54 (by decide +kernel) (by decide +kernel)⟩
def Y_X8_row : Yd := (yX8_row, cX8_row, 4, (some .int))
theorem yo_X8_row : YO Y_X8_row := ⟨gt_in 1278 (by decide +kernel) (by decide +kernel), gt_in 121 (by decide +kernel) (by decide +kernel), ⟨by decide +kernel, by decide +kernel⟩, by decide +kernel, by decide⟩
theorem ya_X8_row : (parseMethodDescriptor Y_X8_row.1.desc).map (fun d => d.parameters.length) = some 2 := by decide +kernel
theorem yi_X8_row : YI Y_X8_row := ⟨gt_in 1276 (by decide +kernel) (by decide +kernel), gt_in 1277 (by decide +kernel) (by decide +kernel)⟩
def Y_X8_lay : Yd := (yX8_lay, cX8_lay, 5, (some .int))
theorem yo_X8_lay : YO Y_X8_lay := ⟨gt_in 1289 (by decide +kernel) (by decide +kernel), gt_in 121 (by decide +kernel) (by decide +kernel), ⟨by decide +kernel, by decide +kernel⟩, by decide +kernel, by decide⟩
theorem ya_X8_lay : (parseMethodDescriptor Y_X8_lay.1.desc).map (fun d => d.parameters.length) = some 3 := by decide +kernel
theorem yi_X8_lay : YI Y_X8_lay := ⟨gt_in 1287 (by decide +kernel) (by decide +kernel), gt_in 1288 (by decide +kernel) (by decide +kernel)⟩
def Y_X8_at : Yd := (yX8_at, cX8_at, 3, (some .int))
theorem yo_X8_at : YO Y_X8_at := ⟨gt_in 1301 (by decide +kernel) (by decide +kernel), gt_in 121 (by decide +kernel) (by decide +kernel), ⟨by decide +kernel, by decide +kernel⟩, by decide +kernel, by decide⟩
theorem ya_X8_at : (parseMethodDescriptor Y_X8_at.1.desc).map (fun d => d.parameters.length) = some 2 := by decide +kernel
theorem yi_X8_at : YI Y_X8_at := ⟨gt_in 1299 (by decide +kernel) (by decide +kernel), gt_in 1300 (by decide +kernel) (by decide +kernel)⟩
def Y_X8_tear : Yd := (yX8_tear, cX8_tear, 2, (some .int))
theorem yo_X8_tear : YO Y_X8_tear := ⟨gt_in 1305 (by decide +kernel) (by decide +kernel), gt_in 121 (by decide +kernel) (by decide +kernel), ⟨by decide +kernel, by decide +kernel⟩, by decide +kernel, by decide⟩
theorem ya_X8_tear : (parseMethodDescriptor Y_X8_tear.1.desc).map (fun d => d.parameters.length) = some 1 := by decide +kernel
theorem yi_X8_tear : YI Y_X8_tear := ⟨gt_in 1303 (by decide +kernel) (by decide +kernel), gt_in 1304 (by decide +kernel) (by decide +kernel)⟩
def Y_X8_copy : Yd := (yX8_copy, cX8_copy, 7, (some .int))
theorem yo_X8_copy : YO Y_X8_copy := ⟨gt_in 1309 (by decide +kernel) (by decide +kernel), gt_in 121 (by decide +kernel) (by decide +kernel), ⟨by decide +kernel, by decide +kernel⟩, by decide +kernel, by decide⟩
theorem ya_X8_copy : (parseMethodDescriptor Y_X8_copy.1.desc).map (fun d => d.parameters.length) = some 5 := by decide +kernel
theorem yi_X8_copy : YI Y_X8_copy := ⟨gt_in 1307 (by decide +kernel) (by decide +kernel), gt_in 1308 (by decide +kernel) (by decide +kernel)⟩
def Y_X8_mean : Yd := (yX8_mean, cX8_mean, 5, (some .int))
theorem yo_X8_mean : YO Y_X8_mean := ⟨gt_in 1313 (by decide +kernel) (by decide +kernel), gt_in 121 (by decide +kernel) (by decide +kernel), ⟨by decide +kernel, by decide +kernel⟩, by decide +kernel, by decide⟩
theorem ya_X8_mean : (parseMethodDescriptor Y_X8_mean.1.desc).map (fun d => d.parameters.length) = some 1 := by decide +kernel
theorem yi_X8_mean : YI Y_X8_mean := ⟨gt_in 1311 (by decide +kernel) (by decide +kernel), gt_in 1312 (by decide +kernel) (by decide +kernel)⟩
def Y_X8_isText : Yd := (yX8_isText, cX8_isText, 1, (some .boolean))
theorem yo_X8_isText : YO Y_X8_isText := ⟨gt_in 1320 (by decide +kernel) (by decide +kernel), gt_in 121 (by decide +kernel) (by decide +kernel), ⟨by decide +kernel, by decide +kernel⟩, by decide +kernel, by decide⟩
theorem ya_X8_isText : (parseMethodDescriptor Y_X8_isText.1.desc).map (fun d => d.parameters.length) = some 1 := by decide +kernel
theorem ys_X8_isText : Cond.static Y_X8_isText.1 ∈ gt := gt_in 1319 (by decide +kernel) (by decide +kernel)
def Y_X8_text : Yd := (yX8_text, cX8_text, 4, (some .int))
theorem yo_X8_text : YO Y_X8_text := ⟨gt_in 1317 (by decide +kernel) (by decide +kernel), gt_in 121 (by decide +kernel) (by decide +kernel), ⟨by decide +kernel, by decide +kernel⟩, by decide +kernel, by decide⟩
theorem ya_X8_text : (parseMethodDescriptor Y_X8_text.1.desc).map (fun d => d.parameters.length) = some 2 := by decide +kernel
theorem yi_X8_text : YI Y_X8_text := ⟨gt_in 1315 (by decide +kernel) (by decide +kernel), gt_in 1316 (by decide +kernel) (by decide +kernel)⟩
def Y_X8_put : Yd := (yX8_put, cX8_put, 5, (some .int))
theorem yo_X8_put : YO Y_X8_put := ⟨gt_in 1324 (by decide +kernel) (by decide +kernel), gt_in 121 (by decide +kernel) (by decide +kernel), ⟨by decide +kernel, by decide +kernel⟩, by decide +kernel, by decide⟩
theorem ya_X8_put : (parseMethodDescriptor Y_X8_put.1.desc).map (fun d => d.parameters.length) = some 3 := by decide +kernel
theorem yi_X8_put : YI Y_X8_put := ⟨gt_in 1322 (by decide +kernel) (by decide +kernel), gt_in 1323 (by decide +kernel) (by decide +kernel)⟩
def Y_X8_byteAt : Yd := (yX8_byteAt, cX8_byteAt, 3, (some .int))
theorem yo_X8_byteAt : YO Y_X8_byteAt := ⟨gt_in 1336 (by decide +kernel) (by decide +kernel), gt_in 121 (by decide +kernel) (by decide +kernel), ⟨by decide +kernel, by decide +kernel⟩, by decide +kernel, by decide⟩
theorem ya_X8_byteAt : (parseMethodDescriptor Y_X8_byteAt.1.desc).map (fun d => d.parameters.length) = some 2 := by decide +kernel
theorem yi_X8_byteAt : YI Y_X8_byteAt := ⟨gt_in 1335 (by decide +kernel) (by decide +kernel), gt_in 57 (by decide +kernel) (by decide +kernel)⟩
def Y_X8_kindOf : Yd := (yX8_kindOf, cX8_kindOf, 1, (some .int))
theorem yo_X8_kindOf : YO Y_X8_kindOf := ⟨gt_in 1343 (by decide +kernel) (by decide +kernel), gt_in 121 (by decide +kernel) (by decide +kernel), ⟨by decide +kernel, by decide +kernel⟩, by decide +kernel, by decide⟩
theorem ya_X8_kindOf : (parseMethodDescriptor Y_X8_kindOf.1.desc).map (fun d => d.parameters.length) = some 1 := by decide +kernel
theorem ys_X8_kindOf : Cond.static Y_X8_kindOf.1 ∈ gt := gt_in 1342 (by decide +kernel) (by decide +kernel)
def Y_X8_readsCell : Yd := (yX8_readsCell, cX8_readsCell, 5, (some .boolean))
theorem yo_X8_readsCell : YO Y_X8_readsCell := ⟨gt_in 1347 (by decide +kernel) (by decide +kernel), gt_in 121 (by decide +kernel) (by decide +kernel), ⟨by decide +kernel, by decide +kernel⟩, by decide +kernel, by decide⟩
theorem ya_X8_readsCell : (parseMethodDescriptor Y_X8_readsCell.1.desc).map (fun d => d.parameters.length) = some 1 := by decide +kernel
theorem yi_X8_readsCell : YI Y_X8_readsCell := ⟨gt_in 1346 (by decide +kernel) (by decide +kernel), gt_in 59 (by decide +kernel) (by decide +kernel)⟩
def Y_X8_lineEnds : Yd := (yX8_lineEnds, cX8_lineEnds, 1, (some .boolean))
theorem yo_X8_lineEnds : YO Y_X8_lineEnds := ⟨gt_in 1351 (by decide +kernel) (by decide +kernel), gt_in 121 (by decide +kernel) (by decide +kernel), ⟨by decide +kernel, by decide +kernel⟩, by decide +kernel, by decide⟩
theorem ya_X8_lineEnds : (parseMethodDescriptor Y_X8_lineEnds.1.desc).map (fun d => d.parameters.length) = some 0 := by decide +kernel
theorem yi_X8_lineEnds : YI Y_X8_lineEnds := ⟨gt_in 1350 (by decide +kernel) (by decide +kernel), gt_in 60 (by decide +kernel) (by decide +kernel)⟩
def Y_X8_readsLines : Yd := (yX8_readsLines, cX8_readsLines, 4, (some .boolean))
theorem yo_X8_readsLines : YO Y_X8_readsLines := ⟨gt_in 1340 (by decide +kernel) (by decide +kernel), gt_in 121 (by decide +kernel) (by decide +kernel), ⟨by decide +kernel, by decide +kernel⟩, by decide +kernel, by decide⟩
theorem ya_X8_readsLines : (parseMethodDescriptor Y_X8_readsLines.1.desc).map (fun d => d.parameters.length) = some 1 := by decide +kernel
theorem yi_X8_readsLines : YI Y_X8_readsLines := ⟨gt_in 1339 (by decide +kernel) (by decide +kernel), gt_in 58 (by decide +kernel) (by decide +kernel)⟩
def Y_X8_farIn : Yd := (yX8_farIn, cX8_farIn, 3, (some .int))
theorem yo_X8_farIn : YO Y_X8_farIn := ⟨gt_in 1358 (by decide +kernel) (by decide +kernel), gt_in 121 (by decide +kernel) (by decide +kernel), ⟨by decide +kernel, by decide +kernel⟩, by decide +kernel, by decide⟩
theorem ya_X8_farIn : (parseMethodDescriptor Y_X8_farIn.1.desc).map (fun d => d.parameters.length) = some 3 := by decide +kernel
theorem ys_X8_farIn : Cond.static Y_X8_farIn.1 ∈ gt := gt_in 1357 (by decide +kernel) (by decide +kernel)
def Y_X8_reachBy : Yd := (yX8_reachBy, cX8_reachBy, 4, (some .int))
theorem yo_X8_reachBy : YO Y_X8_reachBy := ⟨gt_in 1364 (by decide +kernel) (by decide +kernel), gt_in 121 (by decide +kernel) (by decide +kernel), ⟨by decide +kernel, by decide +kernel⟩, by decide +kernel, by decide⟩
theorem ya_X8_reachBy : (parseMethodDescriptor Y_X8_reachBy.1.desc).map (fun d => d.parameters.length) = some 3 := by decide +kernel
theorem ys_X8_reachBy : Cond.static Y_X8_reachBy.1 ∈ gt := gt_in 1363 (by decide +kernel) (by decide +kernel)
def Y_X8_readsChains : Yd := (yX8_readsChains, cX8_readsChains, 6, (some .boolean))
theorem yo_X8_readsChains : YO Y_X8_readsChains := ⟨gt_in 1355 (by decide +kernel) (by decide +kernel), gt_in 121 (by decide +kernel) (by decide +kernel), ⟨by decide +kernel, by decide +kernel⟩, by decide +kernel, by decide⟩
theorem ya_X8_readsChains : (parseMethodDescriptor Y_X8_readsChains.1.desc).map (fun d => d.parameters.length) = some 1 := by decide +kernel
theorem yi_X8_readsChains : YI Y_X8_readsChains := ⟨gt_in 1354 (by decide +kernel) (by decide +kernel), gt_in 61 (by decide +kernel) (by decide +kernel)⟩
def Y_X8_faultOf : Yd := (yX8_faultOf, cX8_faultOf, 2, (some .int))
theorem yo_X8_faultOf : YO Y_X8_faultOf := ⟨gt_in 1332 (by decide +kernel) (by decide +kernel), gt_in 121 (by decide +kernel) (by decide +kernel), ⟨by decide +kernel, by decide +kernel⟩, by decide +kernel, by decide⟩
theorem ya_X8_faultOf : (parseMethodDescriptor Y_X8_faultOf.1.desc).map (fun d => d.parameters.length) = some 1 := by decide +kernel
theorem yi_X8_faultOf : YI Y_X8_faultOf := ⟨gt_in 1331 (by decide +kernel) (by decide +kernel), gt_in 56 (by decide +kernel) (by decide +kernel)⟩
def Y_X8_fault : Yd := (yX8_fault, cX8_fault, 2, (some .int))
theorem yo_X8_fault : YO Y_X8_fault := ⟨gt_in 1328 (by decide +kernel) (by decide +kernel), gt_in 121 (by decide +kernel) (by decide +kernel), ⟨by decide +kernel, by decide +kernel⟩, by decide +kernel, by decide⟩
theorem ya_X8_fault : (parseMethodDescriptor Y_X8_fault.1.desc).map (fun d => d.parameters.length) = some 1 := by decide +kernel
theorem yi_X8_fault : YI Y_X8_fault := ⟨gt_in 1326 (by decide +kernel) (by decide +kernel), gt_in 1327 (by decide +kernel) (by decide +kernel)⟩
def Y_X8_yard : Yd := (yX8_yard, cX8_yard, 4, (some .int))
theorem yo_X8_yard : YO Y_X8_yard := ⟨gt_in 1371 (by decide +kernel) (by decide +kernel), gt_in 121 (by decide +kernel) (by decide +kernel), ⟨by decide +kernel, by decide +kernel⟩, by decide +kernel, by decide⟩
theorem ya_X8_yard : (parseMethodDescriptor Y_X8_yard.1.desc).map (fun d => d.parameters.length) = some 1 := by decide +kernel
theorem yi_X8_yard : YI Y_X8_yard := ⟨gt_in 1369 (by decide +kernel) (by decide +kernel), gt_in 1370 (by decide +kernel) (by decide +kernel)⟩
def Y_X8_cellMany : Yd := (yX8_cellMany, cX8_cellMany, 1, (some .int))
theorem yo_X8_cellMany : YO Y_X8_cellMany := ⟨gt_in 1486 (by decide +kernel) (by decide +kernel), gt_in 121 (by decide +kernel) (by decide +kernel), ⟨by decide +kernel, by decide +kernel⟩, by decide +kernel, by decide⟩
theorem ya_X8_cellMany : (parseMethodDescriptor Y_X8_cellMany.1.desc).map (fun d => d.parameters.length) = some 0 := by decide +kernel
theorem yi_X8_cellMany : YI Y_X8_cellMany := ⟨gt_in 1485 (by decide +kernel) (by decide +kernel), gt_in 85 (by decide +kernel) (by decide +kernel)⟩
def Y_X8_isMan : Yd := (yX8_isMan, cX8_isMan, 2, (some .boolean))
theorem yo_X8_isMan : YO Y_X8_isMan := ⟨gt_in 1379 (by decide +kernel) (by decide +kernel), gt_in 121 (by decide +kernel) (by decide +kernel), ⟨by decide +kernel, by decide +kernel⟩, by decide +kernel, by decide⟩
theorem ya_X8_isMan : (parseMethodDescriptor Y_X8_isMan.1.desc).map (fun d => d.parameters.length) = some 1 := by decide +kernel
theorem yi_X8_isMan : YI Y_X8_isMan := ⟨gt_in 1378 (by decide +kernel) (by decide +kernel), gt_in 62 (by decide +kernel) (by decide +kernel)⟩
def Y_X8_isCell : Yd := (yX8_isCell, cX8_isCell, 2, (some .boolean))
theorem yo_X8_isCell : YO Y_X8_isCell := ⟨gt_in 1514 (by decide +kernel) (by decide +kernel), gt_in 121 (by decide +kernel) (by decide +kernel), ⟨by decide +kernel, by decide +kernel⟩, by decide +kernel, by decide⟩
theorem ya_X8_isCell : (parseMethodDescriptor Y_X8_isCell.1.desc).map (fun d => d.parameters.length) = some 1 := by decide +kernel
theorem yi_X8_isCell : YI Y_X8_isCell := ⟨gt_in 1513 (by decide +kernel) (by decide +kernel), gt_in 87 (by decide +kernel) (by decide +kernel)⟩
def Y_X8_isChain : Yd := (yX8_isChain, cX8_isChain, 2, (some .boolean))
theorem yo_X8_isChain : YO Y_X8_isChain := ⟨gt_in 1403 (by decide +kernel) (by decide +kernel), gt_in 121 (by decide +kernel) (by decide +kernel), ⟨by decide +kernel, by decide +kernel⟩, by decide +kernel, by decide⟩
theorem ya_X8_isChain : (parseMethodDescriptor Y_X8_isChain.1.desc).map (fun d => d.parameters.length) = some 1 := by decide +kernel
theorem yi_X8_isChain : YI Y_X8_isChain := ⟨gt_in 1402 (by decide +kernel) (by decide +kernel), gt_in 67 (by decide +kernel) (by decide +kernel)⟩
def Y_X8_otherEnd : Yd := (yX8_otherEnd, cX8_otherEnd, 2, (some .int))
theorem yo_X8_otherEnd : YO Y_X8_otherEnd := ⟨gt_in 1391 (by decide +kernel) (by decide +kernel), gt_in 121 (by decide +kernel) (by decide +kernel), ⟨by decide +kernel, by decide +kernel⟩, by decide +kernel, by decide⟩
theorem ya_X8_otherEnd : (parseMethodDescriptor Y_X8_otherEnd.1.desc).map (fun d => d.parameters.length) = some 1 := by decide +kernel
theorem yi_X8_otherEnd : YI Y_X8_otherEnd := ⟨gt_in 1390 (by decide +kernel) (by decide +kernel), gt_in 65 (by decide +kernel) (by decide +kernel)⟩
def Y_X8_lookAtNow : Yd := (yX8_lookAtNow, cX8_lookAtNow, 2, none)
theorem yo_X8_lookAtNow : YO Y_X8_lookAtNow := ⟨gt_in 1411 (by decide +kernel) (by decide +kernel), gt_in 121 (by decide +kernel) (by decide +kernel), ⟨by decide +kernel, by decide +kernel⟩, by decide +kernel, by decide⟩
theorem ya_X8_lookAtNow : (parseMethodDescriptor Y_X8_lookAtNow.1.desc).map (fun d => d.parameters.length) = some 0 := by decide +kernel
theorem yi_X8_lookAtNow : YI Y_X8_lookAtNow := ⟨gt_in 1410 (by decide +kernel) (by decide +kernel), gt_in 69 (by decide +kernel) (by decide +kernel)⟩
def Y_X8_farOf : Yd := (yX8_farOf, cX8_farOf, 2, (some .int))
theorem yo_X8_farOf : YO Y_X8_farOf := ⟨gt_in 1419 (by decide +kernel) (by decide +kernel), gt_in 121 (by decide +kernel) (by decide +kernel), ⟨by decide +kernel, by decide +kernel⟩, by decide +kernel, by decide⟩
theorem ya_X8_farOf : (parseMethodDescriptor Y_X8_farOf.1.desc).map (fun d => d.parameters.length) = some 1 := by decide +kernel
theorem yi_X8_farOf : YI Y_X8_farOf := ⟨gt_in 1418 (by decide +kernel) (by decide +kernel), gt_in 71 (by decide +kernel) (by decide +kernel)⟩
def Y_X8_reachOf : Yd := (yX8_reachOf, cX8_reachOf, 2, (some .int))
theorem yo_X8_reachOf : YO Y_X8_reachOf := ⟨gt_in 1415 (by decide +kernel) (by decide +kernel), gt_in 121 (by decide +kernel) (by decide +kernel), ⟨by decide +kernel, by decide +kernel⟩, by decide +kernel, by decide⟩
theorem ya_X8_reachOf : (parseMethodDescriptor Y_X8_reachOf.1.desc).map (fun d => d.parameters.length) = some 1 := by decide +kernel
theorem yi_X8_reachOf : YI Y_X8_reachOf := ⟨gt_in 1414 (by decide +kernel) (by decide +kernel), gt_in 70 (by decide +kernel) (by decide +kernel)⟩
def Y_X8_isKeptChain : Yd := (yX8_isKeptChain, cX8_isKeptChain, 2, (some .boolean))
theorem yo_X8_isKeptChain : YO Y_X8_isKeptChain := ⟨gt_in 1463 (by decide +kernel) (by decide +kernel), gt_in 121 (by decide +kernel) (by decide +kernel), ⟨by decide +kernel, by decide +kernel⟩, by decide +kernel, by decide⟩
theorem ya_X8_isKeptChain : (parseMethodDescriptor Y_X8_isKeptChain.1.desc).map (fun d => d.parameters.length) = some 1 := by decide +kernel
theorem yi_X8_isKeptChain : YI Y_X8_isKeptChain := ⟨gt_in 1462 (by decide +kernel) (by decide +kernel), gt_in 81 (by decide +kernel) (by decide +kernel)⟩
def Y_X8_allKept : Yd := (yX8_allKept, cX8_allKept, 3, (some .boolean))
theorem yo_X8_allKept : YO Y_X8_allKept := ⟨gt_in 1467 (by decide +kernel) (by decide +kernel), gt_in 121 (by decide +kernel) (by decide +kernel), ⟨by decide +kernel, by decide +kernel⟩, by decide +kernel, by decide⟩
theorem ya_X8_allKept : (parseMethodDescriptor Y_X8_allKept.1.desc).map (fun d => d.parameters.length) = some 0 := by decide +kernel
theorem yi_X8_allKept : YI Y_X8_allKept := ⟨gt_in 1466 (by decide +kernel) (by decide +kernel), gt_in 82 (by decide +kernel) (by decide +kernel)⟩
def Y_X8_isWet : Yd := (yX8_isWet, cX8_isWet, 2, (some .boolean))
theorem yo_X8_isWet : YO Y_X8_isWet := ⟨gt_in 1455 (by decide +kernel) (by decide +kernel), gt_in 121 (by decide +kernel) (by decide +kernel), ⟨by decide +kernel, by decide +kernel⟩, by decide +kernel, by decide⟩
theorem ya_X8_isWet : (parseMethodDescriptor Y_X8_isWet.1.desc).map (fun d => d.parameters.length) = some 1 := by decide +kernel
theorem yi_X8_isWet : YI Y_X8_isWet := ⟨gt_in 1454 (by decide +kernel) (by decide +kernel), gt_in 79 (by decide +kernel) (by decide +kernel)⟩
def Y_X8_whoOn : Yd := (yX8_whoOn, cX8_whoOn, 4, (some .int))
theorem yo_X8_whoOn : YO Y_X8_whoOn := ⟨gt_in 1451 (by decide +kernel) (by decide +kernel), gt_in 121 (by decide +kernel) (by decide +kernel), ⟨by decide +kernel, by decide +kernel⟩, by decide +kernel, by decide⟩
theorem ya_X8_whoOn : (parseMethodDescriptor Y_X8_whoOn.1.desc).map (fun d => d.parameters.length) = some 1 := by decide +kernel
theorem yi_X8_whoOn : YI Y_X8_whoOn := ⟨gt_in 1450 (by decide +kernel) (by decide +kernel), gt_in 78 (by decide +kernel) (by decide +kernel)⟩
def Y_X8_nextCell : Yd := (yX8_nextCell, cX8_nextCell, 5, (some .int))
theorem yo_X8_nextCell : YO Y_X8_nextCell := ⟨gt_in 1447 (by decide +kernel) (by decide +kernel), gt_in 121 (by decide +kernel) (by decide +kernel), ⟨by decide +kernel, by decide +kernel⟩, by decide +kernel, by decide⟩
theorem ya_X8_nextCell : (parseMethodDescriptor Y_X8_nextCell.1.desc).map (fun d => d.parameters.length) = some 2 := by decide +kernel
theorem yi_X8_nextCell : YI Y_X8_nextCell := ⟨gt_in 1446 (by decide +kernel) (by decide +kernel), gt_in 77 (by decide +kernel) (by decide +kernel)⟩
def Y_X8_isChained : Yd := (yX8_isChained, cX8_isChained, 4, (some .boolean))
theorem yo_X8_isChained : YO Y_X8_isChained := ⟨gt_in 1431 (by decide +kernel) (by decide +kernel), gt_in 121 (by decide +kernel) (by decide +kernel), ⟨by decide +kernel, by decide +kernel⟩, by decide +kernel, by decide⟩
theorem ya_X8_isChained : (parseMethodDescriptor Y_X8_isChained.1.desc).map (fun d => d.parameters.length) = some 3 := by decide +kernel
theorem yi_X8_isChained : YI Y_X8_isChained := ⟨gt_in 1430 (by decide +kernel) (by decide +kernel), gt_in 73 (by decide +kernel) (by decide +kernel)⟩
def Y_X8_mayGo : Yd := (yX8_mayGo, cX8_mayGo, 4, (some .boolean))
theorem yo_X8_mayGo : YO Y_X8_mayGo := ⟨gt_in 1443 (by decide +kernel) (by decide +kernel), gt_in 121 (by decide +kernel) (by decide +kernel), ⟨by decide +kernel, by decide +kernel⟩, by decide +kernel, by decide⟩
theorem ya_X8_mayGo : (parseMethodDescriptor Y_X8_mayGo.1.desc).map (fun d => d.parameters.length) = some 2 := by decide +kernel
theorem yi_X8_mayGo : YI Y_X8_mayGo := ⟨gt_in 1442 (by decide +kernel) (by decide +kernel), gt_in 76 (by decide +kernel) (by decide +kernel)⟩
def Y_X8_findTaken : Yd := (yX8_findTaken, cX8_findTaken, 4, none)
theorem yo_X8_findTaken : YO Y_X8_findTaken := ⟨gt_in 1459 (by decide +kernel) (by decide +kernel), gt_in 121 (by decide +kernel) (by decide +kernel), ⟨by decide +kernel, by decide +kernel⟩, by decide +kernel, by decide⟩
theorem ya_X8_findTaken : (parseMethodDescriptor Y_X8_findTaken.1.desc).map (fun d => d.parameters.length) = some 1 := by decide +kernel
theorem yi_X8_findTaken : YI Y_X8_findTaken := ⟨gt_in 1458 (by decide +kernel) (by decide +kernel), gt_in 80 (by decide +kernel) (by decide +kernel)⟩
def Y_X8_steps : Yd := (yX8_steps, cX8_steps, 7, (some .boolean))
theorem yo_X8_steps : YO Y_X8_steps := ⟨gt_in 1439 (by decide +kernel) (by decide +kernel), gt_in 121 (by decide +kernel) (by decide +kernel), ⟨by decide +kernel, by decide +kernel⟩, by decide +kernel, by decide⟩
theorem ya_X8_steps : (parseMethodDescriptor Y_X8_steps.1.desc).map (fun d => d.parameters.length) = some 2 := by decide +kernel
theorem yi_X8_steps : YI Y_X8_steps := ⟨gt_in 1438 (by decide +kernel) (by decide +kernel), gt_in 75 (by decide +kernel) (by decide +kernel)⟩
def Y_X8_steppedOf : Yd := (yX8_steppedOf, cX8_steppedOf, 4, (some .int))
theorem yo_X8_steppedOf : YO Y_X8_steppedOf := ⟨gt_in 1395 (by decide +kernel) (by decide +kernel), gt_in 121 (by decide +kernel) (by decide +kernel), ⟨by decide +kernel, by decide +kernel⟩, by decide +kernel, by decide⟩
theorem ya_X8_steppedOf : (parseMethodDescriptor Y_X8_steppedOf.1.desc).map (fun d => d.parameters.length) = some 1 := by decide +kernel
theorem yi_X8_steppedOf : YI Y_X8_steppedOf := ⟨gt_in 1394 (by decide +kernel) (by decide +kernel), gt_in 66 (by decide +kernel) (by decide +kernel)⟩
def Y_X8_chainsOf : Yd := (yX8_chainsOf, cX8_chainsOf, 4, (some .int))
theorem yo_X8_chainsOf : YO Y_X8_chainsOf := ⟨gt_in 1387 (by decide +kernel) (by decide +kernel), gt_in 121 (by decide +kernel) (by decide +kernel), ⟨by decide +kernel, by decide +kernel⟩, by decide +kernel, by decide⟩
theorem ya_X8_chainsOf : (parseMethodDescriptor Y_X8_chainsOf.1.desc).map (fun d => d.parameters.length) = some 1 := by decide +kernel
theorem yi_X8_chainsOf : YI Y_X8_chainsOf := ⟨gt_in 1386 (by decide +kernel) (by decide +kernel), gt_in 64 (by decide +kernel) (by decide +kernel)⟩
def Y_X8_manTells : Yd := (yX8_manTells, cX8_manTells, 3, (some .int))
theorem yo_X8_manTells : YO Y_X8_manTells := ⟨gt_in 1383 (by decide +kernel) (by decide +kernel), gt_in 121 (by decide +kernel) (by decide +kernel), ⟨by decide +kernel, by decide +kernel⟩, by decide +kernel, by decide⟩
theorem ya_X8_manTells : (parseMethodDescriptor Y_X8_manTells.1.desc).map (fun d => d.parameters.length) = some 2 := by decide +kernel
theorem yi_X8_manTells : YI Y_X8_manTells := ⟨gt_in 1382 (by decide +kernel) (by decide +kernel), gt_in 63 (by decide +kernel) (by decide +kernel)⟩
def Y_X8_man : Yd := (yX8_man, cX8_man, 3, (some .int))
theorem yo_X8_man : YO Y_X8_man := ⟨gt_in 1375 (by decide +kernel) (by decide +kernel), gt_in 121 (by decide +kernel) (by decide +kernel), ⟨by decide +kernel, by decide +kernel⟩, by decide +kernel, by decide⟩
theorem ya_X8_man : (parseMethodDescriptor Y_X8_man.1.desc).map (fun d => d.parameters.length) = some 2 := by decide +kernel
theorem yi_X8_man : YI Y_X8_man := ⟨gt_in 1373 (by decide +kernel) (by decide +kernel), gt_in 1374 (by decide +kernel) (by decide +kernel)⟩
def Y_X8_chainTells : Yd := (yX8_chainTells, cX8_chainTells, 3, (some .int))
theorem yo_X8_chainTells : YO Y_X8_chainTells := ⟨gt_in 1407 (by decide +kernel) (by decide +kernel), gt_in 121 (by decide +kernel) (by decide +kernel), ⟨by decide +kernel, by decide +kernel⟩, by decide +kernel, by decide⟩
theorem ya_X8_chainTells : (parseMethodDescriptor Y_X8_chainTells.1.desc).map (fun d => d.parameters.length) = some 2 := by decide +kernel
theorem yi_X8_chainTells : YI Y_X8_chainTells := ⟨gt_in 1406 (by decide +kernel) (by decide +kernel), gt_in 68 (by decide +kernel) (by decide +kernel)⟩
def Y_X8_chain : Yd := (yX8_chain, cX8_chain, 3, (some .int))
theorem yo_X8_chain : YO Y_X8_chain := ⟨gt_in 1399 (by decide +kernel) (by decide +kernel), gt_in 121 (by decide +kernel) (by decide +kernel), ⟨by decide +kernel, by decide +kernel⟩, by decide +kernel, by decide⟩
theorem ya_X8_chain : (parseMethodDescriptor Y_X8_chain.1.desc).map (fun d => d.parameters.length) = some 2 := by decide +kernel
theorem yi_X8_chain : YI Y_X8_chain := ⟨gt_in 1397 (by decide +kernel) (by decide +kernel), gt_in 1398 (by decide +kernel) (by decide +kernel)⟩
def Y_X8_chainedTo : Yd := (yX8_chainedTo, cX8_chainedTo, 6, (some .int))
theorem yo_X8_chainedTo : YO Y_X8_chainedTo := ⟨gt_in 1427 (by decide +kernel) (by decide +kernel), gt_in 121 (by decide +kernel) (by decide +kernel), ⟨by decide +kernel, by decide +kernel⟩, by decide +kernel, by decide⟩
theorem ya_X8_chainedTo : (parseMethodDescriptor Y_X8_chainedTo.1.desc).map (fun d => d.parameters.length) = some 2 := by decide +kernel
theorem yi_X8_chainedTo : YI Y_X8_chainedTo := ⟨gt_in 1426 (by decide +kernel) (by decide +kernel), gt_in 72 (by decide +kernel) (by decide +kernel)⟩
def Y_X8_farFrom : Yd := (yX8_farFrom, cX8_farFrom, 4, (some .int))
theorem yo_X8_farFrom : YO Y_X8_farFrom := ⟨gt_in 1474 (by decide +kernel) (by decide +kernel), gt_in 121 (by decide +kernel) (by decide +kernel), ⟨by decide +kernel, by decide +kernel⟩, by decide +kernel, by decide⟩
theorem ya_X8_farFrom : (parseMethodDescriptor Y_X8_farFrom.1.desc).map (fun d => d.parameters.length) = some 1 := by decide +kernel
theorem yi_X8_farFrom : YI Y_X8_farFrom := ⟨gt_in 1473 (by decide +kernel) (by decide +kernel), gt_in 83 (by decide +kernel) (by decide +kernel)⟩
def Y_X8_leastReach : Yd := (yX8_leastReach, cX8_leastReach, 5, (some .int))
theorem yo_X8_leastReach : YO Y_X8_leastReach := ⟨gt_in 1478 (by decide +kernel) (by decide +kernel), gt_in 121 (by decide +kernel) (by decide +kernel), ⟨by decide +kernel, by decide +kernel⟩, by decide +kernel, by decide⟩
theorem ya_X8_leastReach : (parseMethodDescriptor Y_X8_leastReach.1.desc).map (fun d => d.parameters.length) = some 1 := by decide +kernel
theorem yi_X8_leastReach : YI Y_X8_leastReach := ⟨gt_in 1477 (by decide +kernel) (by decide +kernel), gt_in 84 (by decide +kernel) (by decide +kernel)⟩
def Y_X8_waysOf : Yd := (yX8_waysOf, cX8_waysOf, 4, (some .int))
theorem yo_X8_waysOf : YO Y_X8_waysOf := ⟨gt_in 1435 (by decide +kernel) (by decide +kernel), gt_in 121 (by decide +kernel) (by decide +kernel), ⟨by decide +kernel, by decide +kernel⟩, by decide +kernel, by decide⟩
theorem ya_X8_waysOf : (parseMethodDescriptor Y_X8_waysOf.1.desc).map (fun d => d.parameters.length) = some 1 := by decide +kernel
theorem yi_X8_waysOf : YI Y_X8_waysOf := ⟨gt_in 1434 (by decide +kernel) (by decide +kernel), gt_in 74 (by decide +kernel) (by decide +kernel)⟩
def Y_X8_mark : Yd := (yX8_mark, cX8_mark, 4, (some .int))
theorem yo_X8_mark : YO Y_X8_mark := ⟨gt_in 1423 (by decide +kernel) (by decide +kernel), gt_in 121 (by decide +kernel) (by decide +kernel), ⟨by decide +kernel, by decide +kernel⟩, by decide +kernel, by decide⟩
theorem ya_X8_mark : (parseMethodDescriptor Y_X8_mark.1.desc).map (fun d => d.parameters.length) = some 2 := by decide +kernel
theorem yi_X8_mark : YI Y_X8_mark := ⟨gt_in 1421 (by decide +kernel) (by decide +kernel), gt_in 1422 (by decide +kernel) (by decide +kernel)⟩
def Y_X8_tide : Yd := (yX8_tide, cX8_tide, 3, (some .int))
theorem yo_X8_tide : YO Y_X8_tide := ⟨gt_in 1482 (by decide +kernel) (by decide +kernel), gt_in 121 (by decide +kernel) (by decide +kernel), ⟨by decide +kernel, by decide +kernel⟩, by decide +kernel, by decide⟩
theorem ya_X8_tide : (parseMethodDescriptor Y_X8_tide.1.desc).map (fun d => d.parameters.length) = some 1 := by decide +kernel
theorem yi_X8_tide : YI Y_X8_tide := ⟨gt_in 1480 (by decide +kernel) (by decide +kernel), gt_in 1481 (by decide +kernel) (by decide +kernel)⟩
def Y_X8_open : Yd := (yX8_open, cX8_open, 4, (some .int))
theorem yo_X8_open : YO Y_X8_open := ⟨gt_in 1490 (by decide +kernel) (by decide +kernel), gt_in 121 (by decide +kernel) (by decide +kernel), ⟨by decide +kernel, by decide +kernel⟩, by decide +kernel, by decide⟩
theorem ya_X8_open : (parseMethodDescriptor Y_X8_open.1.desc).map (fun d => d.parameters.length) = some 2 := by decide +kernel
theorem yi_X8_open : YI Y_X8_open := ⟨gt_in 1488 (by decide +kernel) (by decide +kernel), gt_in 1489 (by decide +kernel) (by decide +kernel)⟩
def Y_X8_takeLook : Yd := (yX8_takeLook, cX8_takeLook, 3, none)
theorem yo_X8_takeLook : YO Y_X8_takeLook := ⟨gt_in 1498 (by decide +kernel) (by decide +kernel), gt_in 121 (by decide +kernel) (by decide +kernel), ⟨by decide +kernel, by decide +kernel⟩, by decide +kernel, by decide⟩
theorem ya_X8_takeLook : (parseMethodDescriptor Y_X8_takeLook.1.desc).map (fun d => d.parameters.length) = some 1 := by decide +kernel
theorem yi_X8_takeLook : YI Y_X8_takeLook := ⟨gt_in 1497 (by decide +kernel) (by decide +kernel), gt_in 86 (by decide +kernel) (by decide +kernel)⟩
def Y_X8_step : Yd := (yX8_step, cX8_step, 3, (some .int))
theorem yo_X8_step : YO Y_X8_step := ⟨gt_in 1494 (by decide +kernel) (by decide +kernel), gt_in 121 (by decide +kernel) (by decide +kernel), ⟨by decide +kernel, by decide +kernel⟩, by decide +kernel, by decide⟩
theorem ya_X8_step : (parseMethodDescriptor Y_X8_step.1.desc).map (fun d => d.parameters.length) = some 2 := by decide +kernel
theorem yi_X8_step : YI Y_X8_step := ⟨gt_in 1492 (by decide +kernel) (by decide +kernel), gt_in 1493 (by decide +kernel) (by decide +kernel)⟩
def Y_X8_can : Yd := (yX8_can, cX8_can, 2, (some .int))
theorem yo_X8_can : YO Y_X8_can := ⟨gt_in 1502 (by decide +kernel) (by decide +kernel), gt_in 121 (by decide +kernel) (by decide +kernel), ⟨by decide +kernel, by decide +kernel⟩, by decide +kernel, by decide⟩
theorem ya_X8_can : (parseMethodDescriptor Y_X8_can.1.desc).map (fun d => d.parameters.length) = some 1 := by decide +kernel
theorem yi_X8_can : YI Y_X8_can := ⟨gt_in 1500 (by decide +kernel) (by decide +kernel), gt_in 1501 (by decide +kernel) (by decide +kernel)⟩
def Y_X8_undo : Yd := (yX8_undo, cX8_undo, 4, (some .int))
theorem yo_X8_undo : YO Y_X8_undo := ⟨gt_in 1506 (by decide +kernel) (by decide +kernel), gt_in 121 (by decide +kernel) (by decide +kernel), ⟨by decide +kernel, by decide +kernel⟩, by decide +kernel, by decide⟩
theorem ya_X8_undo : (parseMethodDescriptor Y_X8_undo.1.desc).map (fun d => d.parameters.length) = some 1 := by decide +kernel
theorem yi_X8_undo : YI Y_X8_undo := ⟨gt_in 1504 (by decide +kernel) (by decide +kernel), gt_in 1505 (by decide +kernel) (by decide +kernel)⟩
def Y_X8_who : Yd := (yX8_who, cX8_who, 2, (some .int))
theorem yo_X8_who : YO Y_X8_who := ⟨gt_in 1510 (by decide +kernel) (by decide +kernel), gt_in 121 (by decide +kernel) (by decide +kernel), ⟨by decide +kernel, by decide +kernel⟩, by decide +kernel, by decide⟩
theorem ya_X8_who : (parseMethodDescriptor Y_X8_who.1.desc).map (fun d => d.parameters.length) = some 1 := by decide +kernel
theorem yi_X8_who : YI Y_X8_who := ⟨gt_in 1508 (by decide +kernel) (by decide +kernel), gt_in 1509 (by decide +kernel) (by decide +kernel)⟩
def Y_X8_keep : Yd := (yX8_keep, cX8_keep, 3, (some .int))
theorem yo_X8_keep : YO Y_X8_keep := ⟨gt_in 1518 (by decide +kernel) (by decide +kernel), gt_in 121 (by decide +kernel) (by decide +kernel), ⟨by decide +kernel, by decide +kernel⟩, by decide +kernel, by decide⟩
theorem ya_X8_keep : (parseMethodDescriptor Y_X8_keep.1.desc).map (fun d => d.parameters.length) = some 1 := by decide +kernel
theorem yi_X8_keep : YI Y_X8_keep := ⟨gt_in 1516 (by decide +kernel) (by decide +kernel), gt_in 1517 (by decide +kernel) (by decide +kernel)⟩
def Y_X8_on : Yd := (yX8_on, cX8_on, 3, (some .int))
theorem yo_X8_on : YO Y_X8_on := ⟨gt_in 1522 (by decide +kernel) (by decide +kernel), gt_in 121 (by decide +kernel) (by decide +kernel), ⟨by decide +kernel, by decide +kernel⟩, by decide +kernel, by decide⟩
theorem ya_X8_on : (parseMethodDescriptor Y_X8_on.1.desc).map (fun d => d.parameters.length) = some 1 := by decide +kernel
theorem yi_X8_on : YI Y_X8_on := ⟨gt_in 1520 (by decide +kernel) (by decide +kernel), gt_in 1521 (by decide +kernel) (by decide +kernel)⟩
def Y_X8_codeOf : Yd := (yX8_codeOf, cX8_codeOf, 3, (some .int))
theorem yo_X8_codeOf : YO Y_X8_codeOf := ⟨gt_in 1538 (by decide +kernel) (by decide +kernel), gt_in 121 (by decide +kernel) (by decide +kernel), ⟨by decide +kernel, by decide +kernel⟩, by decide +kernel, by decide⟩
theorem ya_X8_codeOf : (parseMethodDescriptor Y_X8_codeOf.1.desc).map (fun d => d.parameters.length) = some 0 := by decide +kernel
theorem yi_X8_codeOf : YI Y_X8_codeOf := ⟨gt_in 1537 (by decide +kernel) (by decide +kernel), gt_in 90 (by decide +kernel) (by decide +kernel)⟩
def Y_X8_lookAt : Yd := (yX8_lookAt, cX8_lookAt, 4, none)
theorem yo_X8_lookAt : YO Y_X8_lookAt := ⟨gt_in 1546 (by decide +kernel) (by decide +kernel), gt_in 121 (by decide +kernel) (by decide +kernel), ⟨by decide +kernel, by decide +kernel⟩, by decide +kernel, by decide⟩
theorem ya_X8_lookAt : (parseMethodDescriptor Y_X8_lookAt.1.desc).map (fun d => d.parameters.length) = some 1 := by decide +kernel
theorem yi_X8_lookAt : YI Y_X8_lookAt := ⟨gt_in 1545 (by decide +kernel) (by decide +kernel), gt_in 92 (by decide +kernel) (by decide +kernel)⟩
def Y_X8_meetsStand : Yd := (yX8_meetsStand, cX8_meetsStand, 4, none)
theorem yo_X8_meetsStand : YO Y_X8_meetsStand := ⟨gt_in 1550 (by decide +kernel) (by decide +kernel), gt_in 121 (by decide +kernel) (by decide +kernel), ⟨by decide +kernel, by decide +kernel⟩, by decide +kernel, by decide⟩
theorem ya_X8_meetsStand : (parseMethodDescriptor Y_X8_meetsStand.1.desc).map (fun d => d.parameters.length) = some 2 := by decide +kernel
theorem yi_X8_meetsStand : YI Y_X8_meetsStand := ⟨gt_in 1549 (by decide +kernel) (by decide +kernel), gt_in 93 (by decide +kernel) (by decide +kernel)⟩
def Y_X8_layStands : Yd := (yX8_layStands, cX8_layStands, 5, none)
theorem yo_X8_layStands : YO Y_X8_layStands := ⟨gt_in 1542 (by decide +kernel) (by decide +kernel), gt_in 121 (by decide +kernel) (by decide +kernel), ⟨by decide +kernel, by decide +kernel⟩, by decide +kernel, by decide⟩
theorem ya_X8_layStands : (parseMethodDescriptor Y_X8_layStands.1.desc).map (fun d => d.parameters.length) = some 1 := by decide +kernel
theorem yi_X8_layStands : YI Y_X8_layStands := ⟨gt_in 1541 (by decide +kernel) (by decide +kernel), gt_in 91 (by decide +kernel) (by decide +kernel)⟩
def Y_X8_layFromNow : Yd := (yX8_layFromNow, cX8_layFromNow, 1, none)
theorem yo_X8_layFromNow : YO Y_X8_layFromNow := ⟨gt_in 1534 (by decide +kernel) (by decide +kernel), gt_in 121 (by decide +kernel) (by decide +kernel), ⟨by decide +kernel, by decide +kernel⟩, by decide +kernel, by decide⟩
theorem ya_X8_layFromNow : (parseMethodDescriptor Y_X8_layFromNow.1.desc).map (fun d => d.parameters.length) = some 0 := by decide +kernel
theorem yi_X8_layFromNow : YI Y_X8_layFromNow := ⟨gt_in 1533 (by decide +kernel) (by decide +kernel), gt_in 89 (by decide +kernel) (by decide +kernel)⟩
def Y_X8_isWanted : Yd := (yX8_isWanted, cX8_isWanted, 3, (some .boolean))
theorem yo_X8_isWanted : YO Y_X8_isWanted := ⟨gt_in 1558 (by decide +kernel) (by decide +kernel), gt_in 121 (by decide +kernel) (by decide +kernel), ⟨by decide +kernel, by decide +kernel⟩, by decide +kernel, by decide⟩
theorem ya_X8_isWanted : (parseMethodDescriptor Y_X8_isWanted.1.desc).map (fun d => d.parameters.length) = some 0 := by decide +kernel
theorem yi_X8_isWanted : YI Y_X8_isWanted := ⟨gt_in 1557 (by decide +kernel) (by decide +kernel), gt_in 95 (by decide +kernel) (by decide +kernel)⟩
def Y_X8_firstWanted : Yd := (yX8_firstWanted, cX8_firstWanted, 2, (some .int))
theorem yo_X8_firstWanted : YO Y_X8_firstWanted := ⟨gt_in 1554 (by decide +kernel) (by decide +kernel), gt_in 121 (by decide +kernel) (by decide +kernel), ⟨by decide +kernel, by decide +kernel⟩, by decide +kernel, by decide⟩
theorem ya_X8_firstWanted : (parseMethodDescriptor Y_X8_firstWanted.1.desc).map (fun d => d.parameters.length) = some 0 := by decide +kernel
theorem yi_X8_firstWanted : YI Y_X8_firstWanted := ⟨gt_in 1553 (by decide +kernel) (by decide +kernel), gt_in 94 (by decide +kernel) (by decide +kernel)⟩
def Y_X8_needWanted : Yd := (yX8_needWanted, cX8_needWanted, 5, (some .int))
theorem yo_X8_needWanted : YO Y_X8_needWanted := ⟨gt_in 1530 (by decide +kernel) (by decide +kernel), gt_in 121 (by decide +kernel) (by decide +kernel), ⟨by decide +kernel, by decide +kernel⟩, by decide +kernel, by decide⟩
theorem ya_X8_needWanted : (parseMethodDescriptor Y_X8_needWanted.1.desc).map (fun d => d.parameters.length) = some 2 := by decide +kernel
theorem yi_X8_needWanted : YI Y_X8_needWanted := ⟨gt_in 1529 (by decide +kernel) (by decide +kernel), gt_in 88 (by decide +kernel) (by decide +kernel)⟩
def Y_X8_firstStep : Yd := (yX8_firstStep, cX8_firstStep, 4, (some .int))
theorem yo_X8_firstStep : YO Y_X8_firstStep := ⟨gt_in 1562 (by decide +kernel) (by decide +kernel), gt_in 121 (by decide +kernel) (by decide +kernel), ⟨by decide +kernel, by decide +kernel⟩, by decide +kernel, by decide⟩
theorem ya_X8_firstStep : (parseMethodDescriptor Y_X8_firstStep.1.desc).map (fun d => d.parameters.length) = some 1 := by decide +kernel
theorem yi_X8_firstStep : YI Y_X8_firstStep := ⟨gt_in 1561 (by decide +kernel) (by decide +kernel), gt_in 96 (by decide +kernel) (by decide +kernel)⟩
def Y_X8_near : Yd := (yX8_near, cX8_near, 4, (some .int))
theorem yo_X8_near : YO Y_X8_near := ⟨gt_in 1526 (by decide +kernel) (by decide +kernel), gt_in 121 (by decide +kernel) (by decide +kernel), ⟨by decide +kernel, by decide +kernel⟩, by decide +kernel, by decide⟩
theorem ya_X8_near : (parseMethodDescriptor Y_X8_near.1.desc).map (fun d => d.parameters.length) = some 1 := by decide +kernel
theorem yi_X8_near : YI Y_X8_near := ⟨gt_in 1524 (by decide +kernel) (by decide +kernel), gt_in 1525 (by decide +kernel) (by decide +kernel)⟩
def Y_X8_path : Yd := (yX8_path, cX8_path, 7, (some .int))
theorem yo_X8_path : YO Y_X8_path := ⟨gt_in 1566 (by decide +kernel) (by decide +kernel), gt_in 121 (by decide +kernel) (by decide +kernel), ⟨by decide +kernel, by decide +kernel⟩, by decide +kernel, by decide⟩
theorem ya_X8_path : (parseMethodDescriptor Y_X8_path.1.desc).map (fun d => d.parameters.length) = some 2 := by decide +kernel
theorem yi_X8_path : YI Y_X8_path := ⟨gt_in 1564 (by decide +kernel) (by decide +kernel), gt_in 1565 (by decide +kernel) (by decide +kernel)⟩
def Y_X8_reach : Yd := (yX8_reach, cX8_reach, 1, (some .int))
theorem yo_X8_reach : YO Y_X8_reach := ⟨gt_in 1570 (by decide +kernel) (by decide +kernel), gt_in 121 (by decide +kernel) (by decide +kernel), ⟨by decide +kernel, by decide +kernel⟩, by decide +kernel, by decide⟩
theorem ya_X8_reach : (parseMethodDescriptor Y_X8_reach.1.desc).map (fun d => d.parameters.length) = some 0 := by decide +kernel
theorem yi_X8_reach : YI Y_X8_reach := ⟨gt_in 1568 (by decide +kernel) (by decide +kernel), gt_in 1569 (by decide +kernel) (by decide +kernel)⟩
def Y_X8_where : Yd := (yX8_where, cX8_where, 5, (some .int))
theorem yo_X8_where : YO Y_X8_where := ⟨gt_in 1574 (by decide +kernel) (by decide +kernel), gt_in 121 (by decide +kernel) (by decide +kernel), ⟨by decide +kernel, by decide +kernel⟩, by decide +kernel, by decide⟩
theorem ya_X8_where : (parseMethodDescriptor Y_X8_where.1.desc).map (fun d => d.parameters.length) = some 1 := by decide +kernel
theorem yi_X8_where : YI Y_X8_where := ⟨gt_in 1572 (by decide +kernel) (by decide +kernel), gt_in 1573 (by decide +kernel) (by decide +kernel)⟩
def Y_X8_meet : Yd := (yX8_meet, cX8_meet, 4, (some .int))
theorem yo_X8_meet : YO Y_X8_meet := ⟨gt_in 1581 (by decide +kernel) (by decide +kernel), gt_in 121 (by decide +kernel) (by decide +kernel), ⟨by decide +kernel, by decide +kernel⟩, by decide +kernel, by decide⟩
theorem ya_X8_meet : (parseMethodDescriptor Y_X8_meet.1.desc).map (fun d => d.parameters.length) = some 2 := by decide +kernel
theorem yi_X8_meet : YI Y_X8_meet := ⟨gt_in 1579 (by decide +kernel) (by decide +kernel), gt_in 1580 (by decide +kernel) (by decide +kernel)⟩
def Y_X8_window : Yd := (yX8_window, cX8_window, 5, (some .int))
theorem yo_X8_window : YO Y_X8_window := ⟨gt_in 1585 (by decide +kernel) (by decide +kernel), gt_in 121 (by decide +kernel) (by decide +kernel), ⟨by decide +kernel, by decide +kernel⟩, by decide +kernel, by decide⟩
theorem ya_X8_window : (parseMethodDescriptor Y_X8_window.1.desc).map (fun d => d.parameters.length) = some 1 := by decide +kernel
theorem yi_X8_window : YI Y_X8_window := ⟨gt_in 1583 (by decide +kernel) (by decide +kernel), gt_in 1584 (by decide +kernel) (by decide +kernel)⟩
def Y_X8_isStand : Yd := (yX8_isStand, cX8_isStand, 6, (some .boolean))
theorem yo_X8_isStand : YO Y_X8_isStand := ⟨gt_in 1593 (by decide +kernel) (by decide +kernel), gt_in 121 (by decide +kernel) (by decide +kernel), ⟨by decide +kernel, by decide +kernel⟩, by decide +kernel, by decide⟩
theorem ya_X8_isStand : (parseMethodDescriptor Y_X8_isStand.1.desc).map (fun d => d.parameters.length) = some 1 := by decide +kernel
theorem yi_X8_isStand : YI Y_X8_isStand := ⟨gt_in 1592 (by decide +kernel) (by decide +kernel), gt_in 97 (by decide +kernel) (by decide +kernel)⟩
def Y_X8_comes : Yd := (yX8_comes, cX8_comes, 4, (some .int))
theorem yo_X8_comes : YO Y_X8_comes := ⟨gt_in 1589 (by decide +kernel) (by decide +kernel), gt_in 121 (by decide +kernel) (by decide +kernel), ⟨by decide +kernel, by decide +kernel⟩, by decide +kernel, by decide⟩
theorem ya_X8_comes : (parseMethodDescriptor Y_X8_comes.1.desc).map (fun d => d.parameters.length) = some 2 := by decide +kernel
theorem yi_X8_comes : YI Y_X8_comes := ⟨gt_in 1587 (by decide +kernel) (by decide +kernel), gt_in 1588 (by decide +kernel) (by decide +kernel)⟩
def Y_X8_meetsWant : Yd := (yX8_meetsWant, cX8_meetsWant, 7, (some .boolean))
theorem yo_X8_meetsWant : YO Y_X8_meetsWant := ⟨gt_in 1605 (by decide +kernel) (by decide +kernel), gt_in 121 (by decide +kernel) (by decide +kernel), ⟨by decide +kernel, by decide +kernel⟩, by decide +kernel, by decide⟩
theorem ya_X8_meetsWant : (parseMethodDescriptor Y_X8_meetsWant.1.desc).map (fun d => d.parameters.length) = some 2 := by decide +kernel
theorem yi_X8_meetsWant : YI Y_X8_meetsWant := ⟨gt_in 1604 (by decide +kernel) (by decide +kernel), gt_in 99 (by decide +kernel) (by decide +kernel)⟩
def Y_X8_needWants : Yd := (yX8_needWants, cX8_needWants, 6, (some .int))
theorem yo_X8_needWants : YO Y_X8_needWants := ⟨gt_in 1601 (by decide +kernel) (by decide +kernel), gt_in 121 (by decide +kernel) (by decide +kernel), ⟨by decide +kernel, by decide +kernel⟩, by decide +kernel, by decide⟩
theorem ya_X8_needWants : (parseMethodDescriptor Y_X8_needWants.1.desc).map (fun d => d.parameters.length) = some 2 := by decide +kernel
theorem yi_X8_needWants : YI Y_X8_needWants := ⟨gt_in 1600 (by decide +kernel) (by decide +kernel), gt_in 98 (by decide +kernel) (by decide +kernel)⟩
def Y_X8_fetch : Yd := (yX8_fetch, cX8_fetch, 4, (some .int))
theorem yo_X8_fetch : YO Y_X8_fetch := ⟨gt_in 1597 (by decide +kernel) (by decide +kernel), gt_in 121 (by decide +kernel) (by decide +kernel), ⟨by decide +kernel, by decide +kernel⟩, by decide +kernel, by decide⟩
theorem ya_X8_fetch : (parseMethodDescriptor Y_X8_fetch.1.desc).map (fun d => d.parameters.length) = some 1 := by decide +kernel
theorem yi_X8_fetch : YI Y_X8_fetch := ⟨gt_in 1595 (by decide +kernel) (by decide +kernel), gt_in 1596 (by decide +kernel) (by decide +kernel)⟩
def Y_X8_layOrders : Yd := (yX8_layOrders, cX8_layOrders, 6, none)
theorem yo_X8_layOrders : YO Y_X8_layOrders := ⟨gt_in 1614 (by decide +kernel) (by decide +kernel), gt_in 121 (by decide +kernel) (by decide +kernel), ⟨by decide +kernel, by decide +kernel⟩, by decide +kernel, by decide⟩
theorem ya_X8_layOrders : (parseMethodDescriptor Y_X8_layOrders.1.desc).map (fun d => d.parameters.length) = some 3 := by decide +kernel
theorem yi_X8_layOrders : YI Y_X8_layOrders := ⟨gt_in 1613 (by decide +kernel) (by decide +kernel), gt_in 100 (by decide +kernel) (by decide +kernel)⟩
def Y_X8_order : Yd := (yX8_order, cX8_order, 5, (some .int))
theorem yo_X8_order : YO Y_X8_order := ⟨gt_in 1609 (by decide +kernel) (by decide +kernel), gt_in 121 (by decide +kernel) (by decide +kernel), ⟨by decide +kernel, by decide +kernel⟩, by decide +kernel, by decide⟩
theorem ya_X8_order : (parseMethodDescriptor Y_X8_order.1.desc).map (fun d => d.parameters.length) = some 2 := by decide +kernel
theorem yi_X8_order : YI Y_X8_order := ⟨gt_in 1607 (by decide +kernel) (by decide +kernel), gt_in 1608 (by decide +kernel) (by decide +kernel)⟩
def Y_X8_needKeys : Yd := (yX8_needKeys, cX8_needKeys, 4, (some .int))
theorem yo_X8_needKeys : YO Y_X8_needKeys := ⟨gt_in 1622 (by decide +kernel) (by decide +kernel), gt_in 121 (by decide +kernel) (by decide +kernel), ⟨by decide +kernel, by decide +kernel⟩, by decide +kernel, by decide⟩
theorem ya_X8_needKeys : (parseMethodDescriptor Y_X8_needKeys.1.desc).map (fun d => d.parameters.length) = some 1 := by decide +kernel
theorem yi_X8_needKeys : YI Y_X8_needKeys := ⟨gt_in 1621 (by decide +kernel) (by decide +kernel), gt_in 101 (by decide +kernel) (by decide +kernel)⟩
def Y_X8_keysFor : Yd := (yX8_keysFor, cX8_keysFor, 7, (some .int))
theorem yo_X8_keysFor : YO Y_X8_keysFor := ⟨gt_in 1630 (by decide +kernel) (by decide +kernel), gt_in 121 (by decide +kernel) (by decide +kernel), ⟨by decide +kernel, by decide +kernel⟩, by decide +kernel, by decide⟩
theorem ya_X8_keysFor : (parseMethodDescriptor Y_X8_keysFor.1.desc).map (fun d => d.parameters.length) = some 2 := by decide +kernel
theorem yi_X8_keysFor : YI Y_X8_keysFor := ⟨gt_in 1629 (by decide +kernel) (by decide +kernel), gt_in 103 (by decide +kernel) (by decide +kernel)⟩
def Y_X8_shutSet : Yd := (yX8_shutSet, cX8_shutSet, 3, (some .int))
theorem yo_X8_shutSet : YO Y_X8_shutSet := ⟨gt_in 1626 (by decide +kernel) (by decide +kernel), gt_in 121 (by decide +kernel) (by decide +kernel), ⟨by decide +kernel, by decide +kernel⟩, by decide +kernel, by decide⟩
theorem ya_X8_shutSet : (parseMethodDescriptor Y_X8_shutSet.1.desc).map (fun d => d.parameters.length) = some 0 := by decide +kernel
theorem yi_X8_shutSet : YI Y_X8_shutSet := ⟨gt_in 1625 (by decide +kernel) (by decide +kernel), gt_in 102 (by decide +kernel) (by decide +kernel)⟩
def Y_X8_keys : Yd := (yX8_keys, cX8_keys, 3, (some .int))
theorem yo_X8_keys : YO Y_X8_keys := ⟨gt_in 1618 (by decide +kernel) (by decide +kernel), gt_in 121 (by decide +kernel) (by decide +kernel), ⟨by decide +kernel, by decide +kernel⟩, by decide +kernel, by decide⟩
theorem ya_X8_keys : (parseMethodDescriptor Y_X8_keys.1.desc).map (fun d => d.parameters.length) = some 1 := by decide +kernel
theorem yi_X8_keys : YI Y_X8_keys := ⟨gt_in 1616 (by decide +kernel) (by decide +kernel), gt_in 1617 (by decide +kernel) (by decide +kernel)⟩
def Y_X8_free : Yd := (yX8_free, cX8_free, 6, (some .int))
theorem yo_X8_free : YO Y_X8_free := ⟨gt_in 1634 (by decide +kernel) (by decide +kernel), gt_in 121 (by decide +kernel) (by decide +kernel), ⟨by decide +kernel, by decide +kernel⟩, by decide +kernel, by decide⟩
theorem ya_X8_free : (parseMethodDescriptor Y_X8_free.1.desc).map (fun d => d.parameters.length) = some 2 := by decide +kernel
theorem yi_X8_free : YI Y_X8_free := ⟨gt_in 1632 (by decide +kernel) (by decide +kernel), gt_in 1633 (by decide +kernel) (by decide +kernel)⟩
def Y_X8_filed : Yd := (yX8_filed, cX8_filed, 6, (some .int))
theorem yo_X8_filed : YO Y_X8_filed := ⟨gt_in 1638 (by decide +kernel) (by decide +kernel), gt_in 121 (by decide +kernel) (by decide +kernel), ⟨by decide +kernel, by decide +kernel⟩, by decide +kernel, by decide⟩
theorem ya_X8_filed : (parseMethodDescriptor Y_X8_filed.1.desc).map (fun d => d.parameters.length) = some 1 := by decide +kernel
theorem yi_X8_filed : YI Y_X8_filed := ⟨gt_in 1636 (by decide +kernel) (by decide +kernel), gt_in 1637 (by decide +kernel) (by decide +kernel)⟩
def Y_X8_judge : Yd := (yX8_judge, cX8_judge, 6, (some .int))
theorem yo_X8_judge : YO Y_X8_judge := ⟨gt_in 1642 (by decide +kernel) (by decide +kernel), gt_in 121 (by decide +kernel) (by decide +kernel), ⟨by decide +kernel, by decide +kernel⟩, by decide +kernel, by decide⟩
theorem ya_X8_judge : (parseMethodDescriptor Y_X8_judge.1.desc).map (fun d => d.parameters.length) = some 1 := by decide +kernel
theorem yi_X8_judge : YI Y_X8_judge := ⟨gt_in 1640 (by decide +kernel) (by decide +kernel), gt_in 1641 (by decide +kernel) (by decide +kernel)⟩
def Y_X8_quarrel : Yd := (yX8_quarrel, cX8_quarrel, 3, (some .int))
theorem yo_X8_quarrel : YO Y_X8_quarrel := ⟨gt_in 1646 (by decide +kernel) (by decide +kernel), gt_in 121 (by decide +kernel) (by decide +kernel), ⟨by decide +kernel, by decide +kernel⟩, by decide +kernel, by decide⟩
theorem ya_X8_quarrel : (parseMethodDescriptor Y_X8_quarrel.1.desc).map (fun d => d.parameters.length) = some 2 := by decide +kernel
theorem yi_X8_quarrel : YI Y_X8_quarrel := ⟨gt_in 1644 (by decide +kernel) (by decide +kernel), gt_in 1645 (by decide +kernel) (by decide +kernel)⟩
def Y_X8_peace : Yd := (yX8_peace, cX8_peace, 3, (some .int))
theorem yo_X8_peace : YO Y_X8_peace := ⟨gt_in 1650 (by decide +kernel) (by decide +kernel), gt_in 121 (by decide +kernel) (by decide +kernel), ⟨by decide +kernel, by decide +kernel⟩, by decide +kernel, by decide⟩
theorem ya_X8_peace : (parseMethodDescriptor Y_X8_peace.1.desc).map (fun d => d.parameters.length) = some 1 := by decide +kernel
theorem yi_X8_peace : YI Y_X8_peace := ⟨gt_in 1648 (by decide +kernel) (by decide +kernel), gt_in 1649 (by decide +kernel) (by decide +kernel)⟩
def Y_X8_quarrelsNow : Yd := (yX8_quarrelsNow, cX8_quarrelsNow, 6, (some .int))
theorem yo_X8_quarrelsNow : YO Y_X8_quarrelsNow := ⟨gt_in 1662 (by decide +kernel) (by decide +kernel), gt_in 121 (by decide +kernel) (by decide +kernel), ⟨by decide +kernel, by decide +kernel⟩, by decide +kernel, by decide⟩
theorem ya_X8_quarrelsNow : (parseMethodDescriptor Y_X8_quarrelsNow.1.desc).map (fun d => d.parameters.length) = some 0 := by decide +kernel
theorem yi_X8_quarrelsNow : YI Y_X8_quarrelsNow := ⟨gt_in 1661 (by decide +kernel) (by decide +kernel), gt_in 105 (by decide +kernel) (by decide +kernel)⟩
def Y_X8_layChained : Yd := (yX8_layChained, cX8_layChained, 5, none)
theorem yo_X8_layChained : YO Y_X8_layChained := ⟨gt_in 1658 (by decide +kernel) (by decide +kernel), gt_in 121 (by decide +kernel) (by decide +kernel), ⟨by decide +kernel, by decide +kernel⟩, by decide +kernel, by decide⟩
theorem ya_X8_layChained : (parseMethodDescriptor Y_X8_layChained.1.desc).map (fun d => d.parameters.length) = some 2 := by decide +kernel
theorem yi_X8_layChained : YI Y_X8_layChained := ⟨gt_in 1657 (by decide +kernel) (by decide +kernel), gt_in 104 (by decide +kernel) (by decide +kernel)⟩
def Y_X8_easter : Yd := (yX8_easter, cX8_easter, 3, (some .int))
theorem yo_X8_easter : YO Y_X8_easter := ⟨gt_in 1654 (by decide +kernel) (by decide +kernel), gt_in 121 (by decide +kernel) (by decide +kernel), ⟨by decide +kernel, by decide +kernel⟩, by decide +kernel, by decide⟩
theorem ya_X8_easter : (parseMethodDescriptor Y_X8_easter.1.desc).map (fun d => d.parameters.length) = some 1 := by decide +kernel
theorem yi_X8_easter : YI Y_X8_easter := ⟨gt_in 1652 (by decide +kernel) (by decide +kernel), gt_in 1653 (by decide +kernel) (by decide +kernel)⟩
def Y_X8_lots : Yd := (yX8_lots, cX8_lots, 9, (some .int))
theorem yo_X8_lots : YO Y_X8_lots := ⟨gt_in 1666 (by decide +kernel) (by decide +kernel), gt_in 121 (by decide +kernel) (by decide +kernel), ⟨by decide +kernel, by decide +kernel⟩, by decide +kernel, by decide⟩
theorem ya_X8_lots : (parseMethodDescriptor Y_X8_lots.1.desc).map (fun d => d.parameters.length) = some 2 := by decide +kernel
theorem yi_X8_lots : YI Y_X8_lots := ⟨gt_in 1664 (by decide +kernel) (by decide +kernel), gt_in 1665 (by decide +kernel) (by decide +kernel)⟩
def Y_X8_stepsNow : Yd := (yX8_stepsNow, cX8_stepsNow, 3, (some .int))
theorem yo_X8_stepsNow : YO Y_X8_stepsNow := ⟨gt_in 1679 (by decide +kernel) (by decide +kernel), gt_in 121 (by decide +kernel) (by decide +kernel), ⟨by decide +kernel, by decide +kernel⟩, by decide +kernel, by decide⟩
theorem ya_X8_stepsNow : (parseMethodDescriptor Y_X8_stepsNow.1.desc).map (fun d => d.parameters.length) = some 0 := by decide +kernel
theorem yi_X8_stepsNow : YI Y_X8_stepsNow := ⟨gt_in 1678 (by decide +kernel) (by decide +kernel), gt_in 106 (by decide +kernel) (by decide +kernel)⟩
def Y_X8_common : Yd := (yX8_common, cX8_common, 4, (some .int))
theorem yo_X8_common : YO Y_X8_common := ⟨gt_in 1683 (by decide +kernel) (by decide +kernel), gt_in 121 (by decide +kernel) (by decide +kernel), ⟨by decide +kernel, by decide +kernel⟩, by decide +kernel, by decide⟩
theorem ya_X8_common : (parseMethodDescriptor Y_X8_common.1.desc).map (fun d => d.parameters.length) = some 0 := by decide +kernel
theorem yi_X8_common : YI Y_X8_common := ⟨gt_in 1682 (by decide +kernel) (by decide +kernel), gt_in 107 (by decide +kernel) (by decide +kernel)⟩
def Y_X8_upper : Yd := (yX8_upper, cX8_upper, 1, (some .long))
theorem yo_X8_upper : YO Y_X8_upper := ⟨gt_in 1675 (by decide +kernel) (by decide +kernel), gt_in 121 (by decide +kernel) (by decide +kernel), ⟨by decide +kernel, by decide +kernel⟩, by decide +kernel, by decide⟩
theorem ya_X8_upper : (parseMethodDescriptor Y_X8_upper.1.desc).map (fun d => d.parameters.length) = some 0 := by decide +kernel
theorem yi_X8_upper : YI Y_X8_upper := ⟨gt_in 1673 (by decide +kernel) (by decide +kernel), gt_in 1674 (by decide +kernel) (by decide +kernel)⟩
def Y_X8_lower : Yd := (yX8_lower, cX8_lower, 1, (some .long))
theorem yo_X8_lower : YO Y_X8_lower := ⟨gt_in 1687 (by decide +kernel) (by decide +kernel), gt_in 121 (by decide +kernel) (by decide +kernel), ⟨by decide +kernel, by decide +kernel⟩, by decide +kernel, by decide⟩
theorem ya_X8_lower : (parseMethodDescriptor Y_X8_lower.1.desc).map (fun d => d.parameters.length) = some 0 := by decide +kernel
theorem yi_X8_lower : YI Y_X8_lower := ⟨gt_in 1685 (by decide +kernel) (by decide +kernel), gt_in 1686 (by decide +kernel) (by decide +kernel)⟩
def Y_X8_counted : Yd := (yX8_counted, cX8_counted, 4, (some .int))
theorem yo_X8_counted : YO Y_X8_counted := ⟨gt_in 1695 (by decide +kernel) (by decide +kernel), gt_in 121 (by decide +kernel) (by decide +kernel), ⟨by decide +kernel, by decide +kernel⟩, by decide +kernel, by decide⟩
theorem ya_X8_counted : (parseMethodDescriptor Y_X8_counted.1.desc).map (fun d => d.parameters.length) = some 1 := by decide +kernel
theorem yi_X8_counted : YI Y_X8_counted := ⟨gt_in 1694 (by decide +kernel) (by decide +kernel), gt_in 108 (by decide +kernel) (by decide +kernel)⟩
def Y_X8_count : Yd := (yX8_count, cX8_count, 2, (some .int))
theorem yo_X8_count : YO Y_X8_count := ⟨gt_in 1691 (by decide +kernel) (by decide +kernel), gt_in 121 (by decide +kernel) (by decide +kernel), ⟨by decide +kernel, by decide +kernel⟩, by decide +kernel, by decide⟩
theorem ya_X8_count : (parseMethodDescriptor Y_X8_count.1.desc).map (fun d => d.parameters.length) = some 1 := by decide +kernel
theorem yi_X8_count : YI Y_X8_count := ⟨gt_in 1689 (by decide +kernel) (by decide +kernel), gt_in 1690 (by decide +kernel) (by decide +kernel)⟩
def Y_X8_mix : Yd := (yX8_mix, cX8_mix, 3, none)
theorem yo_X8_mix : YO Y_X8_mix := ⟨gt_in 1704 (by decide +kernel) (by decide +kernel), gt_in 121 (by decide +kernel) (by decide +kernel), ⟨by decide +kernel, by decide +kernel⟩, by decide +kernel, by decide⟩
theorem ya_X8_mix : (parseMethodDescriptor Y_X8_mix.1.desc).map (fun d => d.parameters.length) = some 1 := by decide +kernel
theorem yi_X8_mix : YI Y_X8_mix := ⟨gt_in 1703 (by decide +kernel) (by decide +kernel), gt_in 109 (by decide +kernel) (by decide +kernel)⟩
def Y_X8_mixYard : Yd := (yX8_mixYard, cX8_mixYard, 3, none)
theorem yo_X8_mixYard : YO Y_X8_mixYard := ⟨gt_in 1709 (by decide +kernel) (by decide +kernel), gt_in 121 (by decide +kernel) (by decide +kernel), ⟨by decide +kernel, by decide +kernel⟩, by decide +kernel, by decide⟩
theorem ya_X8_mixYard : (parseMethodDescriptor Y_X8_mixYard.1.desc).map (fun d => d.parameters.length) = some 0 := by decide +kernel
theorem yi_X8_mixYard : YI Y_X8_mixYard := ⟨gt_in 1708 (by decide +kernel) (by decide +kernel), gt_in 110 (by decide +kernel) (by decide +kernel)⟩
def Y_X8_digest : Yd := (yX8_digest, cX8_digest, 3, (some .long))
theorem yo_X8_digest : YO Y_X8_digest := ⟨gt_in 1699 (by decide +kernel) (by decide +kernel), gt_in 121 (by decide +kernel) (by decide +kernel), ⟨by decide +kernel, by decide +kernel⟩, by decide +kernel, by decide⟩
theorem ya_X8_digest : (parseMethodDescriptor Y_X8_digest.1.desc).map (fun d => d.parameters.length) = some 0 := by decide +kernel
theorem yi_X8_digest : YI Y_X8_digest := ⟨gt_in 1697 (by decide +kernel) (by decide +kernel), gt_in 1698 (by decide +kernel) (by decide +kernel)⟩
theorem ft_X0_18 : FT RX0 18 0 1 .int := ⟨RX0, TX0, 7, tyX0, rfl, by decide, gt_in 181 (by decide +kernel) (by decide +kernel), uw_X0, rfl, tyX0_ok, nmX0, by decide +kernel, rfl⟩
theorem ft_X0_22 : FT RX0 22 0 2 .int := ⟨RX0, TX0, 7, tyX0, rfl, by decide, gt_in 183 (by decide +kernel) (by decide +kernel), uw_X0, rfl, tyX0_ok, nmX0, by decide +kernel, rfl⟩
theorem ft_X0_25 : FT RX0 25 0 3 .int := ⟨RX0, TX0, 7, tyX0, rfl, by decide, gt_in 185 (by decide +kernel) (by decide +kernel), uw_X0, rfl, tyX0_ok, nmX0, by decide +kernel, rfl⟩
theorem ft_X0_28 : FT RX0 28 0 4 .int := ⟨RX0, TX0, 7, tyX0, rfl, by decide, gt_in 187 (by decide +kernel) (by decide +kernel), uw_X0, rfl, tyX0_ok, nmX0, by decide +kernel, rfl⟩
theorem ft_X0_9 : FT RX0 9 0 5 (.array .int) := ⟨RX0, TX0, 7, tyX0, rfl, by decide, gt_in 189 (by decide +kernel) (by decide +kernel), uw_X0, rfl, tyX0_ok, nmX0, by decide +kernel, rfl⟩
theorem ml_X0_31 : Cond.methodLink RX0 31 arraycopyName ∈ gt := gt_in 782 (by decide +kernel) (by decide +kernel)
theorem ft_X0_15 : FT RX0 15 0 6 (.array .int) := ⟨RX0, TX0, 7, tyX0, rfl, by decide, gt_in 191 (by decide +kernel) (by decide +kernel), uw_X0, rfl, tyX0_ok, nmX0, by decide +kernel, rfl⟩
theorem ft_X4_16 : FT RX4 16 4 1 (.array .int) := ⟨RX4, TX4, 2, tyX4, rfl, by decide, gt_in 145 (by decide +kernel) (by decide +kernel), uw_X4, rfl, tyX4_ok, nmX4, by decide +kernel, rfl⟩
theorem ml_X4_30 : Cond.methodLink RX4 30 yX4_knows ∈ gt := gt_in 468 (by decide +kernel) (by decide +kernel)
theorem ft_X6_33 : FT RX6 33 6 0 .int := ⟨RX6, TX6, 14, tyX6, rfl, by decide, gt_in 316 (by decide +kernel) (by decide +kernel), uw_X6, rfl, tyX6_ok, nmX6, by decide +kernel, rfl⟩
theorem ft_X6_37 : FT RX6 37 6 1 .int := ⟨RX6, TX6, 14, tyX6, rfl, by decide, gt_in 319 (by decide +kernel) (by decide +kernel), uw_X6, rfl, tyX6_ok, nmX6, by decide +kernel, rfl⟩
theorem ft_X6_40 : FT RX6 40 6 2 .int := ⟨RX6, TX6, 14, tyX6, rfl, by decide, gt_in 322 (by decide +kernel) (by decide +kernel), uw_X6, rfl, tyX6_ok, nmX6, by decide +kernel, rfl⟩
theorem ft_X6_43 : FT RX6 43 6 3 .int := ⟨RX6, TX6, 14, tyX6, rfl, by decide, gt_in 326 (by decide +kernel) (by decide +kernel), uw_X6, rfl, tyX6_ok, nmX6, by decide +kernel, rfl⟩
theorem ft_X6_46 : FT RX6 46 6 4 .int := ⟨RX6, TX6, 14, tyX6, rfl, by decide, gt_in 328 (by decide +kernel) (by decide +kernel), uw_X6, rfl, tyX6_ok, nmX6, by decide +kernel, rfl⟩
theorem ft_X6_49 : FT RX6 49 6 5 .int := ⟨RX6, TX6, 14, tyX6, rfl, by decide, gt_in 332 (by decide +kernel) (by decide +kernel), uw_X6, rfl, tyX6_ok, nmX6, by decide +kernel, rfl⟩
theorem ft_X6_52 : FT RX6 52 6 6 .boolean := ⟨RX6, TX6, 14, tyX6, rfl, by decide, gt_in 336 (by decide +kernel) (by decide +kernel), uw_X6, rfl, tyX6_ok, nmX6, by decide +kernel, rfl⟩
theorem ml_X4_26 : Cond.methodLink RX4 26 yX4_holds ∈ gt := gt_in 489 (by decide +kernel) (by decide +kernel)
theorem ml_X4_33 : Cond.methodLink RX4 33 yX4_has ∈ gt := gt_in 494 (by decide +kernel) (by decide +kernel)
theorem ft_X4_11 : FT RX4 11 4 0 (.array (.array .int)) := ⟨RX4, TX4, 2, tyX4, rfl, by decide, gt_in 144 (by decide +kernel) (by decide +kernel), uw_X4, rfl, tyX4_ok, nmX4, by decide +kernel, rfl⟩
theorem ft_X1_9 : FT RX1 9 1 0 (.object "ChainedMen$Shelf") := ⟨RX1, TX1, 5, tyX1, rfl, by decide, gt_in 158 (by decide +kernel) (by decide +kernel), uw_X1, rfl, tyX1_ok, nmX1, by decide +kernel, rfl⟩
theorem ft_X1_15 : FT RX1 15 1 1 .int := ⟨RX1, TX1, 5, tyX1, rfl, by decide, gt_in 159 (by decide +kernel) (by decide +kernel), uw_X1, rfl, tyX1_ok, nmX1, by decide +kernel, rfl⟩
theorem ft_X1_27 : FT RX1 27 1 3 .int := ⟨RX1, TX1, 5, tyX1, rfl, by decide, gt_in 161 (by decide +kernel) (by decide +kernel), uw_X1, rfl, tyX1_ok, nmX1, by decide +kernel, rfl⟩
theorem ml_X1_52 : Cond.methodLink RX1 52 yX4_get ∈ gt := gt_in 559 (by decide +kernel) (by decide +kernel)
theorem ft_X1_25 : FT RX1 25 1 2 .int := ⟨RX1, TX1, 5, tyX1, rfl, by decide, gt_in 160 (by decide +kernel) (by decide +kernel), uw_X1, rfl, tyX1_ok, nmX1, by decide +kernel, rfl⟩
theorem ml_X1_56 : Cond.methodLink RX1 56 yX1_sign ∈ gt := gt_in 555 (by decide +kernel) (by decide +kernel)
theorem ml_X1_73 : Cond.methodLink RX1 73 yX1_kindBySign ∈ gt := gt_in 568 (by decide +kernel) (by decide +kernel)
theorem ft_X1_30 : FT RX1 30 1 4 (.object "ChainedMen$Yard") := ⟨RX1, TX1, 5, tyX1, rfl, by decide, gt_in 162 (by decide +kernel) (by decide +kernel), uw_X1, rfl, tyX1_ok, nmX1, by decide +kernel, rfl⟩
theorem ft_X1_79 : FT RX1 79 6 3 .int := ⟨RX6, TX6, 14, tyX6, rfl, by decide, gt_in 327 (by decide +kernel) (by decide +kernel), uw_X6, rfl, tyX6_ok, nmX6, by decide +kernel, rfl⟩
theorem ft_X1_82 : FT RX1 82 6 2 .int := ⟨RX6, TX6, 14, tyX6, rfl, by decide, gt_in 324 (by decide +kernel) (by decide +kernel), uw_X6, rfl, tyX6_ok, nmX6, by decide +kernel, rfl⟩
theorem ft_X1_85 : FT RX1 85 6 7 (.array .int) := ⟨RX6, TX6, 14, tyX6, rfl, by decide, gt_in 340 (by decide +kernel) (by decide +kernel), uw_X6, rfl, tyX6_ok, nmX6, by decide +kernel, rfl⟩
theorem ft_X1_76 : FT RX1 76 6 4 .int := ⟨RX6, TX6, 14, tyX6, rfl, by decide, gt_in 330 (by decide +kernel) (by decide +kernel), uw_X6, rfl, tyX6_ok, nmX6, by decide +kernel, rfl⟩
theorem ft_X1_89 : FT RX1 89 6 8 (.array .int) := ⟨RX6, TX6, 14, tyX6, rfl, by decide, gt_in 343 (by decide +kernel) (by decide +kernel), uw_X6, rfl, tyX6_ok, nmX6, by decide +kernel, rfl⟩
theorem ft_X1_60 : FT RX1 60 6 1 .int := ⟨RX6, TX6, 14, tyX6, rfl, by decide, gt_in 321 (by decide +kernel) (by decide +kernel), uw_X6, rfl, tyX6_ok, nmX6, by decide +kernel, rfl⟩
theorem ft_X1_63 : FT RX1 63 6 0 .int := ⟨RX6, TX6, 14, tyX6, rfl, by decide, gt_in 317 (by decide +kernel) (by decide +kernel), uw_X6, rfl, tyX6_ok, nmX6, by decide +kernel, rfl⟩
theorem ml_X1_70 : Cond.methodLink RX1 70 yX1_endLine ∈ gt := gt_in 571 (by decide +kernel) (by decide +kernel)
theorem ml_X1_66 : Cond.methodLink RX1 66 yX1_addCell ∈ gt := gt_in 564 (by decide +kernel) (by decide +kernel)
theorem ml_X6_78 : Cond.methodLink RX6 78 yX6_columnOf ∈ gt := gt_in 591 (by decide +kernel) (by decide +kernel)
theorem ml_X6_84 : Cond.methodLink RX6 84 yX6_lineOf ∈ gt := gt_in 598 (by decide +kernel) (by decide +kernel)
theorem ml_X6_90 : Cond.methodLink RX6 90 yX6_isWall ∈ gt := gt_in 603 (by decide +kernel) (by decide +kernel)
theorem ml_X6_62 : Cond.methodLink RX6 62 Lib.Math.max.name ∈ gt := gt_in 583 (by decide +kernel) (by decide +kernel)
theorem ft_X6_30 : FT RX6 30 6 13 (.array .int) := ⟨RX6, TX6, 14, tyX6, rfl, by decide, gt_in 351 (by decide +kernel) (by decide +kernel), uw_X6, rfl, tyX6_ok, nmX6, by decide +kernel, rfl⟩
theorem ml_X6_68 : Cond.methodLink RX6 68 yJ7_fill_53178 ∈ gt := gt_in 586 (by decide +kernel) (by decide +kernel)
theorem ft_X6_27 : FT RX6 27 6 12 (.array .int) := ⟨RX6, TX6, 14, tyX6, rfl, by decide, gt_in 349 (by decide +kernel) (by decide +kernel), uw_X6, rfl, tyX6_ok, nmX6, by decide +kernel, rfl⟩
theorem ml_X6_87 : Cond.methodLink RX6 87 yX6_neighbour ∈ gt := gt_in 599 (by decide +kernel) (by decide +kernel)
theorem ml_X6_81 : Cond.methodLink RX6 81 Lib.Math.abs.name ∈ gt := gt_in 595 (by decide +kernel) (by decide +kernel)
theorem ft_X6_24 : FT RX6 24 6 11 (.array .int) := ⟨RX6, TX6, 14, tyX6, rfl, by decide, gt_in 348 (by decide +kernel) (by decide +kernel), uw_X6, rfl, tyX6_ok, nmX6, by decide +kernel, rfl⟩
theorem ml_X6_74 : Cond.methodLink RX6 74 yX6_secondEnd ∈ gt := gt_in 587 (by decide +kernel) (by decide +kernel)
theorem ft_X1_92 : FT RX1 92 6 6 .boolean := ⟨RX6, TX6, 14, tyX6, rfl, by decide, gt_in 337 (by decide +kernel) (by decide +kernel), uw_X6, rfl, tyX6_ok, nmX6, by decide +kernel, rfl⟩
theorem ml_X1_96 : Cond.methodLink RX1 96 yX6_layOut ∈ gt := gt_in 579 (by decide +kernel) (by decide +kernel)
theorem ft_X6_18 : FT RX6 18 6 9 (.array .int) := ⟨RX6, TX6, 14, tyX6, rfl, by decide, gt_in 344 (by decide +kernel) (by decide +kernel), uw_X6, rfl, tyX6_ok, nmX6, by decide +kernel, rfl⟩
theorem ft_X6_21 : FT RX6 21 6 10 (.array .int) := ⟨RX6, TX6, 14, tyX6, rfl, by decide, gt_in 346 (by decide +kernel) (by decide +kernel), uw_X6, rfl, tyX6_ok, nmX6, by decide +kernel, rfl⟩
theorem ft_X6_9 : FT RX6 9 6 7 (.array .int) := ⟨RX6, TX6, 14, tyX6, rfl, by decide, gt_in 338 (by decide +kernel) (by decide +kernel), uw_X6, rfl, tyX6_ok, nmX6, by decide +kernel, rfl⟩
theorem ft_X6_15 : FT RX6 15 6 8 (.array .int) := ⟨RX6, TX6, 14, tyX6, rfl, by decide, gt_in 342 (by decide +kernel) (by decide +kernel), uw_X6, rfl, tyX6_ok, nmX6, by decide +kernel, rfl⟩
theorem ml_X6_94 : Cond.methodLink RX6 94 yX6_distance ∈ gt := gt_in 619 (by decide +kernel) (by decide +kernel)
theorem ft_X1_99 : FT RX1 99 6 5 .int := ⟨RX6, TX6, 14, tyX6, rfl, by decide, gt_in 334 (by decide +kernel) (by decide +kernel), uw_X6, rfl, tyX6_ok, nmX6, by decide +kernel, rfl⟩
theorem ml_X1_102 : Cond.methodLink RX1 102 yX6_giveLength ∈ gt := gt_in 611 (by decide +kernel) (by decide +kernel)
theorem ml_X1_106 : Cond.methodLink RX1 106 yX6_keepsAtFirst ∈ gt := gt_in 615 (by decide +kernel) (by decide +kernel)
theorem ml_X1_19 : Cond.methodLink RX1 19 yX4_size ∈ gt := gt_in 546 (by decide +kernel) (by decide +kernel)
theorem ml_X1_34 : Cond.methodLink RX1 34 yX6_clear ∈ gt := gt_in 547 (by decide +kernel) (by decide +kernel)
theorem ml_X1_39 : Cond.methodLink RX1 39 yX1_skipBlanks ∈ gt := gt_in 551 (by decide +kernel) (by decide +kernel)
theorem ml_X1_42 : Cond.methodLink RX1 42 yX1_readCells ∈ gt := gt_in 560 (by decide +kernel) (by decide +kernel)
theorem ml_X1_46 : Cond.methodLink RX1 46 yX1_readForm ∈ gt := gt_in 575 (by decide +kernel) (by decide +kernel)
theorem ml_X1_49 : Cond.methodLink RX1 49 yX1_readChains ∈ gt := gt_in 607 (by decide +kernel) (by decide +kernel)
theorem ft_X2_9 : FT RX2 9 2 0 (.object "ChainedMen$Yard") := ⟨RX2, TX2, 3, tyX2, rfl, by decide, gt_in 214 (by decide +kernel) (by decide +kernel), uw_X2, rfl, tyX2_ok, nmX2, by decide +kernel, rfl⟩
theorem ft_X2_15 : FT RX2 15 2 2 .int := ⟨RX2, TX2, 3, tyX2, rfl, by decide, gt_in 216 (by decide +kernel) (by decide +kernel), uw_X2, rfl, tyX2_ok, nmX2, by decide +kernel, rfl⟩
theorem ft_X2_19 : FT RX2 19 2 1 .int := ⟨RX2, TX2, 3, tyX2, rfl, by decide, gt_in 215 (by decide +kernel) (by decide +kernel), uw_X2, rfl, tyX2_ok, nmX2, by decide +kernel, rfl⟩
theorem ft_X2_22 : FT RX2 22 6 2 .int := ⟨RX6, TX6, 14, tyX6, rfl, by decide, gt_in 323 (by decide +kernel) (by decide +kernel), uw_X6, rfl, tyX6_ok, nmX6, by decide +kernel, rfl⟩
theorem ml_X2_27 : Cond.methodLink RX2 27 yX6_lineOf ∈ gt := gt_in 391 (by decide +kernel) (by decide +kernel)
theorem ft_X2_31 : FT RX2 31 6 1 .int := ⟨RX6, TX6, 14, tyX6, rfl, by decide, gt_in 320 (by decide +kernel) (by decide +kernel), uw_X6, rfl, tyX6_ok, nmX6, by decide +kernel, rfl⟩
theorem fs_X7_380 : Cond.fieldLink RX7 380 "ChainedMen" "WEIGHT" "[I" ∈ gt := gt_in 652 (by decide +kernel) (by decide +kernel)
theorem ft_X2_34 : FT RX2 34 6 4 .int := ⟨RX6, TX6, 14, tyX6, rfl, by decide, gt_in 329 (by decide +kernel) (by decide +kernel), uw_X6, rfl, tyX6_ok, nmX6, by decide +kernel, rfl⟩
theorem ft_X2_64 : FT RX2 64 6 5 .int := ⟨RX6, TX6, 14, tyX6, rfl, by decide, gt_in 333 (by decide +kernel) (by decide +kernel), uw_X6, rfl, tyX6_ok, nmX6, by decide +kernel, rfl⟩
theorem ft_X2_67 : FT RX2 67 6 13 (.array .int) := ⟨RX6, TX6, 14, tyX6, rfl, by decide, gt_in 352 (by decide +kernel) (by decide +kernel), uw_X6, rfl, tyX6_ok, nmX6, by decide +kernel, rfl⟩
theorem ft_X2_41 : FT RX2 41 6 7 (.array .int) := ⟨RX6, TX6, 14, tyX6, rfl, by decide, gt_in 339 (by decide +kernel) (by decide +kernel), uw_X6, rfl, tyX6_ok, nmX6, by decide +kernel, rfl⟩
theorem ml_X2_44 : Cond.methodLinkNest RX2 44 yX7_cellOf "ChainedMen" ∈ nestL := by decide +kernel
theorem ft_X2_48 : FT RX2 48 6 12 (.array .int) := ⟨RX6, TX6, 14, tyX6, rfl, by decide, gt_in 350 (by decide +kernel) (by decide +kernel), uw_X6, rfl, tyX6_ok, nmX6, by decide +kernel, rfl⟩
theorem ml_X2_51 : Cond.methodLink RX2 51 yX2_taken ∈ gt := gt_in 714 (by decide +kernel) (by decide +kernel)
theorem ml_X2_57 : Cond.methodLink RX2 57 yX6_tooFar ∈ gt := gt_in 719 (by decide +kernel) (by decide +kernel)
theorem ml_X2_60 : Cond.methodLink RX2 60 yX2_takingAlong ∈ gt := gt_in 723 (by decide +kernel) (by decide +kernel)
theorem ft_X3_38 : FT RX3 38 3 11 .int := ⟨RX3, TX3, 12, tyX3, rfl, by decide, gt_in 242 (by decide +kernel) (by decide +kernel), uw_X3, rfl, tyX3_ok, nmX3, by decide +kernel, rfl⟩
theorem ft_X3_42 : FT RX3 42 3 6 .int := ⟨RX3, TX3, 12, tyX3, rfl, by decide, gt_in 237 (by decide +kernel) (by decide +kernel), uw_X3, rfl, tyX3_ok, nmX3, by decide +kernel, rfl⟩
theorem ft_X3_24 : FT RX3 24 3 7 (.array .int) := ⟨RX3, TX3, 12, tyX3, rfl, by decide, gt_in 238 (by decide +kernel) (by decide +kernel), uw_X3, rfl, tyX3_ok, nmX3, by decide +kernel, rfl⟩
theorem ft_X3_51 : FT RX3 51 3 8 .int := ⟨RX3, TX3, 12, tyX3, rfl, by decide, gt_in 239 (by decide +kernel) (by decide +kernel), uw_X3, rfl, tyX3_ok, nmX3, by decide +kernel, rfl⟩
theorem ft_X3_9 : FT RX3 9 3 1 (.array .int) := ⟨RX3, TX3, 12, tyX3, rfl, by decide, gt_in 232 (by decide +kernel) (by decide +kernel), uw_X3, rfl, tyX3_ok, nmX3, by decide +kernel, rfl⟩
theorem ft_X3_15 : FT RX3 15 3 2 (.array .int) := ⟨RX3, TX3, 12, tyX3, rfl, by decide, gt_in 233 (by decide +kernel) (by decide +kernel), uw_X3, rfl, tyX3_ok, nmX3, by decide +kernel, rfl⟩
theorem ft_X3_18 : FT RX3 18 3 3 (.array .int) := ⟨RX3, TX3, 12, tyX3, rfl, by decide, gt_in 234 (by decide +kernel) (by decide +kernel), uw_X3, rfl, tyX3_ok, nmX3, by decide +kernel, rfl⟩
theorem ft_X3_21 : FT RX3 21 3 4 (.array .int) := ⟨RX3, TX3, 12, tyX3, rfl, by decide, gt_in 235 (by decide +kernel) (by decide +kernel), uw_X3, rfl, tyX3_ok, nmX3, by decide +kernel, rfl⟩
theorem ft_X3_27 : FT RX3 27 3 9 (.array .int) := ⟨RX3, TX3, 12, tyX3, rfl, by decide, gt_in 240 (by decide +kernel) (by decide +kernel), uw_X3, rfl, tyX3_ok, nmX3, by decide +kernel, rfl⟩
theorem ml_X3_45 : Cond.methodLink RX3 45 yJ7_fill_53178 ∈ gt := gt_in 807 (by decide +kernel) (by decide +kernel)
theorem ft_X3_54 : FT RX3 54 3 5 .int := ⟨RX3, TX3, 12, tyX3, rfl, by decide, gt_in 236 (by decide +kernel) (by decide +kernel), uw_X3, rfl, tyX3_ok, nmX3, by decide +kernel, rfl⟩
theorem ml_X3_57 : Cond.methodLink RX3 57 yX3_arrive ∈ gt := gt_in 808 (by decide +kernel) (by decide +kernel)
theorem ft_X3_34 : FT RX3 34 3 0 (.object "ChainedMen$Rules") := ⟨RX3, TX3, 12, tyX3, rfl, by decide, gt_in 231 (by decide +kernel) (by decide +kernel), uw_X3, rfl, tyX3_ok, nmX3, by decide +kernel, rfl⟩
theorem ml_X3_88 : Cond.methodLink RX3 88 yX2_after ∈ gt := gt_in 824 (by decide +kernel) (by decide +kernel)
theorem ft_X3_31 : FT RX3 31 3 10 (.array .int) := ⟨RX3, TX3, 12, tyX3, rfl, by decide, gt_in 241 (by decide +kernel) (by decide +kernel), uw_X3, rfl, tyX3_ok, nmX3, by decide +kernel, rfl⟩
theorem ml_X3_85 : Cond.methodLink RX3 85 yX3_learn ∈ gt := gt_in 820 (by decide +kernel) (by decide +kernel)
theorem ml_X3_61 : Cond.methodLink RX3 61 yX3_expand ∈ gt := gt_in 816 (by decide +kernel) (by decide +kernel)
theorem ml_X3_65 : Cond.methodLink RX3 65 yX3_depth ∈ gt := gt_in 837 (by decide +kernel) (by decide +kernel)
theorem ml_X3_69 : Cond.methodLink RX3 69 yX4_set ∈ gt := gt_in 841 (by decide +kernel) (by decide +kernel)
theorem ml_X3_75 : Cond.methodLink RX3 75 yX3_begin ∈ gt := gt_in 904 (by decide +kernel) (by decide +kernel)
theorem ml_X3_78 : Cond.methodLink RX3 78 yX3_finds ∈ gt := gt_in 905 (by decide +kernel) (by decide +kernel)
theorem ml_X4_20 : Cond.methodLink RX4 20 yJ7_fill_53178 ∈ gt := gt_in 141 (by decide +kernel) (by decide +kernel)
theorem ml_X4_37 : Cond.methodLink RX4 37 arraycopyName ∈ gt := gt_in 519 (by decide +kernel) (by decide +kernel)
theorem cn_X4_43 : Cond.constantLong RX4 43 (31) ∈ gt := gt_in 1061 (by decide +kernel) (by decide +kernel)
theorem ml_X5_34 : Cond.methodLink RX5 34 yX4_size ∈ gt := gt_in 894 (by decide +kernel) (by decide +kernel)
theorem ml_X5_40 : Cond.methodLink RX5 40 Lib.Math.min.name ∈ gt := gt_in 895 (by decide +kernel) (by decide +kernel)
theorem ml_X5_46 : Cond.methodLink RX5 46 Lib.Math.max.name ∈ gt := gt_in 898 (by decide +kernel) (by decide +kernel)
theorem ft_X5_49 : FT RX5 49 5 0 .int := ⟨RX5, TX5, 10, tyX5, rfl, by decide, gt_in 274 (by decide +kernel) (by decide +kernel), uw_X5, rfl, tyX5_ok, nmX5, by decide +kernel, rfl⟩
theorem ft_X5_56 : FT RX5 56 5 4 .int := ⟨RX5, TX5, 10, tyX5, rfl, by decide, gt_in 282 (by decide +kernel) (by decide +kernel), uw_X5, rfl, tyX5_ok, nmX5, by decide +kernel, rfl⟩
theorem ft_X5_59 : FT RX5 59 5 5 .int := ⟨RX5, TX5, 10, tyX5, rfl, by decide, gt_in 284 (by decide +kernel) (by decide +kernel), uw_X5, rfl, tyX5_ok, nmX5, by decide +kernel, rfl⟩
theorem ft_X5_9 : FT RX5 9 5 1 (.array .int) := ⟨RX5, TX5, 10, tyX5, rfl, by decide, gt_in 276 (by decide +kernel) (by decide +kernel), uw_X5, rfl, tyX5_ok, nmX5, by decide +kernel, rfl⟩
theorem ml_X5_53 : Cond.methodLink RX5 53 yX4_get ∈ gt := gt_in 899 (by decide +kernel) (by decide +kernel)
theorem ft_X5_15 : FT RX5 15 5 2 (.array .int) := ⟨RX5, TX5, 10, tyX5, rfl, by decide, gt_in 278 (by decide +kernel) (by decide +kernel), uw_X5, rfl, tyX5_ok, nmX5, by decide +kernel, rfl⟩
theorem ml_X5_83 : Cond.methodLink RX5 83 yX5_beats ∈ gt := gt_in 923 (by decide +kernel) (by decide +kernel)
theorem ft_X5_21 : FT RX5 21 5 6 (.array .int) := ⟨RX5, TX5, 10, tyX5, rfl, by decide, gt_in 285 (by decide +kernel) (by decide +kernel), uw_X5, rfl, tyX5_ok, nmX5, by decide +kernel, rfl⟩
theorem ft_X5_18 : FT RX5 18 5 3 (.array .int) := ⟨RX5, TX5, 10, tyX5, rfl, by decide, gt_in 280 (by decide +kernel) (by decide +kernel), uw_X5, rfl, tyX5_ok, nmX5, by decide +kernel, rfl⟩
theorem ml_X5_91 : Cond.methodLink RX5 91 arraycopyName ∈ gt := gt_in 927 (by decide +kernel) (by decide +kernel)
theorem cn_J6_265 : Cond.constant RJ6 265 (1431655765) ∈ gt := gt_in 664 (by decide +kernel) (by decide +kernel)
theorem cn_J6_266 : Cond.constant RJ6 266 (858993459) ∈ gt := gt_in 665 (by decide +kernel) (by decide +kernel)
theorem cn_J6_267 : Cond.constant RJ6 267 (252645135) ∈ gt := gt_in 666 (by decide +kernel) (by decide +kernel)
theorem ml_X5_62 : Cond.methodLink RX5 62 yX5_offer ∈ gt := gt_in 919 (by decide +kernel) (by decide +kernel)
theorem ml_X5_78 : Cond.methodLink RX5 78 yJ6_bitCount_0f7a4 ∈ gt := gt_in 931 (by decide +kernel) (by decide +kernel)
theorem ft_X5_24 : FT RX5 24 5 8 (.array .int) := ⟨RX5, TX5, 10, tyX5, rfl, by decide, gt_in 287 (by decide +kernel) (by decide +kernel), uw_X5, rfl, tyX5_ok, nmX5, by decide +kernel, rfl⟩
theorem ft_X5_27 : FT RX5 27 5 9 (.array .int) := ⟨RX5, TX5, 10, tyX5, rfl, by decide, gt_in 288 (by decide +kernel) (by decide +kernel), uw_X5, rfl, tyX5_ok, nmX5, by decide +kernel, rfl⟩
theorem ml_X5_87 : Cond.methodLink RX5 87 yX5_arrange ∈ gt := gt_in 932 (by decide +kernel) (by decide +kernel)
theorem ft_X5_30 : FT RX5 30 5 7 (.object "ChainedMen$Search") := ⟨RX5, TX5, 10, tyX5, rfl, by decide, gt_in 286 (by decide +kernel) (by decide +kernel), uw_X5, rfl, tyX5_ok, nmX5, by decide +kernel, rfl⟩
theorem ml_X5_66 : Cond.methodLink RX5 66 yX3_nearest ∈ gt := gt_in 928 (by decide +kernel) (by decide +kernel)
theorem ml_X5_72 : Cond.methodLink RX5 72 yX3_stand ∈ gt := gt_in 929 (by decide +kernel) (by decide +kernel)
theorem ml_X5_75 : Cond.methodLink RX5 75 yX3_depth ∈ gt := gt_in 930 (by decide +kernel) (by decide +kernel)
theorem ft_X7_360 : FT RX7 360 7 15 .int := ⟨RX7, TX7, 16, tyX7, rfl, by decide, gt_in 414 (by decide +kernel) (by decide +kernel), uw_X7, rfl, tyX7_ok, nmX7, by decide +kernel, rfl⟩
theorem ft_X7_71 : FT RX7 71 7 10 (.array .int) := ⟨RX7, TX7, 16, tyX7, rfl, by decide, gt_in 409 (by decide +kernel) (by decide +kernel), uw_X7, rfl, tyX7_ok, nmX7, by decide +kernel, rfl⟩
theorem ml_X7_114 : Cond.methodLink RX7 114 yX4_knows ∈ gt := gt_in 456 (by decide +kernel) (by decide +kernel)
theorem ml_X7_242 : Cond.methodLink RX7 242 yX4_make ∈ gt := gt_in 464 (by decide +kernel) (by decide +kernel)
theorem ml_X7_118 : Cond.methodLink RX7 118 yX7_found ∈ gt := gt_in 460 (by decide +kernel) (by decide +kernel)
theorem ft_X7_14 : FT RX7 14 7 0 (.object "ChainedMen$Shelf") := ⟨RX7, TX7, 16, tyX7, rfl, by decide, gt_in 399 (by decide +kernel) (by decide +kernel), uw_X7, rfl, tyX7_ok, nmX7, by decide +kernel, rfl⟩
theorem ml_X7_87 : Cond.methodLink RX7 87 yX7_made ∈ gt := gt_in 452 (by decide +kernel) (by decide +kernel)
theorem ml_X7_122 : Cond.methodLink RX7 122 yX4_holds ∈ gt := gt_in 481 (by decide +kernel) (by decide +kernel)
theorem ml_X7_107 : Cond.methodLink RX7 107 yX7_refusedMissing ∈ gt := gt_in 477 (by decide +kernel) (by decide +kernel)
theorem ml_X7_125 : Cond.methodLink RX7 125 yX4_has ∈ gt := gt_in 485 (by decide +kernel) (by decide +kernel)
theorem ml_X7_91 : Cond.methodLink RX7 91 yX7_refusedPlace ∈ gt := gt_in 473 (by decide +kernel) (by decide +kernel)
theorem ml_X7_95 : Cond.methodLink RX7 95 yX4_get ∈ gt := gt_in 490 (by decide +kernel) (by decide +kernel)
theorem ft_X7_99 : FT RX7 99 7 14 .int := ⟨RX7, TX7, 16, tyX7, rfl, by decide, gt_in 413 (by decide +kernel) (by decide +kernel), uw_X7, rfl, tyX7_ok, nmX7, by decide +kernel, rfl⟩
theorem ml_X7_103 : Cond.methodLink RX7 103 yX4_set ∈ gt := gt_in 495 (by decide +kernel) (by decide +kernel)
theorem ml_X7_111 : Cond.methodLink RX7 111 yX4_drop ∈ gt := gt_in 507 (by decide +kernel) (by decide +kernel)
theorem ml_X7_129 : Cond.methodLink RX7 129 yX4_move ∈ gt := gt_in 515 (by decide +kernel) (by decide +kernel)
theorem ml_X7_133 : Cond.methodLink RX7 133 yX4_size ∈ gt := gt_in 526 (by decide +kernel) (by decide +kernel)
theorem ft_X7_18 : FT RX7 18 7 1 (.object "ChainedMen$Shelf") := ⟨RX7, TX7, 16, tyX7, rfl, by decide, gt_in 400 (by decide +kernel) (by decide +kernel), uw_X7, rfl, tyX7_ok, nmX7, by decide +kernel, rfl⟩
theorem ft_X7_24 : FT RX7 24 7 2 (.object "ChainedMen$Reader") := ⟨RX7, TX7, 16, tyX7, rfl, by decide, gt_in 401 (by decide +kernel) (by decide +kernel), uw_X7, rfl, tyX7_ok, nmX7, by decide +kernel, rfl⟩
theorem ft_X7_81 : FT RX7 81 7 12 (.object "ChainedMen$Yard") := ⟨RX7, TX7, 16, tyX7, rfl, by decide, gt_in 411 (by decide +kernel) (by decide +kernel), uw_X7, rfl, tyX7_ok, nmX7, by decide +kernel, rfl⟩
theorem ml_X7_136 : Cond.methodLink RX7 136 yX1_read ∈ gt := gt_in 542 (by decide +kernel) (by decide +kernel)
theorem ft_X7_42 : FT RX7 42 7 5 (.object "ChainedMen$Rules") := ⟨RX7, TX7, 16, tyX7, rfl, by decide, gt_in 404 (by decide +kernel) (by decide +kernel), uw_X7, rfl, tyX7_ok, nmX7, by decide +kernel, rfl⟩
theorem ft_X7_77 : FT RX7 77 7 11 (.object "ChainedMen$Yard") := ⟨RX7, TX7, 16, tyX7, rfl, by decide, gt_in 410 (by decide +kernel) (by decide +kernel), uw_X7, rfl, tyX7_ok, nmX7, by decide +kernel, rfl⟩
theorem ft_X7_31 : FT RX7 31 7 3 (.object "ChainedMen$Course") := ⟨RX7, TX7, 16, tyX7, rfl, by decide, gt_in 402 (by decide +kernel) (by decide +kernel), uw_X7, rfl, tyX7_ok, nmX7, by decide +kernel, rfl⟩
theorem ft_X7_193 : FT RX7 193 0 2 .int := ⟨RX0, TX0, 7, tyX0, rfl, by decide, gt_in 184 (by decide +kernel) (by decide +kernel), uw_X0, rfl, tyX0_ok, nmX0, by decide +kernel, rfl⟩
theorem ft_X7_196 : FT RX7 196 0 3 .int := ⟨RX0, TX0, 7, tyX0, rfl, by decide, gt_in 186 (by decide +kernel) (by decide +kernel), uw_X0, rfl, tyX0_ok, nmX0, by decide +kernel, rfl⟩
theorem ml_X7_383 : Cond.methodLink RX7 383 yX2_follow ∈ gt := gt_in 387 (by decide +kernel) (by decide +kernel)
theorem ft_X7_51 : FT RX7 51 7 6 (.object "ChainedMen$Search") := ⟨RX7, TX7, 16, tyX7, rfl, by decide, gt_in 405 (by decide +kernel) (by decide +kernel), uw_X7, rfl, tyX7_ok, nmX7, by decide +kernel, rfl⟩
theorem ml_X7_387 : Cond.methodLink RX7 387 yX3_forget ∈ gt := gt_in 395 (by decide +kernel) (by decide +kernel)
theorem ml_X7_140 : Cond.methodLink RX7 140 yX6_firstStand ∈ gt := gt_in 627 (by decide +kernel) (by decide +kernel)
theorem ml_X7_144 : Cond.methodLink RX7 144 yX0_restart ∈ gt := gt_in 633 (by decide +kernel) (by decide +kernel)
theorem ft_X7_151 : FT RX7 151 7 13 .int := ⟨RX7, TX7, 16, tyX7, rfl, by decide, gt_in 412 (by decide +kernel) (by decide +kernel), uw_X7, rfl, tyX7_ok, nmX7, by decide +kernel, rfl⟩
theorem ml_X7_84 : Cond.methodLink RX7 84 yX7_changeRules ∈ gt := gt_in 383 (by decide +kernel) (by decide +kernel)
theorem ft_X7_154 : FT RX7 154 6 4 .int := ⟨RX6, TX6, 14, tyX6, rfl, by decide, gt_in 331 (by decide +kernel) (by decide +kernel), uw_X6, rfl, tyX6_ok, nmX6, by decide +kernel, rfl⟩
theorem ft_X7_35 : FT RX7 35 7 4 (.array (.object "ChainedMen$Course")) := ⟨RX7, TX7, 16, tyX7, rfl, by decide, gt_in 403 (by decide +kernel) (by decide +kernel), uw_X7, rfl, tyX7_ok, nmX7, by decide +kernel, rfl⟩
theorem ft_X7_147 : FT RX7 147 0 0 .boolean := ⟨RX0, TX0, 7, tyX0, rfl, by decide, gt_in 180 (by decide +kernel) (by decide +kernel), uw_X0, rfl, tyX0_ok, nmX0, by decide +kernel, rfl⟩
theorem ft_X7_348 : FT RX7 348 6 5 .int := ⟨RX6, TX6, 14, tyX6, rfl, by decide, gt_in 335 (by decide +kernel) (by decide +kernel), uw_X6, rfl, tyX6_ok, nmX6, by decide +kernel, rfl⟩
theorem ft_X7_393 : FT RX7 393 6 7 (.array .int) := ⟨RX6, TX6, 14, tyX6, rfl, by decide, gt_in 341 (by decide +kernel) (by decide +kernel), uw_X6, rfl, tyX6_ok, nmX6, by decide +kernel, rfl⟩
theorem ft_X7_199 : FT RX7 199 0 1 .int := ⟨RX0, TX0, 7, tyX0, rfl, by decide, gt_in 182 (by decide +kernel) (by decide +kernel), uw_X0, rfl, tyX0_ok, nmX0, by decide +kernel, rfl⟩
theorem ml_X7_216 : Cond.methodLink RX7 216 yX7_cellOf ∈ gt := gt_in 649 (by decide +kernel) (by decide +kernel)
theorem ml_X7_297 : Cond.methodLink RX7 297 yX7_closedChains ∈ gt := gt_in 653 (by decide +kernel) (by decide +kernel)
theorem ml_X7_303 : Cond.methodLink RX7 303 yX6_chainsOf ∈ gt := gt_in 657 (by decide +kernel) (by decide +kernel)
theorem ml_X7_179 : Cond.methodLink RX7 179 yJ6_bitCount_0f7a4 ∈ gt := gt_in 661 (by decide +kernel) (by decide +kernel)
theorem ml_X7_396 : Cond.methodLink RX7 396 yX0_stepsOf ∈ gt := gt_in 667 (by decide +kernel) (by decide +kernel)
theorem ml_X7_157 : Cond.methodLink RX7 157 yX7_isMan ∈ gt := gt_in 641 (by decide +kernel) (by decide +kernel)
theorem ml_X7_160 : Cond.methodLink RX7 160 yX7_ofMan ∈ gt := gt_in 645 (by decide +kernel) (by decide +kernel)
theorem ml_X7_390 : Cond.methodLink RX7 390 yX6_distance ∈ gt := gt_in 688 (by decide +kernel) (by decide +kernel)
theorem ft_X7_399 : FT RX7 399 6 9 (.array .int) := ⟨RX6, TX6, 14, tyX6, rfl, by decide, gt_in 345 (by decide +kernel) (by decide +kernel), uw_X6, rfl, tyX6_ok, nmX6, by decide +kernel, rfl⟩
theorem ft_X7_402 : FT RX7 402 6 10 (.array .int) := ⟨RX6, TX6, 14, tyX6, rfl, by decide, gt_in 347 (by decide +kernel) (by decide +kernel), uw_X6, rfl, tyX6_ok, nmX6, by decide +kernel, rfl⟩
theorem ml_X7_405 : Cond.methodLink RX7 405 yX6_secondEnd ∈ gt := gt_in 683 (by decide +kernel) (by decide +kernel)
theorem ml_X7_253 : Cond.methodLink RX7 253 yX7_apart ∈ gt := gt_in 684 (by decide +kernel) (by decide +kernel)
theorem ml_X7_163 : Cond.methodLink RX7 163 yX7_isChain ∈ gt := gt_in 675 (by decide +kernel) (by decide +kernel)
theorem ml_X7_166 : Cond.methodLink RX7 166 yX7_ofChain ∈ gt := gt_in 679 (by decide +kernel) (by decide +kernel)
theorem ft_X7_408 : FT RX7 408 6 13 (.array .int) := ⟨RX6, TX6, 14, tyX6, rfl, by decide, gt_in 353 (by decide +kernel) (by decide +kernel), uw_X6, rfl, tyX6_ok, nmX6, by decide +kernel, rfl⟩
theorem ml_X7_202 : Cond.methodLink RX7 202 yX2_after ∈ gt := gt_in 707 (by decide +kernel) (by decide +kernel)
theorem ml_X7_169 : Cond.methodLink RX7 169 yX6_is ∈ gt := gt_in 693 (by decide +kernel) (by decide +kernel)
theorem ml_X7_173 : Cond.methodLink RX7 173 yX7_chainedTo ∈ gt := gt_in 699 (by decide +kernel) (by decide +kernel)
theorem ml_X7_176 : Cond.methodLink RX7 176 yX7_waysOpenTo ∈ gt := gt_in 703 (by decide +kernel) (by decide +kernel)
theorem ml_X7_184 : Cond.methodLink RX7 184 yX7_fartherThanTwo ∈ gt := gt_in 727 (by decide +kernel) (by decide +kernel)
theorem ml_X7_187 : Cond.methodLink RX7 187 yX7_leastReach ∈ gt := gt_in 731 (by decide +kernel) (by decide +kernel)
theorem ft_X7_190 : FT RX7 190 6 2 .int := ⟨RX6, TX6, 14, tyX6, rfl, by decide, gt_in 325 (by decide +kernel) (by decide +kernel), uw_X6, rfl, tyX6_ok, nmX6, by decide +kernel, rfl⟩
theorem ft_X7_206 : FT RX7 206 0 4 .int := ⟨RX0, TX0, 7, tyX0, rfl, by decide, gt_in 188 (by decide +kernel) (by decide +kernel), uw_X0, rfl, tyX0_ok, nmX0, by decide +kernel, rfl⟩
theorem ml_X7_209 : Cond.methodLink RX7 209 yX7_stepOf ∈ gt := gt_in 747 (by decide +kernel) (by decide +kernel)
theorem ml_X7_212 : Cond.methodLink RX7 212 yX0_go ∈ gt := gt_in 750 (by decide +kernel) (by decide +kernel)
theorem ml_X7_219 : Cond.methodLink RX7 219 yX0_goBack ∈ gt := gt_in 762 (by decide +kernel) (by decide +kernel)
theorem ml_X7_222 : Cond.methodLink RX7 222 yX7_isCell ∈ gt := gt_in 770 (by decide +kernel) (by decide +kernel)
theorem ml_X7_225 : Cond.methodLink RX7 225 yX0_become ∈ gt := gt_in 778 (by decide +kernel) (by decide +kernel)
theorem ml_X7_306 : Cond.methodLink RX7 306 yX7_refusedWithMen ∈ gt := gt_in 795 (by decide +kernel) (by decide +kernel)
theorem ml_X7_245 : Cond.methodLink RX7 245 yX3_begin ∈ gt := gt_in 803 (by decide +kernel) (by decide +kernel)
theorem ml_X7_248 : Cond.methodLink RX7 248 yX3_finds ∈ gt := gt_in 812 (by decide +kernel) (by decide +kernel)
theorem ml_X7_251 : Cond.methodLink RX7 251 yX3_stand ∈ gt := gt_in 825 (by decide +kernel) (by decide +kernel)
theorem ml_X7_411 : Cond.methodLink RX7 411 yX7_isLike ∈ gt := gt_in 829 (by decide +kernel) (by decide +kernel)
theorem ml_X7_229 : Cond.methodLink RX7 229 yX7_refusedAim ∈ gt := gt_in 791 (by decide +kernel) (by decide +kernel)
theorem ml_X7_232 : Cond.methodLink RX7 232 yX7_firstLike ∈ gt := gt_in 799 (by decide +kernel) (by decide +kernel)
theorem ml_X7_235 : Cond.methodLink RX7 235 yX3_trace ∈ gt := gt_in 833 (by decide +kernel) (by decide +kernel)
theorem ml_X7_239 : Cond.methodLink RX7 239 yX3_depth ∈ gt := gt_in 842 (by decide +kernel) (by decide +kernel)
theorem ml_X7_414 : Cond.methodLink RX7 414 yX6_columnOf ∈ gt := gt_in 867 (by decide +kernel) (by decide +kernel)
theorem ft_X7_256 : FT RX7 256 6 0 .int := ⟨RX6, TX6, 14, tyX6, rfl, by decide, gt_in 318 (by decide +kernel) (by decide +kernel), uw_X6, rfl, tyX6_ok, nmX6, by decide +kernel, rfl⟩
theorem ml_X7_259 : Cond.methodLink RX7 259 yX7_allInColumn ∈ gt := gt_in 863 (by decide +kernel) (by decide +kernel)
theorem ml_X7_309 : Cond.methodLink RX7 309 yX7_standFrom ∈ gt := gt_in 877 (by decide +kernel) (by decide +kernel)
theorem ml_X7_312 : Cond.methodLink RX7 312 yX6_tooFar ∈ gt := gt_in 881 (by decide +kernel) (by decide +kernel)
theorem ml_X7_370 : Cond.methodLink RX7 370 yX6_isWall ∈ gt := gt_in 876 (by decide +kernel) (by decide +kernel)
theorem ml_X7_262 : Cond.methodLink RX7 262 yX7_soundStand ∈ gt := gt_in 872 (by decide +kernel) (by decide +kernel)
theorem ml_X7_265 : Cond.methodLink RX7 265 yX7_refusedWants ∈ gt := gt_in 886 (by decide +kernel) (by decide +kernel)
theorem ft_X7_60 : FT RX7 60 7 7 (.object "ChainedMen$Wants") := ⟨RX7, TX7, 16, tyX7, rfl, by decide, gt_in 406 (by decide +kernel) (by decide +kernel), uw_X7, rfl, tyX7_ok, nmX7, by decide +kernel, rfl⟩
theorem ml_X7_268 : Cond.methodLink RX7 268 yX5_take ∈ gt := gt_in 890 (by decide +kernel) (by decide +kernel)
theorem ft_X7_272 : FT RX7 272 5 0 .int := ⟨RX5, TX5, 10, tyX5, rfl, by decide, gt_in 275 (by decide +kernel) (by decide +kernel), uw_X5, rfl, tyX5_ok, nmX5, by decide +kernel, rfl⟩
theorem ft_X7_275 : FT RX7 275 5 1 (.array .int) := ⟨RX5, TX5, 10, tyX5, rfl, by decide, gt_in 277 (by decide +kernel) (by decide +kernel), uw_X5, rfl, tyX5_ok, nmX5, by decide +kernel, rfl⟩
theorem ft_X7_277 : FT RX7 277 5 2 (.array .int) := ⟨RX5, TX5, 10, tyX5, rfl, by decide, gt_in 279 (by decide +kernel) (by decide +kernel), uw_X5, rfl, tyX5_ok, nmX5, by decide +kernel, rfl⟩
theorem ml_X7_279 : Cond.methodLink RX7 279 yX3_nearest ∈ gt := gt_in 900 (by decide +kernel) (by decide +kernel)
theorem ml_X7_282 : Cond.methodLink RX7 282 yX5_all ∈ gt := gt_in 911 (by decide +kernel) (by decide +kernel)
theorem ml_X7_285 : Cond.methodLinkNest RX7 285 yX5_arrange "ChainedMen" ∈ nestL := by decide +kernel
theorem ft_X7_291 : FT RX7 291 5 4 .int := ⟨RX5, TX5, 10, tyX5, rfl, by decide, gt_in 283 (by decide +kernel) (by decide +kernel), uw_X5, rfl, tyX5_ok, nmX5, by decide +kernel, rfl⟩
theorem ft_X7_288 : FT RX7 288 5 3 (.array .int) := ⟨RX5, TX5, 10, tyX5, rfl, by decide, gt_in 281 (by decide +kernel) (by decide +kernel), uw_X5, rfl, tyX5_ok, nmX5, by decide +kernel, rfl⟩
theorem ml_X7_417 : Cond.methodLink RX7 417 yX7_opened ∈ gt := gt_in 945 (by decide +kernel) (by decide +kernel)
theorem ml_X7_294 : Cond.methodLink RX7 294 yX7_refusedKeys ∈ gt := gt_in 937 (by decide +kernel) (by decide +kernel)
theorem ml_X7_300 : Cond.methodLink RX7 300 yX7_fewestKeys ∈ gt := gt_in 941 (by decide +kernel) (by decide +kernel)
theorem ml_X7_315 : Cond.methodLink RX7 315 yX7_couldBeFiled ∈ gt := gt_in 957 (by decide +kernel) (by decide +kernel)
theorem ml_X7_321 : Cond.methodLink RX7 321 yX7_stretch ∈ gt := gt_in 969 (by decide +kernel) (by decide +kernel)
theorem ml_X7_318 : Cond.methodLink RX7 318 yX7_isStep ∈ gt := gt_in 965 (by decide +kernel) (by decide +kernel)
theorem ft_X7_64 : FT RX7 64 7 8 (.array .int) := ⟨RX7, TX7, 16, tyX7, rfl, by decide, gt_in 407 (by decide +kernel) (by decide +kernel), uw_X7, rfl, tyX7_ok, nmX7, by decide +kernel, rfl⟩
theorem ft_X7_68 : FT RX7 68 7 9 (.array .int) := ⟨RX7, TX7, 16, tyX7, rfl, by decide, gt_in 408 (by decide +kernel) (by decide +kernel), uw_X7, rfl, tyX7_ok, nmX7, by decide +kernel, rfl⟩
theorem ml_X7_330 : Cond.methodLink RX7 330 yX7_manAt ∈ gt := gt_in 989 (by decide +kernel) (by decide +kernel)
theorem ml_X7_324 : Cond.methodLink RX7 324 yX7_isOrderOfMen ∈ gt := gt_in 985 (by decide +kernel) (by decide +kernel)
theorem ml_X7_327 : Cond.methodLink RX7 327 yX7_quarrelsIn ∈ gt := gt_in 993 (by decide +kernel) (by decide +kernel)
theorem cn_X7_333 : Cond.constant RX7 333 (2147483646) ∈ gt := gt_in 1001 (by decide +kernel) (by decide +kernel)
theorem cn_X7_334 : Cond.constantLong RX7 334 (48271) ∈ gt := gt_in 1002 (by decide +kernel) (by decide +kernel)
theorem cn_X7_336 : Cond.constantLong RX7 336 (2147483647) ∈ gt := gt_in 1003 (by decide +kernel) (by decide +kernel)
theorem cn_X7_338 : Cond.constantLong RX7 338 (64) ∈ gt := gt_in 1004 (by decide +kernel) (by decide +kernel)
theorem cn_X7_340 : Cond.constantLong RX7 340 (4) ∈ gt := gt_in 1005 (by decide +kernel) (by decide +kernel)
theorem ml_X7_342 : Cond.methodLink RX7 342 yX7_possibleSteps ∈ gt := gt_in 1014 (by decide +kernel) (by decide +kernel)
theorem ml_X7_345 : Cond.methodLink RX7 345 yX7_commonPart ∈ gt := gt_in 1018 (by decide +kernel) (by decide +kernel)
theorem ml_X7_351 : Cond.methodLink RX7 351 yX7_sleepers ∈ gt := gt_in 1030 (by decide +kernel) (by decide +kernel)
theorem ml_X7_354 : Cond.methodLink RX7 354 yX4_held ∈ gt := gt_in 1034 (by decide +kernel) (by decide +kernel)
theorem ml_X7_357 : Cond.methodLink RX7 357 yX7_yardsKept ∈ gt := gt_in 1038 (by decide +kernel) (by decide +kernel)
theorem cn_X7_363 : Cond.constantLong RX7 363 (17) ∈ gt := gt_in 1054 (by decide +kernel) (by decide +kernel)
theorem cn_X7_365 : Cond.constantLong RX7 365 (31) ∈ gt := gt_in 1055 (by decide +kernel) (by decide +kernel)
theorem ml_X7_376 : Cond.methodLink RX7 376 yX4_mixedInto ∈ gt := gt_in 1057 (by decide +kernel) (by decide +kernel)
theorem ft_X7_373 : FT RX7 373 0 5 (.array .int) := ⟨RX0, TX0, 7, tyX0, rfl, by decide, gt_in 190 (by decide +kernel) (by decide +kernel), uw_X0, rfl, tyX0_ok, nmX0, by decide +kernel, rfl⟩
theorem ml_X7_367 : Cond.methodLink RX7 367 yX7_count ∈ gt := gt_in 1056 (by decide +kernel) (by decide +kernel)
theorem ft_X8_129 : FT RX8 129 8 0 .int := ⟨RX8, TX8, 63, tyX8, rfl, by decide, gt_in 1068 (by decide +kernel) (by decide +kernel), uw_X8, rfl, tyX8_ok, nmX8, by decide +kernel, rfl⟩
theorem ft_X8_7 : FT RX8 7 8 1 (.array .int) := ⟨RX8, TX8, 63, tyX8, rfl, by decide, gt_in 1069 (by decide +kernel) (by decide +kernel), uw_X8, rfl, tyX8_ok, nmX8, by decide +kernel, rfl⟩
theorem ml_X8_133 : Cond.methodLink RX8 133 yX8_in ∈ gt := gt_in 1268 (by decide +kernel) (by decide +kernel)
theorem ft_X8_137 : FT RX8 137 8 2 .int := ⟨RX8, TX8, 63, tyX8, rfl, by decide, gt_in 1070 (by decide +kernel) (by decide +kernel), uw_X8, rfl, tyX8_ok, nmX8, by decide +kernel, rfl⟩
theorem ft_X8_16 : FT RX8 16 8 4 (.array .int) := ⟨RX8, TX8, 63, tyX8, rfl, by decide, gt_in 1072 (by decide +kernel) (by decide +kernel), uw_X8, rfl, tyX8_ok, nmX8, by decide +kernel, rfl⟩
theorem ml_X8_140 : Cond.methodLink RX8 140 yX8_isRow ∈ gt := gt_in 1279 (by decide +kernel) (by decide +kernel)
theorem ft_X8_13 : FT RX8 13 8 3 (.array .int) := ⟨RX8, TX8, 63, tyX8, rfl, by decide, gt_in 1071 (by decide +kernel) (by decide +kernel), uw_X8, rfl, tyX8_ok, nmX8, by decide +kernel, rfl⟩
theorem ml_X8_144 : Cond.methodLink RX8 144 yX8_meets ∈ gt := gt_in 1282 (by decide +kernel) (by decide +kernel)
theorem ml_X8_148 : Cond.methodLink RX8 148 yX8_rowAt ∈ gt := gt_in 1290 (by decide +kernel) (by decide +kernel)
theorem ml_X8_152 : Cond.methodLink RX8 152 yX8_tells ∈ gt := gt_in 1294 (by decide +kernel) (by decide +kernel)
theorem ft_X8_19 : FT RX8 19 8 5 (.array .int) := ⟨RX8, TX8, 63, tyX8, rfl, by decide, gt_in 1073 (by decide +kernel) (by decide +kernel), uw_X8, rfl, tyX8_ok, nmX8, by decide +kernel, rfl⟩
theorem ml_X8_155 : Cond.methodLink RX8 155 yX8_isText ∈ gt := gt_in 1318 (by decide +kernel) (by decide +kernel)
theorem ft_X8_22 : FT RX8 22 8 6 (.array .int) := ⟨RX8, TX8, 63, tyX8, rfl, by decide, gt_in 1074 (by decide +kernel) (by decide +kernel), uw_X8, rfl, tyX8_ok, nmX8, by decide +kernel, rfl⟩
theorem ft_X8_25 : FT RX8 25 8 7 (.array .byte) := ⟨RX8, TX8, 63, tyX8, rfl, by decide, gt_in 1075 (by decide +kernel) (by decide +kernel), uw_X8, rfl, tyX8_ok, nmX8, by decide +kernel, rfl⟩
theorem ml_X8_158 : Cond.methodLink RX8 158 yX8_kindOf ∈ gt := gt_in 1341 (by decide +kernel) (by decide +kernel)
theorem ft_X8_161 : FT RX8 161 8 20 .int := ⟨RX8, TX8, 63, tyX8, rfl, by decide, gt_in 1088 (by decide +kernel) (by decide +kernel), uw_X8, rfl, tyX8_ok, nmX8, by decide +kernel, rfl⟩
theorem ft_X8_164 : FT RX8 164 8 22 .int := ⟨RX8, TX8, 63, tyX8, rfl, by decide, gt_in 1090 (by decide +kernel) (by decide +kernel), uw_X8, rfl, tyX8_ok, nmX8, by decide +kernel, rfl⟩
theorem ft_X8_167 : FT RX8 167 8 21 .int := ⟨RX8, TX8, 63, tyX8, rfl, by decide, gt_in 1089 (by decide +kernel) (by decide +kernel), uw_X8, rfl, tyX8_ok, nmX8, by decide +kernel, rfl⟩
theorem ft_X8_44 : FT RX8 44 8 26 (.array .int) := ⟨RX8, TX8, 63, tyX8, rfl, by decide, gt_in 1094 (by decide +kernel) (by decide +kernel), uw_X8, rfl, tyX8_ok, nmX8, by decide +kernel, rfl⟩
theorem ft_X8_47 : FT RX8 47 8 27 (.array .int) := ⟨RX8, TX8, 63, tyX8, rfl, by decide, gt_in 1095 (by decide +kernel) (by decide +kernel), uw_X8, rfl, tyX8_ok, nmX8, by decide +kernel, rfl⟩
theorem ft_X8_170 : FT RX8 170 8 23 .int := ⟨RX8, TX8, 63, tyX8, rfl, by decide, gt_in 1091 (by decide +kernel) (by decide +kernel), uw_X8, rfl, tyX8_ok, nmX8, by decide +kernel, rfl⟩
theorem ft_X8_50 : FT RX8 50 8 28 (.array .int) := ⟨RX8, TX8, 63, tyX8, rfl, by decide, gt_in 1096 (by decide +kernel) (by decide +kernel), uw_X8, rfl, tyX8_ok, nmX8, by decide +kernel, rfl⟩
theorem ft_X8_173 : FT RX8 173 8 19 .int := ⟨RX8, TX8, 63, tyX8, rfl, by decide, gt_in 1087 (by decide +kernel) (by decide +kernel), uw_X8, rfl, tyX8_ok, nmX8, by decide +kernel, rfl⟩
theorem ml_X8_176 : Cond.methodLink RX8 176 yX8_byteAt ∈ gt := gt_in 1333 (by decide +kernel) (by decide +kernel)
theorem ml_X8_182 : Cond.methodLink RX8 182 yX8_lineEnds ∈ gt := gt_in 1348 (by decide +kernel) (by decide +kernel)
theorem ml_X8_179 : Cond.methodLink RX8 179 yX8_readsCell ∈ gt := gt_in 1344 (by decide +kernel) (by decide +kernel)
theorem ml_X8_186 : Cond.methodLink RX8 186 yX8_sizeOf ∈ gt := gt_in 1359 (by decide +kernel) (by decide +kernel)
theorem ml_X8_189 : Cond.methodLink RX8 189 yX8_greater ∈ gt := gt_in 1365 (by decide +kernel) (by decide +kernel)
theorem ft_X8_192 : FT RX8 192 8 25 .boolean := ⟨RX8, TX8, 63, tyX8, rfl, by decide, gt_in 1093 (by decide +kernel) (by decide +kernel), uw_X8, rfl, tyX8_ok, nmX8, by decide +kernel, rfl⟩
theorem ft_X8_196 : FT RX8 196 8 24 .int := ⟨RX8, TX8, 63, tyX8, rfl, by decide, gt_in 1092 (by decide +kernel) (by decide +kernel), uw_X8, rfl, tyX8_ok, nmX8, by decide +kernel, rfl⟩
theorem ml_X8_199 : Cond.methodLink RX8 199 yX8_farIn ∈ gt := gt_in 1356 (by decide +kernel) (by decide +kernel)
theorem ml_X8_203 : Cond.methodLink RX8 203 yX8_reachBy ∈ gt := gt_in 1362 (by decide +kernel) (by decide +kernel)
theorem ft_X8_53 : FT RX8 53 8 29 (.array .int) := ⟨RX8, TX8, 63, tyX8, rfl, by decide, gt_in 1097 (by decide +kernel) (by decide +kernel), uw_X8, rfl, tyX8_ok, nmX8, by decide +kernel, rfl⟩
theorem ml_X8_206 : Cond.methodLink RX8 206 yX8_readsLines ∈ gt := gt_in 1337 (by decide +kernel) (by decide +kernel)
theorem ml_X8_209 : Cond.methodLink RX8 209 yX8_readsChains ∈ gt := gt_in 1352 (by decide +kernel) (by decide +kernel)
theorem ml_X8_212 : Cond.methodLink RX8 212 yX8_faultOf ∈ gt := gt_in 1329 (by decide +kernel) (by decide +kernel)
theorem ft_X8_215 : FT RX8 215 8 8 .int := ⟨RX8, TX8, 63, tyX8, rfl, by decide, gt_in 1076 (by decide +kernel) (by decide +kernel), uw_X8, rfl, tyX8_ok, nmX8, by decide +kernel, rfl⟩
theorem ft_X8_218 : FT RX8 218 8 9 .int := ⟨RX8, TX8, 63, tyX8, rfl, by decide, gt_in 1077 (by decide +kernel) (by decide +kernel), uw_X8, rfl, tyX8_ok, nmX8, by decide +kernel, rfl⟩
theorem ft_X8_221 : FT RX8 221 8 10 .int := ⟨RX8, TX8, 63, tyX8, rfl, by decide, gt_in 1078 (by decide +kernel) (by decide +kernel), uw_X8, rfl, tyX8_ok, nmX8, by decide +kernel, rfl⟩
theorem ft_X8_224 : FT RX8 224 8 12 .boolean := ⟨RX8, TX8, 63, tyX8, rfl, by decide, gt_in 1080 (by decide +kernel) (by decide +kernel), uw_X8, rfl, tyX8_ok, nmX8, by decide +kernel, rfl⟩
theorem ft_X8_227 : FT RX8 227 8 11 .int := ⟨RX8, TX8, 63, tyX8, rfl, by decide, gt_in 1079 (by decide +kernel) (by decide +kernel), uw_X8, rfl, tyX8_ok, nmX8, by decide +kernel, rfl⟩
theorem ft_X8_230 : FT RX8 230 8 13 .int := ⟨RX8, TX8, 63, tyX8, rfl, by decide, gt_in 1081 (by decide +kernel) (by decide +kernel), uw_X8, rfl, tyX8_ok, nmX8, by decide +kernel, rfl⟩
theorem ft_X8_233 : FT RX8 233 8 32 .int := ⟨RX8, TX8, 63, tyX8, rfl, by decide, gt_in 1100 (by decide +kernel) (by decide +kernel), uw_X8, rfl, tyX8_ok, nmX8, by decide +kernel, rfl⟩
theorem ft_X8_236 : FT RX8 236 8 56 .int := ⟨RX8, TX8, 63, tyX8, rfl, by decide, gt_in 1124 (by decide +kernel) (by decide +kernel), uw_X8, rfl, tyX8_ok, nmX8, by decide +kernel, rfl⟩
theorem ft_X8_65 : FT RX8 65 8 35 (.array .boolean) := ⟨RX8, TX8, 63, tyX8, rfl, by decide, gt_in 1103 (by decide +kernel) (by decide +kernel), uw_X8, rfl, tyX8_ok, nmX8, by decide +kernel, rfl⟩
theorem ft_X8_38 : FT RX8 38 8 17 (.array .int) := ⟨RX8, TX8, 63, tyX8, rfl, by decide, gt_in 1085 (by decide +kernel) (by decide +kernel), uw_X8, rfl, tyX8_ok, nmX8, by decide +kernel, rfl⟩
theorem ft_X8_41 : FT RX8 41 8 18 (.array .int) := ⟨RX8, TX8, 63, tyX8, rfl, by decide, gt_in 1086 (by decide +kernel) (by decide +kernel), uw_X8, rfl, tyX8_ok, nmX8, by decide +kernel, rfl⟩
theorem ft_X8_32 : FT RX8 32 8 15 (.array .int) := ⟨RX8, TX8, 63, tyX8, rfl, by decide, gt_in 1083 (by decide +kernel) (by decide +kernel), uw_X8, rfl, tyX8_ok, nmX8, by decide +kernel, rfl⟩
theorem ft_X8_35 : FT RX8 35 8 16 (.array .int) := ⟨RX8, TX8, 63, tyX8, rfl, by decide, gt_in 1084 (by decide +kernel) (by decide +kernel), uw_X8, rfl, tyX8_ok, nmX8, by decide +kernel, rfl⟩
theorem ft_X8_29 : FT RX8 29 8 14 (.array .int) := ⟨RX8, TX8, 63, tyX8, rfl, by decide, gt_in 1082 (by decide +kernel) (by decide +kernel), uw_X8, rfl, tyX8_ok, nmX8, by decide +kernel, rfl⟩
theorem ml_X8_239 : Cond.methodLink RX8 239 yX8_cellMany ∈ gt := gt_in 1483 (by decide +kernel) (by decide +kernel)
theorem ft_X8_56 : FT RX8 56 8 30 (.array .int) := ⟨RX8, TX8, 63, tyX8, rfl, by decide, gt_in 1098 (by decide +kernel) (by decide +kernel), uw_X8, rfl, tyX8_ok, nmX8, by decide +kernel, rfl⟩
theorem ml_X8_243 : Cond.methodLink RX8 243 yX8_otherEnd ∈ gt := gt_in 1388 (by decide +kernel) (by decide +kernel)
theorem ml_X8_246 : Cond.methodLink RX8 246 yX8_farOf ∈ gt := gt_in 1416 (by decide +kernel) (by decide +kernel)
theorem ml_X8_249 : Cond.methodLink RX8 249 yX8_reachOf ∈ gt := gt_in 1412 (by decide +kernel) (by decide +kernel)
theorem ml_X8_252 : Cond.methodLink RX8 252 yX8_isKeptChain ∈ gt := gt_in 1460 (by decide +kernel) (by decide +kernel)
theorem ft_X8_255 : FT RX8 255 8 31 .int := ⟨RX8, TX8, 63, tyX8, rfl, by decide, gt_in 1099 (by decide +kernel) (by decide +kernel), uw_X8, rfl, tyX8_ok, nmX8, by decide +kernel, rfl⟩
theorem ml_X8_258 : Cond.methodLink RX8 258 yX8_isChained ∈ gt := gt_in 1428 (by decide +kernel) (by decide +kernel)
theorem ml_X8_261 : Cond.methodLink RX8 261 yX8_mayGo ∈ gt := gt_in 1440 (by decide +kernel) (by decide +kernel)
theorem ml_X8_265 : Cond.methodLink RX8 265 yX8_nextCell ∈ gt := gt_in 1444 (by decide +kernel) (by decide +kernel)
theorem ml_X8_268 : Cond.methodLink RX8 268 yX8_whoOn ∈ gt := gt_in 1448 (by decide +kernel) (by decide +kernel)
theorem ml_X8_271 : Cond.methodLink RX8 271 yX8_isWet ∈ gt := gt_in 1452 (by decide +kernel) (by decide +kernel)
theorem ml_X8_274 : Cond.methodLink RX8 274 yX8_findTaken ∈ gt := gt_in 1456 (by decide +kernel) (by decide +kernel)
theorem ml_X8_278 : Cond.methodLink RX8 278 yX8_allKept ∈ gt := gt_in 1464 (by decide +kernel) (by decide +kernel)
theorem ft_X8_59 : FT RX8 59 8 33 (.array .int) := ⟨RX8, TX8, 63, tyX8, rfl, by decide, gt_in 1101 (by decide +kernel) (by decide +kernel), uw_X8, rfl, tyX8_ok, nmX8, by decide +kernel, rfl⟩
theorem ml_X8_284 : Cond.methodLink RX8 284 yX8_steppedOf ∈ gt := gt_in 1392 (by decide +kernel) (by decide +kernel)
theorem ml_X8_281 : Cond.methodLink RX8 281 yX8_chainsOf ∈ gt := gt_in 1384 (by decide +kernel) (by decide +kernel)
theorem ml_X8_287 : Cond.methodLink RX8 287 yX8_isMan ∈ gt := gt_in 1376 (by decide +kernel) (by decide +kernel)
theorem ml_X8_290 : Cond.methodLink RX8 290 yX8_manTells ∈ gt := gt_in 1380 (by decide +kernel) (by decide +kernel)
theorem ml_X8_293 : Cond.methodLink RX8 293 yX8_lookAtNow ∈ gt := gt_in 1408 (by decide +kernel) (by decide +kernel)
theorem ml_X8_296 : Cond.methodLink RX8 296 yX8_isChain ∈ gt := gt_in 1400 (by decide +kernel) (by decide +kernel)
theorem ml_X8_299 : Cond.methodLink RX8 299 yX8_chainTells ∈ gt := gt_in 1404 (by decide +kernel) (by decide +kernel)
theorem ml_X8_317 : Cond.methodLink RX8 317 yX8_steps ∈ gt := gt_in 1436 (by decide +kernel) (by decide +kernel)
theorem ml_X8_302 : Cond.methodLink RX8 302 yX8_chainedTo ∈ gt := gt_in 1424 (by decide +kernel) (by decide +kernel)
theorem ml_X8_305 : Cond.methodLink RX8 305 yX8_waysOf ∈ gt := gt_in 1432 (by decide +kernel) (by decide +kernel)
theorem ml_X8_308 : Cond.methodLink RX8 308 yX8_bits ∈ gt := gt_in 1468 (by decide +kernel) (by decide +kernel)
theorem ml_X8_311 : Cond.methodLink RX8 311 yX8_farFrom ∈ gt := gt_in 1471 (by decide +kernel) (by decide +kernel)
theorem ml_X8_314 : Cond.methodLink RX8 314 yX8_leastReach ∈ gt := gt_in 1475 (by decide +kernel) (by decide +kernel)
theorem ft_X8_62 : FT RX8 62 8 34 (.array .int) := ⟨RX8, TX8, 63, tyX8, rfl, by decide, gt_in 1102 (by decide +kernel) (by decide +kernel), uw_X8, rfl, tyX8_ok, nmX8, by decide +kernel, rfl⟩
theorem ml_X8_320 : Cond.methodLink RX8 320 yX8_takeLook ∈ gt := gt_in 1495 (by decide +kernel) (by decide +kernel)
theorem ml_X8_323 : Cond.methodLink RX8 323 yX8_isCell ∈ gt := gt_in 1511 (by decide +kernel) (by decide +kernel)
theorem ft_X8_69 : FT RX8 69 8 36 (.array .int) := ⟨RX8, TX8, 63, tyX8, rfl, by decide, gt_in 1104 (by decide +kernel) (by decide +kernel), uw_X8, rfl, tyX8_ok, nmX8, by decide +kernel, rfl⟩
theorem ft_X8_72 : FT RX8 72 8 37 (.array .int) := ⟨RX8, TX8, 63, tyX8, rfl, by decide, gt_in 1105 (by decide +kernel) (by decide +kernel), uw_X8, rfl, tyX8_ok, nmX8, by decide +kernel, rfl⟩
theorem ft_X8_84 : FT RX8 84 8 41 (.array .int) := ⟨RX8, TX8, 63, tyX8, rfl, by decide, gt_in 1109 (by decide +kernel) (by decide +kernel), uw_X8, rfl, tyX8_ok, nmX8, by decide +kernel, rfl⟩
theorem ft_X8_81 : FT RX8 81 8 40 (.array .int) := ⟨RX8, TX8, 63, tyX8, rfl, by decide, gt_in 1108 (by decide +kernel) (by decide +kernel), uw_X8, rfl, tyX8_ok, nmX8, by decide +kernel, rfl⟩
theorem ft_X8_75 : FT RX8 75 8 38 (.array .int) := ⟨RX8, TX8, 63, tyX8, rfl, by decide, gt_in 1106 (by decide +kernel) (by decide +kernel), uw_X8, rfl, tyX8_ok, nmX8, by decide +kernel, rfl⟩
theorem ft_X8_78 : FT RX8 78 8 39 (.array .int) := ⟨RX8, TX8, 63, tyX8, rfl, by decide, gt_in 1107 (by decide +kernel) (by decide +kernel), uw_X8, rfl, tyX8_ok, nmX8, by decide +kernel, rfl⟩
theorem ml_X8_336 : Cond.methodLink RX8 336 yX8_codeOf ∈ gt := gt_in 1535 (by decide +kernel) (by decide +kernel)
theorem ft_X8_90 : FT RX8 90 8 44 (.array .int) := ⟨RX8, TX8, 63, tyX8, rfl, by decide, gt_in 1112 (by decide +kernel) (by decide +kernel), uw_X8, rfl, tyX8_ok, nmX8, by decide +kernel, rfl⟩
theorem ft_X8_93 : FT RX8 93 8 45 (.array .int) := ⟨RX8, TX8, 63, tyX8, rfl, by decide, gt_in 1113 (by decide +kernel) (by decide +kernel), uw_X8, rfl, tyX8_ok, nmX8, by decide +kernel, rfl⟩
theorem ft_X8_96 : FT RX8 96 8 46 (.array .int) := ⟨RX8, TX8, 63, tyX8, rfl, by decide, gt_in 1114 (by decide +kernel) (by decide +kernel), uw_X8, rfl, tyX8_ok, nmX8, by decide +kernel, rfl⟩
theorem ft_X8_87 : FT RX8 87 8 43 (.array .int) := ⟨RX8, TX8, 63, tyX8, rfl, by decide, gt_in 1111 (by decide +kernel) (by decide +kernel), uw_X8, rfl, tyX8_ok, nmX8, by decide +kernel, rfl⟩
theorem ft_X8_326 : FT RX8 326 8 42 .int := ⟨RX8, TX8, 63, tyX8, rfl, by decide, gt_in 1110 (by decide +kernel) (by decide +kernel), uw_X8, rfl, tyX8_ok, nmX8, by decide +kernel, rfl⟩
theorem ml_X8_329 : Cond.methodLink RX8 329 yX8_lookAt ∈ gt := gt_in 1543 (by decide +kernel) (by decide +kernel)
theorem ml_X8_332 : Cond.methodLink RX8 332 yX8_meetsStand ∈ gt := gt_in 1547 (by decide +kernel) (by decide +kernel)
theorem ml_X8_339 : Cond.methodLink RX8 339 yX8_layStands ∈ gt := gt_in 1539 (by decide +kernel) (by decide +kernel)
theorem ft_X8_99 : FT RX8 99 8 47 (.array .int) := ⟨RX8, TX8, 63, tyX8, rfl, by decide, gt_in 1115 (by decide +kernel) (by decide +kernel), uw_X8, rfl, tyX8_ok, nmX8, by decide +kernel, rfl⟩
theorem ml_X8_342 : Cond.methodLink RX8 342 yX8_isWanted ∈ gt := gt_in 1555 (by decide +kernel) (by decide +kernel)
theorem ml_X8_345 : Cond.methodLink RX8 345 yX8_layFromNow ∈ gt := gt_in 1531 (by decide +kernel) (by decide +kernel)
theorem ml_X8_348 : Cond.methodLink RX8 348 yX8_needWanted ∈ gt := gt_in 1527 (by decide +kernel) (by decide +kernel)
theorem ml_X8_352 : Cond.methodLink RX8 352 yX8_firstWanted ∈ gt := gt_in 1551 (by decide +kernel) (by decide +kernel)
theorem ml_X8_355 : Cond.methodLink RX8 355 yX8_firstStep ∈ gt := gt_in 1559 (by decide +kernel) (by decide +kernel)
theorem ml_X8_358 : Cond.methodLink RX8 358 yX8_has ∈ gt := gt_in 1575 (by decide +kernel) (by decide +kernel)
theorem ml_X8_361 : Cond.methodLink RX8 361 yX8_isStand ∈ gt := gt_in 1590 (by decide +kernel) (by decide +kernel)
theorem ft_X8_105 : FT RX8 105 8 50 (.array .int) := ⟨RX8, TX8, 63, tyX8, rfl, by decide, gt_in 1118 (by decide +kernel) (by decide +kernel), uw_X8, rfl, tyX8_ok, nmX8, by decide +kernel, rfl⟩
theorem ft_X8_108 : FT RX8 108 8 51 (.array .int) := ⟨RX8, TX8, 63, tyX8, rfl, by decide, gt_in 1119 (by decide +kernel) (by decide +kernel), uw_X8, rfl, tyX8_ok, nmX8, by decide +kernel, rfl⟩
theorem ft_X8_364 : FT RX8 364 8 48 .int := ⟨RX8, TX8, 63, tyX8, rfl, by decide, gt_in 1116 (by decide +kernel) (by decide +kernel), uw_X8, rfl, tyX8_ok, nmX8, by decide +kernel, rfl⟩
theorem ft_X8_102 : FT RX8 102 8 49 (.array .int) := ⟨RX8, TX8, 63, tyX8, rfl, by decide, gt_in 1117 (by decide +kernel) (by decide +kernel), uw_X8, rfl, tyX8_ok, nmX8, by decide +kernel, rfl⟩
theorem ml_X8_367 : Cond.methodLink RX8 367 yX8_needWants ∈ gt := gt_in 1598 (by decide +kernel) (by decide +kernel)
theorem ml_X8_370 : Cond.methodLink RX8 370 yX8_meetsWant ∈ gt := gt_in 1602 (by decide +kernel) (by decide +kernel)
theorem ft_X8_111 : FT RX8 111 8 52 (.array .int) := ⟨RX8, TX8, 63, tyX8, rfl, by decide, gt_in 1120 (by decide +kernel) (by decide +kernel), uw_X8, rfl, tyX8_ok, nmX8, by decide +kernel, rfl⟩
theorem ml_X8_379 : Cond.methodLink RX8 379 yX8_layOrders ∈ gt := gt_in 1611 (by decide +kernel) (by decide +kernel)
theorem ft_X8_373 : FT RX8 373 8 54 .int := ⟨RX8, TX8, 63, tyX8, rfl, by decide, gt_in 1122 (by decide +kernel) (by decide +kernel), uw_X8, rfl, tyX8_ok, nmX8, by decide +kernel, rfl⟩
theorem ft_X8_376 : FT RX8 376 8 55 .int := ⟨RX8, TX8, 63, tyX8, rfl, by decide, gt_in 1123 (by decide +kernel) (by decide +kernel), uw_X8, rfl, tyX8_ok, nmX8, by decide +kernel, rfl⟩
theorem ft_X8_114 : FT RX8 114 8 53 (.array .int) := ⟨RX8, TX8, 63, tyX8, rfl, by decide, gt_in 1121 (by decide +kernel) (by decide +kernel), uw_X8, rfl, tyX8_ok, nmX8, by decide +kernel, rfl⟩
theorem cn_X8_383 : Cond.constant RX8 383 (99999) ∈ gt := gt_in 1610 (by decide +kernel) (by decide +kernel)
theorem ml_X8_384 : Cond.methodLink RX8 384 yX8_needKeys ∈ gt := gt_in 1619 (by decide +kernel) (by decide +kernel)
theorem ml_X8_387 : Cond.methodLink RX8 387 yX8_shutSet ∈ gt := gt_in 1623 (by decide +kernel) (by decide +kernel)
theorem ml_X8_390 : Cond.methodLink RX8 390 yX8_keysFor ∈ gt := gt_in 1627 (by decide +kernel) (by decide +kernel)
theorem ft_X8_117 : FT RX8 117 8 57 (.array .int) := ⟨RX8, TX8, 63, tyX8, rfl, by decide, gt_in 1125 (by decide +kernel) (by decide +kernel), uw_X8, rfl, tyX8_ok, nmX8, by decide +kernel, rfl⟩
theorem ft_X8_120 : FT RX8 120 8 58 (.array .int) := ⟨RX8, TX8, 63, tyX8, rfl, by decide, gt_in 1126 (by decide +kernel) (by decide +kernel), uw_X8, rfl, tyX8_ok, nmX8, by decide +kernel, rfl⟩
theorem ft_X8_123 : FT RX8 123 8 59 (.array .int) := ⟨RX8, TX8, 63, tyX8, rfl, by decide, gt_in 1127 (by decide +kernel) (by decide +kernel), uw_X8, rfl, tyX8_ok, nmX8, by decide +kernel, rfl⟩
theorem ml_X8_399 : Cond.methodLink RX8 399 yX8_layChained ∈ gt := gt_in 1655 (by decide +kernel) (by decide +kernel)
theorem ml_X8_393 : Cond.methodLink RX8 393 yX8_quarrelsNow ∈ gt := gt_in 1659 (by decide +kernel) (by decide +kernel)
theorem ft_X8_396 : FT RX8 396 8 61 .int := ⟨RX8, TX8, 63, tyX8, rfl, by decide, gt_in 1129 (by decide +kernel) (by decide +kernel), uw_X8, rfl, tyX8_ok, nmX8, by decide +kernel, rfl⟩
theorem ft_X8_126 : FT RX8 126 8 60 (.array .int) := ⟨RX8, TX8, 63, tyX8, rfl, by decide, gt_in 1128 (by decide +kernel) (by decide +kernel), uw_X8, rfl, tyX8_ok, nmX8, by decide +kernel, rfl⟩
theorem cn_X8_402 : Cond.constant RX8 402 (2147483646) ∈ gt := gt_in 1667 (by decide +kernel) (by decide +kernel)
theorem cn_X8_403 : Cond.constantLong RX8 403 (48271) ∈ gt := gt_in 1668 (by decide +kernel) (by decide +kernel)
theorem cn_X8_405 : Cond.constantLong RX8 405 (2147483647) ∈ gt := gt_in 1669 (by decide +kernel) (by decide +kernel)
theorem cn_X8_407 : Cond.constantLong RX8 407 (64) ∈ gt := gt_in 1670 (by decide +kernel) (by decide +kernel)
theorem cn_X8_409 : Cond.constantLong RX8 409 (4) ∈ gt := gt_in 1671 (by decide +kernel) (by decide +kernel)
theorem ml_X8_411 : Cond.methodLink RX8 411 yX8_stepsNow ∈ gt := gt_in 1676 (by decide +kernel) (by decide +kernel)
theorem ml_X8_414 : Cond.methodLink RX8 414 yX8_common ∈ gt := gt_in 1680 (by decide +kernel) (by decide +kernel)
theorem ml_X8_417 : Cond.methodLink RX8 417 yX8_counted ∈ gt := gt_in 1692 (by decide +kernel) (by decide +kernel)
theorem cn_X8_420 : Cond.constantLong RX8 420 (31) ∈ gt := gt_in 1705 (by decide +kernel) (by decide +kernel)
theorem ft_X8_422 : FT RX8 422 8 62 .long := ⟨RX8, TX8, 63, tyX8, rfl, by decide, gt_in 1130 (by decide +kernel) (by decide +kernel), uw_X8, rfl, tyX8_ok, nmX8, by decide +kernel, rfl⟩
theorem ml_X8_426 : Cond.methodLink RX8 426 yX8_mix ∈ gt := gt_in 1701 (by decide +kernel) (by decide +kernel)
theorem cn_X8_430 : Cond.constantLong RX8 430 (-1) ∈ gt := gt_in 1710 (by decide +kernel) (by decide +kernel)
theorem cn_X8_432 : Cond.constantLong RX8 432 (17) ∈ gt := gt_in 1700 (by decide +kernel) (by decide +kernel)
theorem ml_X8_434 : Cond.methodLink RX8 434 yX8_mixYard ∈ gt := gt_in 1706 (by decide +kernel) (by decide +kernel)
theorem ml_L_13 : Cond.methodLink RL 13 yX7_row ∈ gt := gt_in 448 (by decide +kernel) (by decide +kernel)
theorem ml_L_17 : Cond.methodLink RL 17 yX8_row ∈ gt := gt_in 1275 (by decide +kernel) (by decide +kernel)
theorem ml_L_18 : Cond.methodLink RL 18 yX7_lay ∈ gt := gt_in 469 (by decide +kernel) (by decide +kernel)
theorem ml_L_22 : Cond.methodLink RL 22 yX8_lay ∈ gt := gt_in 1286 (by decide +kernel) (by decide +kernel)
theorem ml_L_23 : Cond.methodLink RL 23 yX7_at ∈ gt := gt_in 499 (by decide +kernel) (by decide +kernel)
theorem ml_L_26 : Cond.methodLink RL 26 yX8_at ∈ gt := gt_in 1298 (by decide +kernel) (by decide +kernel)
theorem ml_L_27 : Cond.methodLink RL 27 yX7_tear ∈ gt := gt_in 503 (by decide +kernel) (by decide +kernel)
theorem ml_L_31 : Cond.methodLink RL 31 yX8_tear ∈ gt := gt_in 1302 (by decide +kernel) (by decide +kernel)
theorem ml_L_32 : Cond.methodLink RL 32 yX7_copy ∈ gt := gt_in 511 (by decide +kernel) (by decide +kernel)
theorem ml_L_36 : Cond.methodLink RL 36 yX8_copy ∈ gt := gt_in 1306 (by decide +kernel) (by decide +kernel)
theorem ml_L_37 : Cond.methodLink RL 37 yX7_mean ∈ gt := gt_in 522 (by decide +kernel) (by decide +kernel)
theorem ml_L_40 : Cond.methodLink RL 40 yX8_mean ∈ gt := gt_in 1310 (by decide +kernel) (by decide +kernel)
theorem ml_L_41 : Cond.methodLink RL 41 yX7_text ∈ gt := gt_in 530 (by decide +kernel) (by decide +kernel)
theorem ml_L_44 : Cond.methodLink RL 44 yX8_text ∈ gt := gt_in 1314 (by decide +kernel) (by decide +kernel)
theorem ml_L_45 : Cond.methodLink RL 45 yX7_put ∈ gt := gt_in 534 (by decide +kernel) (by decide +kernel)
theorem ml_L_48 : Cond.methodLink RL 48 yX8_put ∈ gt := gt_in 1321 (by decide +kernel) (by decide +kernel)
theorem ml_L_49 : Cond.methodLink RL 49 yX7_fault ∈ gt := gt_in 538 (by decide +kernel) (by decide +kernel)
theorem ml_L_52 : Cond.methodLink RL 52 yX8_fault ∈ gt := gt_in 1325 (by decide +kernel) (by decide +kernel)
theorem ml_L_53 : Cond.methodLink RL 53 yX7_yard ∈ gt := gt_in 623 (by decide +kernel) (by decide +kernel)
theorem ml_L_56 : Cond.methodLink RL 56 yX8_yard ∈ gt := gt_in 1368 (by decide +kernel) (by decide +kernel)
theorem ml_L_57 : Cond.methodLink RL 57 yX7_man ∈ gt := gt_in 637 (by decide +kernel) (by decide +kernel)
theorem ml_L_60 : Cond.methodLink RL 60 yX8_man ∈ gt := gt_in 1372 (by decide +kernel) (by decide +kernel)
theorem ml_L_61 : Cond.methodLink RL 61 yX7_chain ∈ gt := gt_in 671 (by decide +kernel) (by decide +kernel)
theorem ml_L_64 : Cond.methodLink RL 64 yX8_chain ∈ gt := gt_in 1396 (by decide +kernel) (by decide +kernel)
theorem ml_L_65 : Cond.methodLink RL 65 yX7_mark ∈ gt := gt_in 689 (by decide +kernel) (by decide +kernel)
theorem ml_L_68 : Cond.methodLink RL 68 yX8_mark ∈ gt := gt_in 1420 (by decide +kernel) (by decide +kernel)
theorem ml_L_69 : Cond.methodLink RL 69 yX7_tide ∈ gt := gt_in 735 (by decide +kernel) (by decide +kernel)
theorem ml_L_72 : Cond.methodLink RL 72 yX8_tide ∈ gt := gt_in 1479 (by decide +kernel) (by decide +kernel)
theorem ml_L_73 : Cond.methodLink RL 73 yX7_open ∈ gt := gt_in 739 (by decide +kernel) (by decide +kernel)
theorem ml_L_76 : Cond.methodLink RL 76 yX8_open ∈ gt := gt_in 1487 (by decide +kernel) (by decide +kernel)
theorem ml_L_77 : Cond.methodLink RL 77 yX7_step ∈ gt := gt_in 743 (by decide +kernel) (by decide +kernel)
theorem ml_L_80 : Cond.methodLink RL 80 yX8_step ∈ gt := gt_in 1491 (by decide +kernel) (by decide +kernel)
theorem ml_L_81 : Cond.methodLink RL 81 yX7_can ∈ gt := gt_in 754 (by decide +kernel) (by decide +kernel)
theorem ml_L_84 : Cond.methodLink RL 84 yX8_can ∈ gt := gt_in 1499 (by decide +kernel) (by decide +kernel)
theorem ml_L_85 : Cond.methodLink RL 85 yX7_undo ∈ gt := gt_in 758 (by decide +kernel) (by decide +kernel)
theorem ml_L_88 : Cond.methodLink RL 88 yX8_undo ∈ gt := gt_in 1503 (by decide +kernel) (by decide +kernel)
theorem ml_L_89 : Cond.methodLink RL 89 yX7_who ∈ gt := gt_in 766 (by decide +kernel) (by decide +kernel)
theorem ml_L_92 : Cond.methodLink RL 92 yX8_who ∈ gt := gt_in 1507 (by decide +kernel) (by decide +kernel)
theorem ml_L_93 : Cond.methodLink RL 93 yX7_keep ∈ gt := gt_in 774 (by decide +kernel) (by decide +kernel)
theorem ml_L_96 : Cond.methodLink RL 96 yX8_keep ∈ gt := gt_in 1515 (by decide +kernel) (by decide +kernel)
theorem ml_L_97 : Cond.methodLink RL 97 yX7_on ∈ gt := gt_in 783 (by decide +kernel) (by decide +kernel)
theorem ml_L_100 : Cond.methodLink RL 100 yX8_on ∈ gt := gt_in 1519 (by decide +kernel) (by decide +kernel)
theorem ml_L_101 : Cond.methodLink RL 101 yX7_near ∈ gt := gt_in 787 (by decide +kernel) (by decide +kernel)
theorem ml_L_104 : Cond.methodLink RL 104 yX8_near ∈ gt := gt_in 1523 (by decide +kernel) (by decide +kernel)
theorem ml_L_105 : Cond.methodLink RL 105 yX7_path ∈ gt := gt_in 843 (by decide +kernel) (by decide +kernel)
theorem ml_L_108 : Cond.methodLink RL 108 yX8_path ∈ gt := gt_in 1563 (by decide +kernel) (by decide +kernel)
theorem ml_L_109 : Cond.methodLink RL 109 yX7_reach ∈ gt := gt_in 847 (by decide +kernel) (by decide +kernel)
theorem ml_L_113 : Cond.methodLink RL 113 yX8_reach ∈ gt := gt_in 1567 (by decide +kernel) (by decide +kernel)
theorem ml_L_114 : Cond.methodLink RL 114 yX7_where ∈ gt := gt_in 851 (by decide +kernel) (by decide +kernel)
theorem ml_L_117 : Cond.methodLink RL 117 yX8_where ∈ gt := gt_in 1571 (by decide +kernel) (by decide +kernel)
theorem ml_L_118 : Cond.methodLink RL 118 yX7_meet ∈ gt := gt_in 855 (by decide +kernel) (by decide +kernel)
theorem ml_L_121 : Cond.methodLink RL 121 yX8_meet ∈ gt := gt_in 1578 (by decide +kernel) (by decide +kernel)
theorem ml_L_122 : Cond.methodLink RL 122 yX7_window ∈ gt := gt_in 859 (by decide +kernel) (by decide +kernel)
theorem ml_L_125 : Cond.methodLink RL 125 yX8_window ∈ gt := gt_in 1582 (by decide +kernel) (by decide +kernel)
theorem ml_L_126 : Cond.methodLink RL 126 yX7_comes ∈ gt := gt_in 868 (by decide +kernel) (by decide +kernel)
theorem ml_L_129 : Cond.methodLink RL 129 yX8_comes ∈ gt := gt_in 1586 (by decide +kernel) (by decide +kernel)
theorem ml_L_130 : Cond.methodLink RL 130 yX7_fetch ∈ gt := gt_in 882 (by decide +kernel) (by decide +kernel)
theorem ml_L_133 : Cond.methodLink RL 133 yX8_fetch ∈ gt := gt_in 1594 (by decide +kernel) (by decide +kernel)
theorem ml_L_134 : Cond.methodLink RL 134 yX7_order ∈ gt := gt_in 907 (by decide +kernel) (by decide +kernel)
theorem ml_L_137 : Cond.methodLink RL 137 yX8_order ∈ gt := gt_in 1606 (by decide +kernel) (by decide +kernel)
theorem ml_L_138 : Cond.methodLink RL 138 yX7_keys ∈ gt := gt_in 933 (by decide +kernel) (by decide +kernel)
theorem ml_L_141 : Cond.methodLink RL 141 yX8_keys ∈ gt := gt_in 1615 (by decide +kernel) (by decide +kernel)
theorem ml_L_142 : Cond.methodLink RL 142 yX7_free ∈ gt := gt_in 949 (by decide +kernel) (by decide +kernel)
theorem ml_L_145 : Cond.methodLink RL 145 yX8_free ∈ gt := gt_in 1631 (by decide +kernel) (by decide +kernel)
theorem ml_L_146 : Cond.methodLink RL 146 yX7_filed ∈ gt := gt_in 953 (by decide +kernel) (by decide +kernel)
theorem ml_L_149 : Cond.methodLink RL 149 yX8_filed ∈ gt := gt_in 1635 (by decide +kernel) (by decide +kernel)
theorem ml_L_150 : Cond.methodLink RL 150 yX7_judge ∈ gt := gt_in 961 (by decide +kernel) (by decide +kernel)
theorem ml_L_153 : Cond.methodLink RL 153 yX8_judge ∈ gt := gt_in 1639 (by decide +kernel) (by decide +kernel)
theorem ml_L_154 : Cond.methodLink RL 154 yX7_quarrel ∈ gt := gt_in 973 (by decide +kernel) (by decide +kernel)
theorem ml_L_157 : Cond.methodLink RL 157 yX8_quarrel ∈ gt := gt_in 1643 (by decide +kernel) (by decide +kernel)
theorem ml_L_158 : Cond.methodLink RL 158 yX7_peace ∈ gt := gt_in 977 (by decide +kernel) (by decide +kernel)
theorem ml_L_161 : Cond.methodLink RL 161 yX8_peace ∈ gt := gt_in 1647 (by decide +kernel) (by decide +kernel)
theorem ml_L_162 : Cond.methodLink RL 162 yX7_easter ∈ gt := gt_in 981 (by decide +kernel) (by decide +kernel)
theorem ml_L_165 : Cond.methodLink RL 165 yX8_easter ∈ gt := gt_in 1651 (by decide +kernel) (by decide +kernel)
theorem ml_L_166 : Cond.methodLink RL 166 yX7_lots ∈ gt := gt_in 997 (by decide +kernel) (by decide +kernel)
theorem ml_L_169 : Cond.methodLink RL 169 yX8_lots ∈ gt := gt_in 1663 (by decide +kernel) (by decide +kernel)
theorem ml_L_170 : Cond.methodLink RL 170 yX7_asked ∈ gt := gt_in 1006 (by decide +kernel) (by decide +kernel)
theorem ml_L_173 : Cond.methodLink RL 173 yX8_asked ∈ gt := gt_in 1271 (by decide +kernel) (by decide +kernel)
theorem ml_L_174 : Cond.methodLink RL 174 yX7_upper ∈ gt := gt_in 1010 (by decide +kernel) (by decide +kernel)
theorem ml_L_178 : Cond.methodLink RL 178 yX8_upper ∈ gt := gt_in 1672 (by decide +kernel) (by decide +kernel)
theorem ml_L_179 : Cond.methodLink RL 179 yX7_lower ∈ gt := gt_in 1022 (by decide +kernel) (by decide +kernel)
theorem ml_L_182 : Cond.methodLink RL 182 yX8_lower ∈ gt := gt_in 1684 (by decide +kernel) (by decide +kernel)
theorem ml_L_183 : Cond.methodLink RL 183 yX7_count ∈ gt := gt_in 1026 (by decide +kernel) (by decide +kernel)
theorem ml_L_186 : Cond.methodLink RL 186 yX8_count ∈ gt := gt_in 1688 (by decide +kernel) (by decide +kernel)
theorem ml_L_187 : Cond.methodLink RL 187 yX7_finding ∈ gt := gt_in 1042 (by decide +kernel) (by decide +kernel)
theorem ml_L_190 : Cond.methodLink RL 190 yX8_finding ∈ gt := gt_in 1260 (by decide +kernel) (by decide +kernel)
theorem ml_L_191 : Cond.methodLink RL 191 yX7_findings ∈ gt := gt_in 1046 (by decide +kernel) (by decide +kernel)
theorem ml_L_194 : Cond.methodLink RL 194 yX8_findings ∈ gt := gt_in 1264 (by decide +kernel) (by decide +kernel)
theorem ml_L_195 : Cond.methodLink RL 195 yX7_digest ∈ gt := gt_in 1050 (by decide +kernel) (by decide +kernel)
theorem ml_L_198 : Cond.methodLink RL 198 yX8_digest ∈ gt := gt_in 1696 (by decide +kernel) (by decide +kernel)
