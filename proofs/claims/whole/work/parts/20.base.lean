/-! plain rows on the picture -/
theorem gI_ne {h : Hp} {a k b j : Nat} {v : Int32} (hb : b ≠ a) : gI (sI h a k v) b j = gI h b j := by rw [gI_sI, if_neg (fun q => hb q.1)]
theorem gI_nk {h : Hp} {a k b j : Nat} {v : Int32} (hb : j ≠ k) : gI (sI h a k v) b j = gI h b j := by rw [gI_sI, if_neg (fun q => hb q.2)]
theorem gI_eq {h : Hp} {a k : Nat} {v : Int32} : gI (sI h a k v) a k = v := by rw [gI_sI, if_pos ⟨rfl, rfl⟩]
theorem gI_at {h : Hp} {a k j : Nat} {v : Int32} : gI (sI h a k v) a j = if j = k then v else gI h a j := by
  rw [gI_sI]
  by_cases q : j = k
  · rw [if_pos ⟨rfl, q⟩, if_pos q]
  · rw [if_neg (fun z => q z.2), if_neg q]
theorem gf_ne {h : Hp} {a k b : Nat} {v : Int32} (hb : b ≠ a) : gI (sI h a k v) b = gI h b := funext fun j => gI_ne hb
theorem gf_eq {h : Hp} {a k : Nat} {v : Int32} : gI (sI h a k v) a = upd (gI h a) k v := upd_gI.symm
theorem gA_ne {h : Hp} {a b : Nat} {f : Nat → Int32} (hb : b ≠ a) : gI (sA h a f) b = gI h b := funext fun j => by rw [gI_sA, if_neg hb]
theorem gA_eq {h : Hp} {a : Nat} {f : Nat → Int32} : gI (sA h a f) a = f := funext fun j => by rw [gI_sA, if_pos rfl]
theorem gfR {h : Hp} {a k b : Nat} {v : Option Nat} : gI (sR h a k v) b = gI h b := rfl
theorem gfL {h : Hp} {a k b : Nat} {v : Int64} : gI (sL h a k v) b = gI h b := rfl
theorem ld_n {h : Hp} {a n j : Nat} (hs : (sh a).2.2 = n) (hj : j < n) (hn : n < 200000) : ldI h a (nI j) = some (gI h a j) := by
  unfold ldI
  rw [hs, nI_toInt (by omega), nI_clamp (by omega), if_pos ⟨by omega, by omega⟩]
theorem st_n {h : Hp} {a n j : Nat} {v : Int32} (hs : (sh a).2.2 = n) (hj : j < n) (hn : n < 200000) : stI h a (nI j) v = some (sI h a j v) := by
  unfold stI
  rw [hs, nI_toInt (by omega), nI_clamp (by omega), if_pos ⟨by omega, by omega⟩]
theorem ldR_n {a n j : Nat} (hs : (sh a).2.2 = n) (hj : j < n) (hn : n < 200000) : ldR a (nI j) = some (rf a j) := by
  unfold ldR
  rw [hs, nI_toInt (by omega), nI_clamp (by omega), if_pos ⟨by omega, by omega⟩]
theorem ldT_n {t n j : Nat} (hs : stn t = n) (hj : j < n) (hn : n < 200000) : ldT t (nI j) = some (stv t j) := by
  unfold ldT
  rw [hs, nI_toInt (by omega), nI_clamp (by omega), if_pos ⟨by omega, by omega⟩]

theorem lit_0 : (0 : Int32) = nI 0 := rfl
theorem lit_1 : (1 : Int32) = nI 1 := rfl
theorem lit_2 : (2 : Int32) = nI 2 := rfl
theorem lit_3 : (3 : Int32) = nI 3 := rfl
theorem lit_4 : (4 : Int32) = nI 4 := rfl
theorem lit_5 : (5 : Int32) = nI 5 := rfl
theorem lit_6 : (6 : Int32) = nI 6 := rfl
theorem lit_7 : (7 : Int32) = nI 7 := rfl
theorem lit_8 : (8 : Int32) = nI 8 := rfl
theorem lit_9 : (9 : Int32) = nI 9 := rfl
theorem lit_10 : (10 : Int32) = nI 10 := rfl
theorem lit_11 : (11 : Int32) = nI 11 := rfl
theorem lit_12 : (12 : Int32) = nI 12 := rfl
theorem lit_13 : (13 : Int32) = nI 13 := rfl
theorem lit_14 : (14 : Int32) = nI 14 := rfl
theorem lit_15 : (15 : Int32) = nI 15 := rfl
theorem lit_16 : (16 : Int32) = nI 16 := rfl
theorem lit_25 : (25 : Int32) = nI 25 := rfl
theorem lit_31 : (31 : Int32) = nI 31 := rfl
theorem lit_32 : (32 : Int32) = nI 32 := rfl
theorem lit_35 : (35 : Int32) = nI 35 := rfl
theorem lit_40 : (40 : Int32) = nI 40 := rfl
theorem lit_46 : (46 : Int32) = nI 46 := rfl
theorem lit_47 : (47 : Int32) = nI 47 := rfl
theorem lit_48 : (48 : Int32) = nI 48 := rfl
theorem lit_49 : (49 : Int32) = nI 49 := rfl
theorem lit_57 : (57 : Int32) = nI 57 := rfl
theorem lit_60 : (60 : Int32) = nI 60 := rfl
theorem lit_61 : (61 : Int32) = nI 61 := rfl
theorem lit_63 : (63 : Int32) = nI 63 := rfl
theorem lit_64 : (64 : Int32) = nI 64 := rfl
theorem lit_97 : (97 : Int32) = nI 97 := rfl
theorem lit_100 : (100 : Int32) = nI 100 := rfl
theorem lit_108 : (108 : Int32) = nI 108 := rfl
theorem lit_109 : (109 : Int32) = nI 109 := rfl
theorem lit_114 : (114 : Int32) = nI 114 := rfl
theorem lit_115 : (115 : Int32) = nI 115 := rfl
theorem lit_116 : (116 : Int32) = nI 116 := rfl
theorem lit_119 : (119 : Int32) = nI 119 := rfl
theorem lit_144 : (144 : Int32) = nI 144 := rfl
theorem lit_160 : (160 : Int32) = nI 160 := rfl
theorem lit_240 : (240 : Int32) = nI 240 := rfl
theorem lit_1000 : (1000 : Int32) = nI 1000 := rfl
theorem lit_1728 : (1728 : Int32) = nI 1728 := rfl
theorem lit_11880 : (11880 : Int32) = nI 11880 := rfl
theorem lit_20736 : (20736 : Int32) = nI 20736 := rfl
theorem lit_97921 : (97921 : Int32) = nI 97921 := rfl
theorem lit_99999 : (99999 : Int32) = nI 99999 := rfl
theorem lit_2147483646 : (2147483646 : Int32) = nI 2147483646 := rfl
theorem ld_3 {h : Hp} {j : Nat} (hj : j < 40) : ldI h 3 (nI j) = some (gI h 3 j) := ld_n rfl hj (by decide)
theorem st_3 {h : Hp} {j : Nat} {v : Int32} (hj : j < 40) : stI h 3 (nI j) v = some (sI h 3 j v) := st_n rfl hj (by decide)
theorem ld_4 {h : Hp} {j : Nat} (hj : j < 40) : ldI h 4 (nI j) = some (gI h 4 j) := ld_n rfl hj (by decide)
theorem st_4 {h : Hp} {j : Nat} {v : Int32} (hj : j < 40) : stI h 4 (nI j) v = some (sI h 4 j v) := st_n rfl hj (by decide)
theorem ld_5 {h : Hp} {j : Nat} (hj : j < 40) : ldI h 5 (nI j) = some (gI h 5 j) := ld_n rfl hj (by decide)
theorem st_5 {h : Hp} {j : Nat} {v : Int32} (hj : j < 40) : stI h 5 (nI j) v = some (sI h 5 j v) := st_n rfl hj (by decide)
theorem ld_6 {h : Hp} {j : Nat} (hj : j < 40) : ldI h 6 (nI j) = some (gI h 6 j) := ld_n rfl hj (by decide)
theorem st_6 {h : Hp} {j : Nat} {v : Int32} (hj : j < 40) : stI h 6 (nI j) v = some (sI h 6 j v) := st_n rfl hj (by decide)
theorem ld_7 {h : Hp} {j : Nat} (hj : j < 40) : ldI h 7 (nI j) = some (gI h 7 j) := ld_n rfl hj (by decide)
theorem st_7 {h : Hp} {j : Nat} {v : Int32} (hj : j < 40) : stI h 7 (nI j) v = some (sI h 7 j v) := st_n rfl hj (by decide)
theorem ld_8 {h : Hp} {j : Nat} (hj : j < 40) : ldI h 8 (nI j) = some (gI h 8 j) := ld_n rfl hj (by decide)
theorem st_8 {h : Hp} {j : Nat} {v : Int32} (hj : j < 40) : stI h 8 (nI j) v = some (sI h 8 j v) := st_n rfl hj (by decide)
theorem ld_9 {h : Hp} {j : Nat} (hj : j < 6) : ldI h 9 (nI j) = some (gI h 9 j) := ld_n rfl hj (by decide)
theorem st_9 {h : Hp} {j : Nat} {v : Int32} (hj : j < 6) : stI h 9 (nI j) v = some (sI h 9 j v) := st_n rfl hj (by decide)
theorem ld_12 {h : Hp} {j : Nat} (hj : j < 40) : ldI h 12 (nI j) = some (gI h 12 j) := ld_n rfl hj (by decide)
theorem st_12 {h : Hp} {j : Nat} {v : Int32} (hj : j < 40) : stI h 12 (nI j) v = some (sI h 12 j v) := st_n rfl hj (by decide)
theorem ld_13 {h : Hp} {j : Nat} (hj : j < 40) : ldI h 13 (nI j) = some (gI h 13 j) := ld_n rfl hj (by decide)
theorem st_13 {h : Hp} {j : Nat} {v : Int32} (hj : j < 40) : stI h 13 (nI j) v = some (sI h 13 j v) := st_n rfl hj (by decide)
theorem ld_14 {h : Hp} {j : Nat} (hj : j < 40) : ldI h 14 (nI j) = some (gI h 14 j) := ld_n rfl hj (by decide)
theorem st_14 {h : Hp} {j : Nat} {v : Int32} (hj : j < 40) : stI h 14 (nI j) v = some (sI h 14 j v) := st_n rfl hj (by decide)
theorem ld_15 {h : Hp} {j : Nat} (hj : j < 40) : ldI h 15 (nI j) = some (gI h 15 j) := ld_n rfl hj (by decide)
theorem st_15 {h : Hp} {j : Nat} {v : Int32} (hj : j < 40) : stI h 15 (nI j) v = some (sI h 15 j v) := st_n rfl hj (by decide)
theorem ld_16 {h : Hp} {j : Nat} (hj : j < 4) : ldI h 16 (nI j) = some (gI h 16 j) := ld_n rfl hj (by decide)
theorem st_16 {h : Hp} {j : Nat} {v : Int32} (hj : j < 4) : stI h 16 (nI j) v = some (sI h 16 j v) := st_n rfl hj (by decide)
theorem ld_19 {h : Hp} {j : Nat} (hj : j < 60) : ldI h 19 (nI j) = some (gI h 19 j) := ld_n rfl hj (by decide)
theorem st_19 {h : Hp} {j : Nat} {v : Int32} (hj : j < 60) : stI h 19 (nI j) v = some (sI h 19 j v) := st_n rfl hj (by decide)
theorem ld_20 {h : Hp} {j : Nat} (hj : j < 60) : ldI h 20 (nI j) = some (gI h 20 j) := ld_n rfl hj (by decide)
theorem st_20 {h : Hp} {j : Nat} {v : Int32} (hj : j < 60) : stI h 20 (nI j) v = some (sI h 20 j v) := st_n rfl hj (by decide)
theorem ld_24 {h : Hp} {j : Nat} (hj : j < 11880) : ldI h 24 (nI j) = some (gI h 24 j) := ld_n rfl hj (by decide)
theorem st_24 {h : Hp} {j : Nat} {v : Int32} (hj : j < 11880) : stI h 24 (nI j) v = some (sI h 24 j v) := st_n rfl hj (by decide)
theorem ld_25 {h : Hp} {j : Nat} (hj : j < 11880) : ldI h 25 (nI j) = some (gI h 25 j) := ld_n rfl hj (by decide)
theorem st_25 {h : Hp} {j : Nat} {v : Int32} (hj : j < 11880) : stI h 25 (nI j) v = some (sI h 25 j v) := st_n rfl hj (by decide)
theorem ld_26 {h : Hp} {j : Nat} (hj : j < 11880) : ldI h 26 (nI j) = some (gI h 26 j) := ld_n rfl hj (by decide)
theorem st_26 {h : Hp} {j : Nat} {v : Int32} (hj : j < 11880) : stI h 26 (nI j) v = some (sI h 26 j v) := st_n rfl hj (by decide)
theorem ld_27 {h : Hp} {j : Nat} (hj : j < 11880) : ldI h 27 (nI j) = some (gI h 27 j) := ld_n rfl hj (by decide)
theorem st_27 {h : Hp} {j : Nat} {v : Int32} (hj : j < 11880) : stI h 27 (nI j) v = some (sI h 27 j v) := st_n rfl hj (by decide)
theorem ld_28 {h : Hp} {j : Nat} (hj : j < 20736) : ldI h 28 (nI j) = some (gI h 28 j) := ld_n rfl hj (by decide)
theorem st_28 {h : Hp} {j : Nat} {v : Int32} (hj : j < 20736) : stI h 28 (nI j) v = some (sI h 28 j v) := st_n rfl hj (by decide)
theorem ld_29 {h : Hp} {j : Nat} (hj : j < 20736) : ldI h 29 (nI j) = some (gI h 29 j) := ld_n rfl hj (by decide)
theorem st_29 {h : Hp} {j : Nat} {v : Int32} (hj : j < 20736) : stI h 29 (nI j) v = some (sI h 29 j v) := st_n rfl hj (by decide)
theorem ld_30 {h : Hp} {j : Nat} (hj : j < 97921) : ldI h 30 (nI j) = some (gI h 30 j) := ld_n rfl hj (by decide)
theorem st_30 {h : Hp} {j : Nat} {v : Int32} (hj : j < 97921) : stI h 30 (nI j) v = some (sI h 30 j v) := st_n rfl hj (by decide)
theorem ld_32 {h : Hp} {j : Nat} (hj : j < 5) : ldI h 32 (nI j) = some (gI h 32 j) := ld_n rfl hj (by decide)
theorem st_32 {h : Hp} {j : Nat} {v : Int32} (hj : j < 5) : stI h 32 (nI j) v = some (sI h 32 j v) := st_n rfl hj (by decide)
theorem ld_33 {h : Hp} {j : Nat} (hj : j < 5) : ldI h 33 (nI j) = some (gI h 33 j) := ld_n rfl hj (by decide)
theorem st_33 {h : Hp} {j : Nat} {v : Int32} (hj : j < 5) : stI h 33 (nI j) v = some (sI h 33 j v) := st_n rfl hj (by decide)
theorem ld_34 {h : Hp} {j : Nat} (hj : j < 5) : ldI h 34 (nI j) = some (gI h 34 j) := ld_n rfl hj (by decide)
theorem st_34 {h : Hp} {j : Nat} {v : Int32} (hj : j < 5) : stI h 34 (nI j) v = some (sI h 34 j v) := st_n rfl hj (by decide)
theorem ld_35 {h : Hp} {j : Nat} (hj : j < 5) : ldI h 35 (nI j) = some (gI h 35 j) := ld_n rfl hj (by decide)
theorem st_35 {h : Hp} {j : Nat} {v : Int32} (hj : j < 5) : stI h 35 (nI j) v = some (sI h 35 j v) := st_n rfl hj (by decide)
theorem ld_36 {h : Hp} {j : Nat} (hj : j < 25) : ldI h 36 (nI j) = some (gI h 36 j) := ld_n rfl hj (by decide)
theorem st_36 {h : Hp} {j : Nat} {v : Int32} (hj : j < 25) : stI h 36 (nI j) v = some (sI h 36 j v) := st_n rfl hj (by decide)
theorem ld_37 {h : Hp} {j : Nat} (hj : j < 25) : ldI h 37 (nI j) = some (gI h 37 j) := ld_n rfl hj (by decide)
theorem st_37 {h : Hp} {j : Nat} {v : Int32} (hj : j < 25) : stI h 37 (nI j) v = some (sI h 37 j v) := st_n rfl hj (by decide)
theorem ld_38 {h : Hp} {j : Nat} (hj : j < 8) : ldI h 38 (nI j) = some (gI h 38 j) := ld_n rfl hj (by decide)
theorem st_38 {h : Hp} {j : Nat} {v : Int32} (hj : j < 8) : stI h 38 (nI j) v = some (sI h 38 j v) := st_n rfl hj (by decide)
theorem ld_39 {h : Hp} {j : Nat} (hj : j < 8) : ldI h 39 (nI j) = some (gI h 39 j) := ld_n rfl hj (by decide)
theorem st_39 {h : Hp} {j : Nat} {v : Int32} (hj : j < 8) : stI h 39 (nI j) v = some (sI h 39 j v) := st_n rfl hj (by decide)
theorem ld_40 {h : Hp} {j : Nat} (hj : j < 6) : ldI h 40 (nI j) = some (gI h 40 j) := ld_n rfl hj (by decide)
theorem st_40 {h : Hp} {j : Nat} {v : Int32} (hj : j < 6) : stI h 40 (nI j) v = some (sI h 40 j v) := st_n rfl hj (by decide)
theorem ld_42 {h : Hp} {j : Nat} (hj : j < 4) : ldI h 42 (nI j) = some (gI h 42 j) := ld_n rfl hj (by decide)
theorem st_42 {h : Hp} {j : Nat} {v : Int32} (hj : j < 4) : stI h 42 (nI j) v = some (sI h 42 j v) := st_n rfl hj (by decide)
theorem ld_43 {h : Hp} {j : Nat} (hj : j < 4) : ldI h 43 (nI j) = some (gI h 43 j) := ld_n rfl hj (by decide)
theorem st_43 {h : Hp} {j : Nat} {v : Int32} (hj : j < 4) : stI h 43 (nI j) v = some (sI h 43 j v) := st_n rfl hj (by decide)
theorem ld_44 {h : Hp} {j : Nat} (hj : j < 4) : ldI h 44 (nI j) = some (gI h 44 j) := ld_n rfl hj (by decide)
theorem st_44 {h : Hp} {j : Nat} {v : Int32} (hj : j < 4) : stI h 44 (nI j) v = some (sI h 44 j v) := st_n rfl hj (by decide)
theorem ld_45 {h : Hp} {j : Nat} (hj : j < 4) : ldI h 45 (nI j) = some (gI h 45 j) := ld_n rfl hj (by decide)
theorem st_45 {h : Hp} {j : Nat} {v : Int32} (hj : j < 4) : stI h 45 (nI j) v = some (sI h 45 j v) := st_n rfl hj (by decide)
theorem ld_46 {h : Hp} {j : Nat} (hj : j < 144) : ldI h 46 (nI j) = some (gI h 46 j) := ld_n rfl hj (by decide)
theorem st_46 {h : Hp} {j : Nat} {v : Int32} (hj : j < 144) : stI h 46 (nI j) v = some (sI h 46 j v) := st_n rfl hj (by decide)
theorem ld_47 {h : Hp} {j : Nat} (hj : j < 48) : ldI h 47 (nI j) = some (gI h 47 j) := ld_n rfl hj (by decide)
theorem st_47 {h : Hp} {j : Nat} {v : Int32} (hj : j < 48) : stI h 47 (nI j) v = some (sI h 47 j v) := st_n rfl hj (by decide)
theorem ld_48 {h : Hp} {j : Nat} (hj : j < 16) : ldI h 48 (nI j) = some (gI h 48 j) := ld_n rfl hj (by decide)
theorem st_48 {h : Hp} {j : Nat} {v : Int32} (hj : j < 16) : stI h 48 (nI j) v = some (sI h 48 j v) := st_n rfl hj (by decide)
theorem ld_50 {h : Hp} {j : Nat} (hj : j < 4) : ldI h 50 (nI j) = some (gI h 50 j) := ld_n rfl hj (by decide)
theorem st_50 {h : Hp} {j : Nat} {v : Int32} (hj : j < 4) : stI h 50 (nI j) v = some (sI h 50 j v) := st_n rfl hj (by decide)
theorem ld_51 {h : Hp} {j : Nat} (hj : j < 4) : ldI h 51 (nI j) = some (gI h 51 j) := ld_n rfl hj (by decide)
theorem st_51 {h : Hp} {j : Nat} {v : Int32} (hj : j < 4) : stI h 51 (nI j) v = some (sI h 51 j v) := st_n rfl hj (by decide)
theorem ld_52 {h : Hp} {j : Nat} (hj : j < 4) : ldI h 52 (nI j) = some (gI h 52 j) := ld_n rfl hj (by decide)
theorem st_52 {h : Hp} {j : Nat} {v : Int32} (hj : j < 4) : stI h 52 (nI j) v = some (sI h 52 j v) := st_n rfl hj (by decide)
theorem ld_53 {h : Hp} {j : Nat} (hj : j < 4) : ldI h 53 (nI j) = some (gI h 53 j) := ld_n rfl hj (by decide)
theorem st_53 {h : Hp} {j : Nat} {v : Int32} (hj : j < 4) : stI h 53 (nI j) v = some (sI h 53 j v) := st_n rfl hj (by decide)
theorem ld_54 {h : Hp} {j : Nat} (hj : j < 144) : ldI h 54 (nI j) = some (gI h 54 j) := ld_n rfl hj (by decide)
theorem st_54 {h : Hp} {j : Nat} {v : Int32} (hj : j < 144) : stI h 54 (nI j) v = some (sI h 54 j v) := st_n rfl hj (by decide)
theorem ld_55 {h : Hp} {j : Nat} (hj : j < 48) : ldI h 55 (nI j) = some (gI h 55 j) := ld_n rfl hj (by decide)
theorem st_55 {h : Hp} {j : Nat} {v : Int32} (hj : j < 48) : stI h 55 (nI j) v = some (sI h 55 j v) := st_n rfl hj (by decide)
theorem ld_56 {h : Hp} {j : Nat} (hj : j < 16) : ldI h 56 (nI j) = some (gI h 56 j) := ld_n rfl hj (by decide)
theorem st_56 {h : Hp} {j : Nat} {v : Int32} (hj : j < 16) : stI h 56 (nI j) v = some (sI h 56 j v) := st_n rfl hj (by decide)
theorem ld_58 {h : Hp} {j : Nat} (hj : j < 60) : ldI h 58 (nI j) = some (gI h 58 j) := ld_n rfl hj (by decide)
theorem st_58 {h : Hp} {j : Nat} {v : Int32} (hj : j < 60) : stI h 58 (nI j) v = some (sI h 58 j v) := st_n rfl hj (by decide)
theorem ld_59 {h : Hp} {j : Nat} (hj : j < 60) : ldI h 59 (nI j) = some (gI h 59 j) := ld_n rfl hj (by decide)
theorem st_59 {h : Hp} {j : Nat} {v : Int32} (hj : j < 60) : stI h 59 (nI j) v = some (sI h 59 j v) := st_n rfl hj (by decide)
theorem ld_61 {h : Hp} {j : Nat} (hj : j < 60) : ldI h 61 (nI j) = some (gI h 61 j) := ld_n rfl hj (by decide)
theorem st_61 {h : Hp} {j : Nat} {v : Int32} (hj : j < 60) : stI h 61 (nI j) v = some (sI h 61 j v) := st_n rfl hj (by decide)
theorem ld_62 {h : Hp} {j : Nat} (hj : j < 60) : ldI h 62 (nI j) = some (gI h 62 j) := ld_n rfl hj (by decide)
theorem st_62 {h : Hp} {j : Nat} {v : Int32} (hj : j < 60) : stI h 62 (nI j) v = some (sI h 62 j v) := st_n rfl hj (by decide)
theorem ld_64 {h : Hp} {j : Nat} (hj : j < 60) : ldI h 64 (nI j) = some (gI h 64 j) := ld_n rfl hj (by decide)
theorem st_64 {h : Hp} {j : Nat} {v : Int32} (hj : j < 60) : stI h 64 (nI j) v = some (sI h 64 j v) := st_n rfl hj (by decide)
theorem ld_65 {h : Hp} {j : Nat} (hj : j < 60) : ldI h 65 (nI j) = some (gI h 65 j) := ld_n rfl hj (by decide)
theorem st_65 {h : Hp} {j : Nat} {v : Int32} (hj : j < 60) : stI h 65 (nI j) v = some (sI h 65 j v) := st_n rfl hj (by decide)
theorem ld_67 {h : Hp} {j : Nat} (hj : j < 6) : ldI h 67 (nI j) = some (gI h 67 j) := ld_n rfl hj (by decide)
theorem st_67 {h : Hp} {j : Nat} {v : Int32} (hj : j < 6) : stI h 67 (nI j) v = some (sI h 67 j v) := st_n rfl hj (by decide)
theorem ld_68 {h : Hp} {j : Nat} (hj : j < 6) : ldI h 68 (nI j) = some (gI h 68 j) := ld_n rfl hj (by decide)
theorem st_68 {h : Hp} {j : Nat} {v : Int32} (hj : j < 6) : stI h 68 (nI j) v = some (sI h 68 j v) := st_n rfl hj (by decide)
theorem ld_69 {h : Hp} {j : Nat} (hj : j < 240) : ldI h 69 (nI j) = some (gI h 69 j) := ld_n rfl hj (by decide)
theorem st_69 {h : Hp} {j : Nat} {v : Int32} (hj : j < 240) : stI h 69 (nI j) v = some (sI h 69 j v) := st_n rfl hj (by decide)
theorem ld_70 {h : Hp} {j : Nat} (hj : j < 40) : ldI h 70 (nI j) = some (gI h 70 j) := ld_n rfl hj (by decide)
theorem st_70 {h : Hp} {j : Nat} {v : Int32} (hj : j < 40) : stI h 70 (nI j) v = some (sI h 70 j v) := st_n rfl hj (by decide)
theorem ld_71 {h : Hp} {j : Nat} (hj : j < 4) : ldI h 71 (nI j) = some (gI h 71 j) := ld_n rfl hj (by decide)
theorem st_71 {h : Hp} {j : Nat} {v : Int32} (hj : j < 4) : stI h 71 (nI j) v = some (sI h 71 j v) := st_n rfl hj (by decide)
theorem ld_72 {h : Hp} {j : Nat} (hj : j < 160) : ldI h 72 (nI j) = some (gI h 72 j) := ld_n rfl hj (by decide)
theorem st_72 {h : Hp} {j : Nat} {v : Int32} (hj : j < 160) : stI h 72 (nI j) v = some (sI h 72 j v) := st_n rfl hj (by decide)
theorem ld_73 {h : Hp} {j : Nat} (hj : j < 12) : ldI h 73 (nI j) = some (gI h 73 j) := ld_n rfl hj (by decide)
theorem st_73 {h : Hp} {j : Nat} {v : Int32} (hj : j < 12) : stI h 73 (nI j) v = some (sI h 73 j v) := st_n rfl hj (by decide)
theorem ld_74 {h : Hp} {j : Nat} (hj : j < 4) : ldI h 74 (nI j) = some (gI h 74 j) := ld_n rfl hj (by decide)
theorem st_74 {h : Hp} {j : Nat} {v : Int32} (hj : j < 4) : stI h 74 (nI j) v = some (sI h 74 j v) := st_n rfl hj (by decide)
theorem ld_75 {h : Hp} {j : Nat} (hj : j < 4) : ldI h 75 (nI j) = some (gI h 75 j) := ld_n rfl hj (by decide)
theorem st_75 {h : Hp} {j : Nat} {v : Int32} (hj : j < 4) : stI h 75 (nI j) v = some (sI h 75 j v) := st_n rfl hj (by decide)
theorem ld_76 {h : Hp} {j : Nat} (hj : j < 4) : ldI h 76 (nI j) = some (gI h 76 j) := ld_n rfl hj (by decide)
theorem st_76 {h : Hp} {j : Nat} {v : Int32} (hj : j < 4) : stI h 76 (nI j) v = some (sI h 76 j v) := st_n rfl hj (by decide)
theorem ld_77 {h : Hp} {j : Nat} (hj : j < 4) : ldI h 77 (nI j) = some (gI h 77 j) := ld_n rfl hj (by decide)
theorem st_77 {h : Hp} {j : Nat} {v : Int32} (hj : j < 4) : stI h 77 (nI j) v = some (sI h 77 j v) := st_n rfl hj (by decide)
theorem ld_78 {h : Hp} {j : Nat} (hj : j < 12) : ldI h 78 (nI j) = some (gI h 78 j) := ld_n rfl hj (by decide)
theorem st_78 {h : Hp} {j : Nat} {v : Int32} (hj : j < 12) : stI h 78 (nI j) v = some (sI h 78 j v) := st_n rfl hj (by decide)
theorem ld_79 {h : Hp} {j : Nat} (hj : j < 4) : ldI h 79 (nI j) = some (gI h 79 j) := ld_n rfl hj (by decide)
theorem st_79 {h : Hp} {j : Nat} {v : Int32} (hj : j < 4) : stI h 79 (nI j) v = some (sI h 79 j v) := st_n rfl hj (by decide)
theorem ld_80 {h : Hp} {j : Nat} (hj : j < 4) : ldI h 80 (nI j) = some (gI h 80 j) := ld_n rfl hj (by decide)
theorem st_80 {h : Hp} {j : Nat} {v : Int32} (hj : j < 4) : stI h 80 (nI j) v = some (sI h 80 j v) := st_n rfl hj (by decide)
theorem ld_81 {h : Hp} {j : Nat} (hj : j < 4) : ldI h 81 (nI j) = some (gI h 81 j) := ld_n rfl hj (by decide)
theorem st_81 {h : Hp} {j : Nat} {v : Int32} (hj : j < 4) : stI h 81 (nI j) v = some (sI h 81 j v) := st_n rfl hj (by decide)
theorem ld_82 {h : Hp} {j : Nat} (hj : j < 4) : ldI h 82 (nI j) = some (gI h 82 j) := ld_n rfl hj (by decide)
theorem st_82 {h : Hp} {j : Nat} {v : Int32} (hj : j < 4) : stI h 82 (nI j) v = some (sI h 82 j v) := st_n rfl hj (by decide)
theorem ld_83 {h : Hp} {j : Nat} (hj : j < 60) : ldI h 83 (nI j) = some (gI h 83 j) := ld_n rfl hj (by decide)
theorem st_83 {h : Hp} {j : Nat} {v : Int32} (hj : j < 60) : stI h 83 (nI j) v = some (sI h 83 j v) := st_n rfl hj (by decide)
theorem ld_84 {h : Hp} {j : Nat} (hj : j < 240) : ldI h 84 (nI j) = some (gI h 84 j) := ld_n rfl hj (by decide)
theorem st_84 {h : Hp} {j : Nat} {v : Int32} (hj : j < 240) : stI h 84 (nI j) v = some (sI h 84 j v) := st_n rfl hj (by decide)
theorem ld_85 {h : Hp} {j : Nat} (hj : j < 3) : ldI h 85 (nI j) = some (gI h 85 j) := ld_n rfl hj (by decide)
theorem st_85 {h : Hp} {j : Nat} {v : Int32} (hj : j < 3) : stI h 85 (nI j) v = some (sI h 85 j v) := st_n rfl hj (by decide)
theorem ld_86 {h : Hp} {j : Nat} (hj : j < 3) : ldI h 86 (nI j) = some (gI h 86 j) := ld_n rfl hj (by decide)
theorem st_86 {h : Hp} {j : Nat} {v : Int32} (hj : j < 3) : stI h 86 (nI j) v = some (sI h 86 j v) := st_n rfl hj (by decide)
theorem ld_87 {h : Hp} {j : Nat} (hj : j < 3) : ldI h 87 (nI j) = some (gI h 87 j) := ld_n rfl hj (by decide)
theorem st_87 {h : Hp} {j : Nat} {v : Int32} (hj : j < 3) : stI h 87 (nI j) v = some (sI h 87 j v) := st_n rfl hj (by decide)
theorem ld_88 {h : Hp} {j : Nat} (hj : j < 12) : ldI h 88 (nI j) = some (gI h 88 j) := ld_n rfl hj (by decide)
theorem st_88 {h : Hp} {j : Nat} {v : Int32} (hj : j < 12) : stI h 88 (nI j) v = some (sI h 88 j v) := st_n rfl hj (by decide)
theorem ld_89 {h : Hp} {j : Nat} (hj : j < 12) : ldI h 89 (nI j) = some (gI h 89 j) := ld_n rfl hj (by decide)
theorem st_89 {h : Hp} {j : Nat} {v : Int32} (hj : j < 12) : stI h 89 (nI j) v = some (sI h 89 j v) := st_n rfl hj (by decide)
theorem ld_90 {h : Hp} {j : Nat} (hj : j < 180) : ldI h 90 (nI j) = some (gI h 90 j) := ld_n rfl hj (by decide)
theorem st_90 {h : Hp} {j : Nat} {v : Int32} (hj : j < 180) : stI h 90 (nI j) v = some (sI h 90 j v) := st_n rfl hj (by decide)
theorem ld_91 {h : Hp} {j : Nat} (hj : j < 720) : ldI h 91 (nI j) = some (gI h 91 j) := ld_n rfl hj (by decide)
theorem st_91 {h : Hp} {j : Nat} {v : Int32} (hj : j < 720) : stI h 91 (nI j) v = some (sI h 91 j v) := st_n rfl hj (by decide)
theorem ld_92 {h : Hp} {j : Nat} (hj : j < 20736) : ldI h 92 (nI j) = some (gI h 92 j) := ld_n rfl hj (by decide)
theorem st_92 {h : Hp} {j : Nat} {v : Int32} (hj : j < 20736) : stI h 92 (nI j) v = some (sI h 92 j v) := st_n rfl hj (by decide)
theorem ld_93 {h : Hp} {j : Nat} (hj : j < 20736) : ldI h 93 (nI j) = some (gI h 93 j) := ld_n rfl hj (by decide)
theorem st_93 {h : Hp} {j : Nat} {v : Int32} (hj : j < 20736) : stI h 93 (nI j) v = some (sI h 93 j v) := st_n rfl hj (by decide)
theorem ld_94 {h : Hp} {j : Nat} (hj : j < 20736) : ldI h 94 (nI j) = some (gI h 94 j) := ld_n rfl hj (by decide)
theorem st_94 {h : Hp} {j : Nat} {v : Int32} (hj : j < 20736) : stI h 94 (nI j) v = some (sI h 94 j v) := st_n rfl hj (by decide)
theorem ld_95 {h : Hp} {j : Nat} (hj : j < 20736) : ldI h 95 (nI j) = some (gI h 95 j) := ld_n rfl hj (by decide)
theorem st_95 {h : Hp} {j : Nat} {v : Int32} (hj : j < 20736) : stI h 95 (nI j) v = some (sI h 95 j v) := st_n rfl hj (by decide)
theorem ld_96 {h : Hp} {j : Nat} (hj : j < 4) : ldI h 96 (nI j) = some (gI h 96 j) := ld_n rfl hj (by decide)
theorem st_96 {h : Hp} {j : Nat} {v : Int32} (hj : j < 4) : stI h 96 (nI j) v = some (sI h 96 j v) := st_n rfl hj (by decide)
theorem ld_97 {h : Hp} {j : Nat} (hj : j < 5) : ldI h 97 (nI j) = some (gI h 97 j) := ld_n rfl hj (by decide)
theorem st_97 {h : Hp} {j : Nat} {v : Int32} (hj : j < 5) : stI h 97 (nI j) v = some (sI h 97 j v) := st_n rfl hj (by decide)
theorem ld_98 {h : Hp} {j : Nat} (hj : j < 6) : ldI h 98 (nI j) = some (gI h 98 j) := ld_n rfl hj (by decide)
theorem st_98 {h : Hp} {j : Nat} {v : Int32} (hj : j < 6) : stI h 98 (nI j) v = some (sI h 98 j v) := st_n rfl hj (by decide)
theorem ld_99 {h : Hp} {j : Nat} (hj : j < 6) : ldI h 99 (nI j) = some (gI h 99 j) := ld_n rfl hj (by decide)
theorem st_99 {h : Hp} {j : Nat} {v : Int32} (hj : j < 6) : stI h 99 (nI j) v = some (sI h 99 j v) := st_n rfl hj (by decide)
theorem ld_100 {h : Hp} {j : Nat} (hj : j < 5) : ldI h 100 (nI j) = some (gI h 100 j) := ld_n rfl hj (by decide)
theorem st_100 {h : Hp} {j : Nat} {v : Int32} (hj : j < 5) : stI h 100 (nI j) v = some (sI h 100 j v) := st_n rfl hj (by decide)
theorem ld_101 {h : Hp} {j : Nat} (hj : j < 5) : ldI h 101 (nI j) = some (gI h 101 j) := ld_n rfl hj (by decide)
theorem st_101 {h : Hp} {j : Nat} {v : Int32} (hj : j < 5) : stI h 101 (nI j) v = some (sI h 101 j v) := st_n rfl hj (by decide)
theorem ld_102 {h : Hp} {j : Nat} (hj : j < 8) : ldI h 102 (nI j) = some (gI h 102 j) := ld_n rfl hj (by decide)
theorem st_102 {h : Hp} {j : Nat} {v : Int32} (hj : j < 8) : stI h 102 (nI j) v = some (sI h 102 j v) := st_n rfl hj (by decide)
theorem ld_103 {h : Hp} {j : Nat} (hj : j < 8) : ldI h 103 (nI j) = some (gI h 103 j) := ld_n rfl hj (by decide)
theorem st_103 {h : Hp} {j : Nat} {v : Int32} (hj : j < 8) : stI h 103 (nI j) v = some (sI h 103 j v) := st_n rfl hj (by decide)
theorem ld_104 {h : Hp} {j : Nat} (hj : j < 4) : ldI h 104 (nI j) = some (gI h 104 j) := ld_n rfl hj (by decide)
theorem st_104 {h : Hp} {j : Nat} {v : Int32} (hj : j < 4) : stI h 104 (nI j) v = some (sI h 104 j v) := st_n rfl hj (by decide)
theorem ld_105 {h : Hp} {j : Nat} (hj : j < 4) : ldI h 105 (nI j) = some (gI h 105 j) := ld_n rfl hj (by decide)
theorem st_105 {h : Hp} {j : Nat} {v : Int32} (hj : j < 4) : stI h 105 (nI j) v = some (sI h 105 j v) := st_n rfl hj (by decide)
theorem rf_rows0 : rf 1 0 = 2 := rfl
theorem rf_rows1 : rf 1 1 = 9 := rfl
theorem rf_txts0 : rf 10 0 = 11 := rfl
theorem rf_txts1 : rf 10 1 = 16 := rfl
theorem sh_rows1 : (sh 9).2.2 = 6 := rfl
theorem sh_txts1 : (sh 16).2.2 = 4 := rfl
theorem ldR_rows {r : Nat} (h : r < 6) : ldR 2 (nI r) = some (3 + r) := by
  rw [ldR_n (n := 6) rfl h (by decide)]
  exact congrArg some ((show ∀ r, r < 6 → rf 2 r = 3 + r by decide) r h)
theorem ldR_txts {r : Nat} (h : r < 4) : ldR 11 (nI r) = some (12 + r) := by
  rw [ldR_n (n := 4) rfl h (by decide)]
  exact congrArg some ((show ∀ r, r < 4 → rf 11 r = 12 + r by decide) r h)
theorem ldR_kept {r : Nat} (h : r < 3) : ldR 21 (nI r) = some (57 + 3 * r) := by
  rw [ldR_n (n := 3) rfl h (by decide)]
  exact congrArg some ((show ∀ r, r < 3 → rf 21 r = 57 + 3 * r by decide) r h)
theorem sh_row {r : Nat} (h : r < 6) : sh (3 + r) = (1, 0, 40) := (show ∀ r, r < 6 → sh (3 + r) = (1, 0, 40) by decide) r h
theorem sh_txt {r : Nat} (h : r < 4) : sh (12 + r) = (1, 0, 40) := (show ∀ r, r < 4 → sh (12 + r) = (1, 0, 40) by decide) r h
theorem ld_row {h : Hp} {r i : Nat} (hr : r < 6) (hi : i < 40) : ldI h (3 + r) (nI i) = some (gI h (3 + r) i) := ld_n (n := 40) (by rw [sh_row hr]) hi (by decide)
theorem st_row {h : Hp} {r i : Nat} {v : Int32} (hr : r < 6) (hi : i < 40) : stI h (3 + r) (nI i) v = some (sI h (3 + r) i v) := st_n (n := 40) (by rw [sh_row hr]) hi (by decide)
theorem ld_txt {h : Hp} {r i : Nat} (hr : r < 4) (hi : i < 40) : ldI h (12 + r) (nI i) = some (gI h (12 + r) i) := ld_n (n := 40) (by rw [sh_txt hr]) hi (by decide)
theorem st_txt {h : Hp} {r i : Nat} {v : Int32} (hr : r < 4) (hi : i < 40) : stI h (12 + r) (nI i) v = some (sI h (12 + r) i v) := st_n (n := 40) (by rw [sh_txt hr]) hi (by decide)
/-! loops -/
theorem fix_go {σ ρ : Type} {b : (σ → Option ρ) → σ → Option ρ} {R : Option ρ} (st : Nat → σ) (n : Nat) (hs : ∀ k, k < n → ∀ self, b self (st k) = self (st (k + 1))) (he : ∀ self, b self (st n) = R) : ∀ (d k F : Nat), k + d = n → d < F → fix b F (st k) = R
  | 0, k, F + 1, hk, _ => by
    have : k = n := by omega
    subst this
    exact he _
  | d + 1, k, F + 1, hk, hF => by
    show b (fix b F) (st k) = R
    rw [hs k (by omega)]
    exact fix_go st n hs he d (k + 1) F (by omega) (by omega)
/-- a loop that goes through the states st 0, st 1 .. st n and ends there with R -/
theorem fix_seq {σ ρ : Type} {b : (σ → Option ρ) → σ → Option ρ} {R : Option ρ} {F : Nat} {s0 : σ} (st : Nat → σ) (n : Nat) (h0 : st 0 = s0) (hs : ∀ k, k < n → ∀ self, b self (st k) = self (st (k + 1))) (he : ∀ self, b self (st n) = R) (hF : n < F) : fix b F s0 = R := by
  rw [← h0]
  exact fix_go st n hs he n 0 F (by omega) hF
theorem ck0 : ckZ 0 = some 0 := rfl
theorem ck1 : ckZ 1 = some 1 := rfl
theorem ckn0 : ckZ (nI 0) = some (nI 0) := rfl
theorem ckn1 : ckZ (nI 1) = some (nI 1) := rfl
theorem Ib {α β : Type} {x : α} {f : α → Option β} : (some x).bind f = f x := rfl
/-- an argument: negative, or a number -/
theorem arg_n (x : Int32) : x < 0 ∨ ∃ j : Nat, j < 2 ^ 31 ∧ x = nI j := by
  by_cases h : x < 0
  · exact Or.inl h
  · exact Or.inr (nI_of h)
theorem n_lt {a b : Nat} (ha : a < 2 ^ 31) (hb : b < 2 ^ 31) : (nI a < nI b) = (a < b) := propext (nI_ltI ha hb)
theorem n_le {a b : Nat} (ha : a < 2 ^ 31) (hb : b < 2 ^ 31) : (nI a ≤ nI b) = (a ≤ b) := propext (nI_leI ha hb)
theorem n_eq {a b : Nat} (ha : a < 2 ^ 31) (hb : b < 2 ^ 31) : (nI a = nI b) = (a = b) := propext (nI_eq ha hb)
theorem n_neg {a : Nat} (ha : a < 2 ^ 31) : (nI a < 0) = False := propext ⟨fun h => nI_pos ha h, False.elim⟩
theorem n_pos {a : Nat} (ha : a < 2 ^ 31) : (0 ≤ nI a) = True := propext ⟨fun _ => trivial, fun _ => nI_pos' ha⟩
theorem lt_le {x : Int32} (h : x < 0) : (0 ≤ x) = False := propext ⟨fun q => by
  have h1 := Int32.lt_iff_toInt_lt.mp h
  have h2 := Int32.le_iff_toInt_le.mp q
  omega, False.elim⟩
theorem lt_leN {x : Int32} {n : Nat} (hn : n < 2 ^ 31) (h : x < 0) : (nI n ≤ x) = False := propext ⟨fun q => by
  have h1 := Int32.lt_iff_toInt_lt.mp h
  have h2 := Int32.le_iff_toInt_le.mp q
  rw [nI_toInt hn] at h2
  rw [Int32.toInt_zero] at h1
  omega, False.elim⟩
theorem lt_ltN {x : Int32} {n : Nat} (hn : n < 2 ^ 31) (h : x < 0) : (nI n < x) = False := propext ⟨fun q => by
  have h1 := Int32.lt_iff_toInt_lt.mp h
  have h2 := Int32.lt_iff_toInt_lt.mp q
  rw [nI_toInt hn] at h2
  rw [Int32.toInt_zero] at h1
  omega, False.elim⟩
theorem lt_leN' {x : Int32} {n : Nat} (hn : n < 2 ^ 31) (h : x < 0) : (x ≤ nI n) = True := propext ⟨fun _ => trivial, fun _ => by
  have h1 := Int32.lt_iff_toInt_lt.mp h
  rw [Int32.le_iff_toInt_le, nI_toInt hn]
  rw [Int32.toInt_zero] at h1
  omega⟩
