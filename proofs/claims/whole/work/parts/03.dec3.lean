theorem dX8_copy_120 : decode cX8_copy 120 = .ok (.iload 6, 2) := by decide +kernel
theorem dX8_copy_122 : decode cX8_copy 122 = .ok (.iadd, 1) := by decide +kernel
theorem dX8_copy_123 : decode cX8_copy 123 = .ok (.invokevirtual 148, 3) := by decide +kernel
theorem dX8_copy_126 : decode cX8_copy 126 = .ok (.iastore, 1) := by decide +kernel
theorem dX8_copy_127 : decode cX8_copy 127 = .ok (.iinc 6 1, 3) := by decide +kernel
theorem dX8_copy_130 : decode cX8_copy 130 = .ok (.goto (-26), 3) := by decide +kernel
theorem dX8_copy_133 : decode cX8_copy 133 = .ok (.iconst 0, 1) := by decide +kernel
theorem dX8_copy_134 : decode cX8_copy 134 = .ok (.istore 6, 2) := by decide +kernel
theorem dX8_copy_136 : decode cX8_copy 136 = .ok (.iload 6, 2) := by decide +kernel
theorem dX8_copy_138 : decode cX8_copy 138 = .ok (.iload 5, 2) := by decide +kernel
theorem dX8_copy_140 : decode cX8_copy 140 = .ok (.if_icmp .ge 31, 3) := by decide +kernel
theorem dX8_copy_143 : decode cX8_copy 143 = .ok (.aload_n 0, 1) := by decide +kernel
theorem dX8_copy_144 : decode cX8_copy 144 = .ok (.getfield 16, 3) := by decide +kernel
theorem dX8_copy_147 : decode cX8_copy 147 = .ok (.bipush 40, 2) := by decide +kernel
theorem dX8_copy_149 : decode cX8_copy 149 = .ok (.iload_n 3, 1) := by decide +kernel
theorem dX8_copy_150 : decode cX8_copy 150 = .ok (.imul, 1) := by decide +kernel
theorem dX8_copy_151 : decode cX8_copy 151 = .ok (.iload 4, 2) := by decide +kernel
theorem dX8_copy_153 : decode cX8_copy 153 = .ok (.iadd, 1) := by decide +kernel
theorem dX8_copy_154 : decode cX8_copy 154 = .ok (.iload 6, 2) := by decide +kernel
theorem dX8_copy_156 : decode cX8_copy 156 = .ok (.iadd, 1) := by decide +kernel
theorem dX8_copy_157 : decode cX8_copy 157 = .ok (.aload_n 0, 1) := by decide +kernel
theorem dX8_copy_158 : decode cX8_copy 158 = .ok (.getfield 19, 3) := by decide +kernel
theorem dX8_copy_161 : decode cX8_copy 161 = .ok (.iload 6, 2) := by decide +kernel
theorem dX8_copy_163 : decode cX8_copy 163 = .ok (.iaload, 1) := by decide +kernel
theorem dX8_copy_164 : decode cX8_copy 164 = .ok (.iastore, 1) := by decide +kernel
theorem dX8_copy_165 : decode cX8_copy 165 = .ok (.iinc 6 1, 3) := by decide +kernel
theorem dX8_copy_168 : decode cX8_copy 168 = .ok (.goto (-32), 3) := by decide +kernel
theorem dX8_copy_171 : decode cX8_copy 171 = .ok (.iconst 1, 1) := by decide +kernel
theorem dX8_copy_172 : decode cX8_copy 172 = .ok (.ireturn, 1) := by decide +kernel
theorem dX8_mean_0 : decode cX8_mean 0 = .ok (.iload_n 1, 1) := by decide +kernel
theorem dX8_mean_1 : decode cX8_mean 1 = .ok (.invokestatic 140, 3) := by decide +kernel
theorem dX8_mean_4 : decode cX8_mean 4 = .ok (.ifCond .ne 5, 3) := by decide +kernel
theorem dX8_mean_7 : decode cX8_mean 7 = .ok (.iconst (-1), 1) := by decide +kernel
theorem dX8_mean_8 : decode cX8_mean 8 = .ok (.ireturn, 1) := by decide +kernel
theorem dX8_mean_9 : decode cX8_mean 9 = .ok (.aload_n 0, 1) := by decide +kernel
theorem dX8_mean_10 : decode cX8_mean 10 = .ok (.getfield 13, 3) := by decide +kernel
theorem dX8_mean_13 : decode cX8_mean 13 = .ok (.iload_n 1, 1) := by decide +kernel
theorem dX8_mean_14 : decode cX8_mean 14 = .ok (.iaload, 1) := by decide +kernel
theorem dX8_mean_15 : decode cX8_mean 15 = .ok (.ifCond .ge 9, 3) := by decide +kernel
theorem dX8_mean_18 : decode cX8_mean 18 = .ok (.aload_n 0, 1) := by decide +kernel
theorem dX8_mean_19 : decode cX8_mean 19 = .ok (.iconst 1, 1) := by decide +kernel
theorem dX8_mean_20 : decode cX8_mean 20 = .ok (.invokevirtual 144, 3) := by decide +kernel
theorem dX8_mean_23 : decode cX8_mean 23 = .ok (.ireturn, 1) := by decide +kernel
theorem dX8_mean_24 : decode cX8_mean 24 = .ok (.aload_n 0, 1) := by decide +kernel
theorem dX8_mean_25 : decode cX8_mean 25 = .ok (.getfield 13, 3) := by decide +kernel
theorem dX8_mean_28 : decode cX8_mean 28 = .ok (.iload_n 1, 1) := by decide +kernel
theorem dX8_mean_29 : decode cX8_mean 29 = .ok (.iaload, 1) := by decide +kernel
theorem dX8_mean_30 : decode cX8_mean 30 = .ok (.ifCond .ne 9, 3) := by decide +kernel
theorem dX8_mean_33 : decode cX8_mean 33 = .ok (.aload_n 0, 1) := by decide +kernel
theorem dX8_mean_34 : decode cX8_mean 34 = .ok (.iconst 4, 1) := by decide +kernel
theorem dX8_mean_35 : decode cX8_mean 35 = .ok (.invokevirtual 144, 3) := by decide +kernel
theorem dX8_mean_38 : decode cX8_mean 38 = .ok (.ireturn, 1) := by decide +kernel
theorem dX8_mean_39 : decode cX8_mean 39 = .ok (.lconst 0, 1) := by decide +kernel
theorem dX8_mean_40 : decode cX8_mean 40 = .ok (.lstore_n 2, 1) := by decide +kernel
theorem dX8_mean_41 : decode cX8_mean 41 = .ok (.iconst 0, 1) := by decide +kernel
theorem dX8_mean_42 : decode cX8_mean 42 = .ok (.istore 4, 2) := by decide +kernel
theorem dX8_mean_44 : decode cX8_mean 44 = .ok (.iload 4, 2) := by decide +kernel
theorem dX8_mean_46 : decode cX8_mean 46 = .ok (.aload_n 0, 1) := by decide +kernel
theorem dX8_mean_47 : decode cX8_mean 47 = .ok (.getfield 13, 3) := by decide +kernel
theorem dX8_mean_50 : decode cX8_mean 50 = .ok (.iload_n 1, 1) := by decide +kernel
theorem dX8_mean_51 : decode cX8_mean 51 = .ok (.iaload, 1) := by decide +kernel
theorem dX8_mean_52 : decode cX8_mean 52 = .ok (.if_icmp .ge 20, 3) := by decide +kernel
theorem dX8_mean_55 : decode cX8_mean 55 = .ok (.lload_n 2, 1) := by decide +kernel
theorem dX8_mean_56 : decode cX8_mean 56 = .ok (.aload_n 0, 1) := by decide +kernel
theorem dX8_mean_57 : decode cX8_mean 57 = .ok (.iload_n 1, 1) := by decide +kernel
theorem dX8_mean_58 : decode cX8_mean 58 = .ok (.iload 4, 2) := by decide +kernel
theorem dX8_mean_60 : decode cX8_mean 60 = .ok (.invokevirtual 148, 3) := by decide +kernel
theorem dX8_mean_63 : decode cX8_mean 63 = .ok (.i2l, 1) := by decide +kernel
theorem dX8_mean_64 : decode cX8_mean 64 = .ok (.ladd, 1) := by decide +kernel
theorem dX8_mean_65 : decode cX8_mean 65 = .ok (.lstore_n 2, 1) := by decide +kernel
theorem dX8_mean_66 : decode cX8_mean 66 = .ok (.iinc 4 1, 3) := by decide +kernel
theorem dX8_mean_69 : decode cX8_mean 69 = .ok (.goto (-25), 3) := by decide +kernel
theorem dX8_mean_72 : decode cX8_mean 72 = .ok (.aload_n 0, 1) := by decide +kernel
theorem dX8_mean_73 : decode cX8_mean 73 = .ok (.lload_n 2, 1) := by decide +kernel
theorem dX8_mean_74 : decode cX8_mean 74 = .ok (.aload_n 0, 1) := by decide +kernel
theorem dX8_mean_75 : decode cX8_mean 75 = .ok (.getfield 13, 3) := by decide +kernel
theorem dX8_mean_78 : decode cX8_mean 78 = .ok (.iload_n 1, 1) := by decide +kernel
theorem dX8_mean_79 : decode cX8_mean 79 = .ok (.iaload, 1) := by decide +kernel
theorem dX8_mean_80 : decode cX8_mean 80 = .ok (.i2l, 1) := by decide +kernel
theorem dX8_mean_81 : decode cX8_mean 81 = .ok (.ldiv, 1) := by decide +kernel
theorem dX8_mean_82 : decode cX8_mean 82 = .ok (.l2i, 1) := by decide +kernel
theorem dX8_mean_83 : decode cX8_mean 83 = .ok (.iconst 1, 1) := by decide +kernel
theorem dX8_mean_84 : decode cX8_mean 84 = .ok (.invokevirtual 152, 3) := by decide +kernel
theorem dX8_mean_87 : decode cX8_mean 87 = .ok (.ireturn, 1) := by decide +kernel
theorem dX8_isText_0 : decode cX8_isText 0 = .ok (.iload_n 0, 1) := by decide +kernel
theorem dX8_isText_1 : decode cX8_isText 1 = .ok (.iconst 0, 1) := by decide +kernel
theorem dX8_isText_2 : decode cX8_isText 2 = .ok (.iconst 3, 1) := by decide +kernel
theorem dX8_isText_3 : decode cX8_isText 3 = .ok (.invokestatic 133, 3) := by decide +kernel
theorem dX8_isText_6 : decode cX8_isText 6 = .ok (.ireturn, 1) := by decide +kernel
theorem dX8_text_0 : decode cX8_text 0 = .ok (.iload_n 1, 1) := by decide +kernel
theorem dX8_text_1 : decode cX8_text 1 = .ok (.invokestatic 155, 3) := by decide +kernel
theorem dX8_text_4 : decode cX8_text 4 = .ok (.ifCond .eq 9, 3) := by decide +kernel
theorem dX8_text_7 : decode cX8_text 7 = .ok (.iload_n 2, 1) := by decide +kernel
theorem dX8_text_8 : decode cX8_text 8 = .ok (.bipush 40, 2) := by decide +kernel
theorem dX8_text_10 : decode cX8_text 10 = .ok (.if_icmp .le 5, 3) := by decide +kernel
theorem dX8_text_13 : decode cX8_text 13 = .ok (.iconst (-1), 1) := by decide +kernel
theorem dX8_text_14 : decode cX8_text 14 = .ok (.ireturn, 1) := by decide +kernel
theorem dX8_text_15 : decode cX8_text 15 = .ok (.iload_n 2, 1) := by decide +kernel
theorem dX8_text_16 : decode cX8_text 16 = .ok (.ifCond .ge 9, 3) := by decide +kernel
theorem dX8_text_19 : decode cX8_text 19 = .ok (.aload_n 0, 1) := by decide +kernel
theorem dX8_text_20 : decode cX8_text 20 = .ok (.iconst 5, 1) := by decide +kernel
theorem dX8_text_21 : decode cX8_text 21 = .ok (.invokevirtual 144, 3) := by decide +kernel
theorem dX8_text_24 : decode cX8_text 24 = .ok (.ireturn, 1) := by decide +kernel
theorem dX8_text_25 : decode cX8_text 25 = .ok (.aload_n 0, 1) := by decide +kernel
theorem dX8_text_26 : decode cX8_text 26 = .ok (.getfield 22, 3) := by decide +kernel
theorem dX8_text_29 : decode cX8_text 29 = .ok (.iload_n 1, 1) := by decide +kernel
theorem dX8_text_30 : decode cX8_text 30 = .ok (.iload_n 2, 1) := by decide +kernel
theorem dX8_text_31 : decode cX8_text 31 = .ok (.iastore, 1) := by decide +kernel
theorem dX8_text_32 : decode cX8_text 32 = .ok (.iconst 0, 1) := by decide +kernel
theorem dX8_text_33 : decode cX8_text 33 = .ok (.istore_n 3, 1) := by decide +kernel
theorem dX8_text_34 : decode cX8_text 34 = .ok (.iload_n 3, 1) := by decide +kernel
theorem dX8_text_35 : decode cX8_text 35 = .ok (.bipush 40, 2) := by decide +kernel
theorem dX8_text_37 : decode cX8_text 37 = .ok (.if_icmp .ge 22, 3) := by decide +kernel
theorem dX8_text_40 : decode cX8_text 40 = .ok (.aload_n 0, 1) := by decide +kernel
theorem dX8_text_41 : decode cX8_text 41 = .ok (.getfield 25, 3) := by decide +kernel
theorem dX8_text_44 : decode cX8_text 44 = .ok (.bipush 40, 2) := by decide +kernel
theorem dX8_text_46 : decode cX8_text 46 = .ok (.iload_n 1, 1) := by decide +kernel
theorem dX8_text_47 : decode cX8_text 47 = .ok (.imul, 1) := by decide +kernel
theorem dX8_text_48 : decode cX8_text 48 = .ok (.iload_n 3, 1) := by decide +kernel
theorem dX8_text_49 : decode cX8_text 49 = .ok (.iadd, 1) := by decide +kernel
theorem dX8_text_50 : decode cX8_text 50 = .ok (.bipush 32, 2) := by decide +kernel
theorem dX8_text_52 : decode cX8_text 52 = .ok (.bastore, 1) := by decide +kernel
theorem dX8_text_53 : decode cX8_text 53 = .ok (.iinc 3 1, 3) := by decide +kernel
theorem dX8_text_56 : decode cX8_text 56 = .ok (.goto (-22), 3) := by decide +kernel
theorem dX8_text_59 : decode cX8_text 59 = .ok (.iload_n 2, 1) := by decide +kernel
theorem dX8_text_60 : decode cX8_text 60 = .ok (.ireturn, 1) := by decide +kernel
theorem dX8_put_0 : decode cX8_put 0 = .ok (.iload_n 1, 1) := by decide +kernel
theorem dX8_put_1 : decode cX8_put 1 = .ok (.invokestatic 155, 3) := by decide +kernel
theorem dX8_put_4 : decode cX8_put 4 = .ok (.ifCond .ne 5, 3) := by decide +kernel
theorem dX8_put_7 : decode cX8_put 7 = .ok (.iconst (-1), 1) := by decide +kernel
theorem dX8_put_8 : decode cX8_put 8 = .ok (.ireturn, 1) := by decide +kernel
theorem dX8_put_9 : decode cX8_put 9 = .ok (.aload_n 0, 1) := by decide +kernel
theorem dX8_put_10 : decode cX8_put 10 = .ok (.getfield 22, 3) := by decide +kernel
theorem dX8_put_13 : decode cX8_put 13 = .ok (.iload_n 1, 1) := by decide +kernel
theorem dX8_put_14 : decode cX8_put 14 = .ok (.iaload, 1) := by decide +kernel
theorem dX8_put_15 : decode cX8_put 15 = .ok (.ifCond .ge 9, 3) := by decide +kernel
theorem dX8_put_18 : decode cX8_put 18 = .ok (.aload_n 0, 1) := by decide +kernel
theorem dX8_put_19 : decode cX8_put 19 = .ok (.iconst 1, 1) := by decide +kernel
theorem dX8_put_20 : decode cX8_put 20 = .ok (.invokevirtual 144, 3) := by decide +kernel
theorem dX8_put_23 : decode cX8_put 23 = .ok (.ireturn, 1) := by decide +kernel
theorem dX8_put_24 : decode cX8_put 24 = .ok (.iload_n 2, 1) := by decide +kernel
theorem dX8_put_25 : decode cX8_put 25 = .ok (.iconst 0, 1) := by decide +kernel
theorem dX8_put_26 : decode cX8_put 26 = .ok (.aload_n 0, 1) := by decide +kernel
theorem dX8_put_27 : decode cX8_put 27 = .ok (.getfield 22, 3) := by decide +kernel
theorem dX8_put_30 : decode cX8_put 30 = .ok (.iload_n 1, 1) := by decide +kernel
theorem dX8_put_31 : decode cX8_put 31 = .ok (.iaload, 1) := by decide +kernel
theorem dX8_put_32 : decode cX8_put 32 = .ok (.iconst 1, 1) := by decide +kernel
theorem dX8_put_33 : decode cX8_put 33 = .ok (.isub, 1) := by decide +kernel
theorem dX8_put_34 : decode cX8_put 34 = .ok (.invokestatic 133, 3) := by decide +kernel
theorem dX8_put_37 : decode cX8_put 37 = .ok (.ifCond .ne 9, 3) := by decide +kernel
theorem dX8_put_40 : decode cX8_put 40 = .ok (.aload_n 0, 1) := by decide +kernel
theorem dX8_put_41 : decode cX8_put 41 = .ok (.iconst 2, 1) := by decide +kernel
theorem dX8_put_42 : decode cX8_put 42 = .ok (.invokevirtual 144, 3) := by decide +kernel
theorem dX8_put_45 : decode cX8_put 45 = .ok (.ireturn, 1) := by decide +kernel
theorem dX8_put_46 : decode cX8_put 46 = .ok (.aload_n 0, 1) := by decide +kernel
theorem dX8_put_47 : decode cX8_put 47 = .ok (.getfield 25, 3) := by decide +kernel
theorem dX8_put_50 : decode cX8_put 50 = .ok (.bipush 40, 2) := by decide +kernel
theorem dX8_put_52 : decode cX8_put 52 = .ok (.iload_n 1, 1) := by decide +kernel
theorem dX8_put_53 : decode cX8_put 53 = .ok (.imul, 1) := by decide +kernel
theorem dX8_put_54 : decode cX8_put 54 = .ok (.iload_n 2, 1) := by decide +kernel
theorem dX8_put_55 : decode cX8_put 55 = .ok (.iadd, 1) := by decide +kernel
theorem dX8_put_56 : decode cX8_put 56 = .ok (.baload, 1) := by decide +kernel
theorem dX8_put_57 : decode cX8_put 57 = .ok (.istore 4, 2) := by decide +kernel
theorem dX8_put_59 : decode cX8_put 59 = .ok (.aload_n 0, 1) := by decide +kernel
theorem dX8_put_60 : decode cX8_put 60 = .ok (.getfield 25, 3) := by decide +kernel
theorem dX8_put_63 : decode cX8_put 63 = .ok (.bipush 40, 2) := by decide +kernel
theorem dX8_put_65 : decode cX8_put 65 = .ok (.iload_n 1, 1) := by decide +kernel
theorem dX8_put_66 : decode cX8_put 66 = .ok (.imul, 1) := by decide +kernel
theorem dX8_put_67 : decode cX8_put 67 = .ok (.iload_n 2, 1) := by decide +kernel
theorem dX8_put_68 : decode cX8_put 68 = .ok (.iadd, 1) := by decide +kernel
theorem dX8_put_69 : decode cX8_put 69 = .ok (.iload_n 3, 1) := by decide +kernel
theorem dX8_put_70 : decode cX8_put 70 = .ok (.i2b, 1) := by decide +kernel
theorem dX8_put_71 : decode cX8_put 71 = .ok (.bastore, 1) := by decide +kernel
theorem dX8_put_72 : decode cX8_put 72 = .ok (.sipush 1000, 3) := by decide +kernel
theorem dX8_put_75 : decode cX8_put 75 = .ok (.iload 4, 2) := by decide +kernel
theorem dX8_put_77 : decode cX8_put 77 = .ok (.iadd, 1) := by decide +kernel
theorem dX8_put_78 : decode cX8_put 78 = .ok (.ireturn, 1) := by decide +kernel
theorem dX8_byteAt_0 : decode cX8_byteAt 0 = .ok (.iload_n 2, 1) := by decide +kernel
theorem dX8_byteAt_1 : decode cX8_byteAt 1 = .ok (.aload_n 0, 1) := by decide +kernel
theorem dX8_byteAt_2 : decode cX8_byteAt 2 = .ok (.getfield 22, 3) := by decide +kernel
theorem dX8_byteAt_5 : decode cX8_byteAt 5 = .ok (.iload_n 1, 1) := by decide +kernel
theorem dX8_byteAt_6 : decode cX8_byteAt 6 = .ok (.iaload, 1) := by decide +kernel
theorem dX8_byteAt_7 : decode cX8_byteAt 7 = .ok (.if_icmp .ge 17, 3) := by decide +kernel
theorem dX8_byteAt_10 : decode cX8_byteAt 10 = .ok (.aload_n 0, 1) := by decide +kernel
theorem dX8_byteAt_11 : decode cX8_byteAt 11 = .ok (.getfield 25, 3) := by decide +kernel
theorem dX8_byteAt_14 : decode cX8_byteAt 14 = .ok (.bipush 40, 2) := by decide +kernel
theorem dX8_byteAt_16 : decode cX8_byteAt 16 = .ok (.iload_n 1, 1) := by decide +kernel
theorem dX8_byteAt_17 : decode cX8_byteAt 17 = .ok (.imul, 1) := by decide +kernel
theorem dX8_byteAt_18 : decode cX8_byteAt 18 = .ok (.iload_n 2, 1) := by decide +kernel
theorem dX8_byteAt_19 : decode cX8_byteAt 19 = .ok (.iadd, 1) := by decide +kernel
theorem dX8_byteAt_20 : decode cX8_byteAt 20 = .ok (.baload, 1) := by decide +kernel
theorem dX8_byteAt_21 : decode cX8_byteAt 21 = .ok (.goto 4, 3) := by decide +kernel
theorem dX8_byteAt_24 : decode cX8_byteAt 24 = .ok (.iconst 0, 1) := by decide +kernel
theorem dX8_byteAt_25 : decode cX8_byteAt 25 = .ok (.ireturn, 1) := by decide +kernel
theorem dX8_kindOf_0 : decode cX8_kindOf 0 = .ok (.iload_n 0, 1) := by decide +kernel
theorem dX8_kindOf_1 : decode cX8_kindOf 1 = .ok (.tableswitch 107 97 116 #[99, 107, 107, 103, 107, 107, 107, 107, 107, 107, 107, 101, 95, 107, 107, 107, 107, 107, 105, 97], 95) := by decide +kernel
theorem dX8_kindOf_96 : decode cX8_kindOf 96 = .ok (.iconst 0, 1) := by decide +kernel
theorem dX8_kindOf_97 : decode cX8_kindOf 97 = .ok (.ireturn, 1) := by decide +kernel
theorem dX8_kindOf_98 : decode cX8_kindOf 98 = .ok (.iconst 1, 1) := by decide +kernel
theorem dX8_kindOf_99 : decode cX8_kindOf 99 = .ok (.ireturn, 1) := by decide +kernel
theorem dX8_kindOf_100 : decode cX8_kindOf 100 = .ok (.iconst 2, 1) := by decide +kernel
theorem dX8_kindOf_101 : decode cX8_kindOf 101 = .ok (.ireturn, 1) := by decide +kernel
theorem dX8_kindOf_102 : decode cX8_kindOf 102 = .ok (.iconst 3, 1) := by decide +kernel
theorem dX8_kindOf_103 : decode cX8_kindOf 103 = .ok (.ireturn, 1) := by decide +kernel
theorem dX8_kindOf_104 : decode cX8_kindOf 104 = .ok (.iconst 4, 1) := by decide +kernel
theorem dX8_kindOf_105 : decode cX8_kindOf 105 = .ok (.ireturn, 1) := by decide +kernel
theorem dX8_kindOf_106 : decode cX8_kindOf 106 = .ok (.iconst 5, 1) := by decide +kernel
theorem dX8_kindOf_107 : decode cX8_kindOf 107 = .ok (.ireturn, 1) := by decide +kernel
theorem dX8_kindOf_108 : decode cX8_kindOf 108 = .ok (.bipush (-9), 2) := by decide +kernel
theorem dX8_kindOf_110 : decode cX8_kindOf 110 = .ok (.ireturn, 1) := by decide +kernel
theorem dX8_readsCell_0 : decode cX8_readsCell 0 = .ok (.iload_n 1, 1) := by decide +kernel
theorem dX8_readsCell_1 : decode cX8_readsCell 1 = .ok (.invokestatic 158, 3) := by decide +kernel
theorem dX8_readsCell_4 : decode cX8_readsCell 4 = .ok (.istore_n 2, 1) := by decide +kernel
theorem dX8_readsCell_5 : decode cX8_readsCell 5 = .ok (.aload_n 0, 1) := by decide +kernel
theorem dX8_readsCell_6 : decode cX8_readsCell 6 = .ok (.getfield 161, 3) := by decide +kernel
theorem dX8_readsCell_9 : decode cX8_readsCell 9 = .ok (.iconst 1, 1) := by decide +kernel
theorem dX8_readsCell_10 : decode cX8_readsCell 10 = .ok (.if_icmp .ne 7, 3) := by decide +kernel
theorem dX8_readsCell_13 : decode cX8_readsCell 13 = .ok (.iconst 4, 1) := by decide +kernel
theorem dX8_readsCell_14 : decode cX8_readsCell 14 = .ok (.goto 7, 3) := by decide +kernel
theorem dX8_readsCell_17 : decode cX8_readsCell 17 = .ok (.aload_n 0, 1) := by decide +kernel
theorem dX8_readsCell_18 : decode cX8_readsCell 18 = .ok (.getfield 164, 3) := by decide +kernel
theorem dX8_readsCell_21 : decode cX8_readsCell 21 = .ok (.istore_n 3, 1) := by decide +kernel
theorem dX8_readsCell_22 : decode cX8_readsCell 22 = .ok (.aload_n 0, 1) := by decide +kernel
theorem dX8_readsCell_23 : decode cX8_readsCell 23 = .ok (.getfield 167, 3) := by decide +kernel
theorem dX8_readsCell_26 : decode cX8_readsCell 26 = .ok (.iload_n 3, 1) := by decide +kernel
theorem dX8_readsCell_27 : decode cX8_readsCell 27 = .ok (.if_icmp .eq 17, 3) := by decide +kernel
theorem dX8_readsCell_30 : decode cX8_readsCell 30 = .ok (.iload_n 2, 1) := by decide +kernel
theorem dX8_readsCell_31 : decode cX8_readsCell 31 = .ok (.bipush (-9), 2) := by decide +kernel
theorem dX8_readsCell_33 : decode cX8_readsCell 33 = .ok (.if_icmp .eq 13, 3) := by decide +kernel
theorem dX8_readsCell_36 : decode cX8_readsCell 36 = .ok (.aload_n 0, 1) := by decide +kernel
theorem dX8_readsCell_37 : decode cX8_readsCell 37 = .ok (.getfield 170, 3) := by decide +kernel
theorem dX8_readsCell_40 : decode cX8_readsCell 40 = .ok (.iconst 4, 1) := by decide +kernel
theorem dX8_readsCell_41 : decode cX8_readsCell 41 = .ok (.if_icmp .ne 5, 3) := by decide +kernel
theorem dX8_readsCell_44 : decode cX8_readsCell 44 = .ok (.iconst 0, 1) := by decide +kernel
theorem dX8_readsCell_45 : decode cX8_readsCell 45 = .ok (.ireturn, 1) := by decide +kernel
theorem dX8_readsCell_46 : decode cX8_readsCell 46 = .ok (.iconst 4, 1) := by decide +kernel
theorem dX8_readsCell_47 : decode cX8_readsCell 47 = .ok (.aload_n 0, 1) := by decide +kernel
theorem dX8_readsCell_48 : decode cX8_readsCell 48 = .ok (.getfield 161, 3) := by decide +kernel
theorem dX8_readsCell_51 : decode cX8_readsCell 51 = .ok (.iconst 1, 1) := by decide +kernel
theorem dX8_readsCell_52 : decode cX8_readsCell 52 = .ok (.isub, 1) := by decide +kernel
theorem dX8_readsCell_53 : decode cX8_readsCell 53 = .ok (.imul, 1) := by decide +kernel
theorem dX8_readsCell_54 : decode cX8_readsCell 54 = .ok (.aload_n 0, 1) := by decide +kernel
theorem dX8_readsCell_55 : decode cX8_readsCell 55 = .ok (.getfield 167, 3) := by decide +kernel
theorem dX8_readsCell_58 : decode cX8_readsCell 58 = .ok (.iadd, 1) := by decide +kernel
theorem dX8_readsCell_59 : decode cX8_readsCell 59 = .ok (.istore 4, 2) := by decide +kernel
theorem dX8_readsCell_61 : decode cX8_readsCell 61 = .ok (.aload_n 0, 1) := by decide +kernel
theorem dX8_readsCell_62 : decode cX8_readsCell 62 = .ok (.getfield 44, 3) := by decide +kernel
theorem dX8_readsCell_65 : decode cX8_readsCell 65 = .ok (.iload 4, 2) := by decide +kernel
theorem dX8_readsCell_67 : decode cX8_readsCell 67 = .ok (.iload_n 1, 1) := by decide +kernel
theorem dX8_readsCell_68 : decode cX8_readsCell 68 = .ok (.bipush 35, 2) := by decide +kernel
theorem dX8_readsCell_70 : decode cX8_readsCell 70 = .ok (.if_icmp .ne 7, 3) := by decide +kernel
theorem dX8_readsCell_73 : decode cX8_readsCell 73 = .ok (.iconst 1, 1) := by decide +kernel
theorem dX8_readsCell_74 : decode cX8_readsCell 74 = .ok (.goto 4, 3) := by decide +kernel
theorem dX8_readsCell_77 : decode cX8_readsCell 77 = .ok (.iconst 0, 1) := by decide +kernel
theorem dX8_readsCell_78 : decode cX8_readsCell 78 = .ok (.iastore, 1) := by decide +kernel
theorem dX8_readsCell_79 : decode cX8_readsCell 79 = .ok (.iload_n 2, 1) := by decide +kernel
theorem dX8_readsCell_80 : decode cX8_readsCell 80 = .ok (.bipush (-9), 2) := by decide +kernel
theorem dX8_readsCell_82 : decode cX8_readsCell 82 = .ok (.if_icmp .eq 34, 3) := by decide +kernel
theorem dX8_readsCell_85 : decode cX8_readsCell 85 = .ok (.aload_n 0, 1) := by decide +kernel
theorem dX8_readsCell_86 : decode cX8_readsCell 86 = .ok (.getfield 47, 3) := by decide +kernel
theorem dX8_readsCell_89 : decode cX8_readsCell 89 = .ok (.aload_n 0, 1) := by decide +kernel
theorem dX8_readsCell_90 : decode cX8_readsCell 90 = .ok (.getfield 170, 3) := by decide +kernel
theorem dX8_readsCell_93 : decode cX8_readsCell 93 = .ok (.iload_n 2, 1) := by decide +kernel
theorem dX8_readsCell_94 : decode cX8_readsCell 94 = .ok (.iastore, 1) := by decide +kernel
theorem dX8_readsCell_95 : decode cX8_readsCell 95 = .ok (.aload_n 0, 1) := by decide +kernel
theorem dX8_readsCell_96 : decode cX8_readsCell 96 = .ok (.getfield 50, 3) := by decide +kernel
theorem dX8_readsCell_99 : decode cX8_readsCell 99 = .ok (.aload_n 0, 1) := by decide +kernel
theorem dX8_readsCell_100 : decode cX8_readsCell 100 = .ok (.getfield 170, 3) := by decide +kernel
theorem dX8_readsCell_103 : decode cX8_readsCell 103 = .ok (.iload 4, 2) := by decide +kernel
theorem dX8_readsCell_105 : decode cX8_readsCell 105 = .ok (.iastore, 1) := by decide +kernel
theorem dX8_readsCell_106 : decode cX8_readsCell 106 = .ok (.aload_n 0, 1) := by decide +kernel
theorem dX8_readsCell_107 : decode cX8_readsCell 107 = .ok (.dup, 1) := by decide +kernel
theorem dX8_readsCell_108 : decode cX8_readsCell 108 = .ok (.getfield 170, 3) := by decide +kernel
theorem dX8_readsCell_111 : decode cX8_readsCell 111 = .ok (.iconst 1, 1) := by decide +kernel
theorem dX8_readsCell_112 : decode cX8_readsCell 112 = .ok (.iadd, 1) := by decide +kernel
theorem dX8_readsCell_113 : decode cX8_readsCell 113 = .ok (.putfield 170, 3) := by decide +kernel
theorem dX8_readsCell_116 : decode cX8_readsCell 116 = .ok (.aload_n 0, 1) := by decide +kernel
theorem dX8_readsCell_117 : decode cX8_readsCell 117 = .ok (.dup, 1) := by decide +kernel
theorem dX8_readsCell_118 : decode cX8_readsCell 118 = .ok (.getfield 167, 3) := by decide +kernel
theorem dX8_readsCell_121 : decode cX8_readsCell 121 = .ok (.iconst 1, 1) := by decide +kernel
theorem dX8_readsCell_122 : decode cX8_readsCell 122 = .ok (.iadd, 1) := by decide +kernel
theorem dX8_readsCell_123 : decode cX8_readsCell 123 = .ok (.putfield 167, 3) := by decide +kernel
theorem dX8_readsCell_126 : decode cX8_readsCell 126 = .ok (.iconst 1, 1) := by decide +kernel
theorem dX8_readsCell_127 : decode cX8_readsCell 127 = .ok (.ireturn, 1) := by decide +kernel
theorem dX8_lineEnds_0 : decode cX8_lineEnds 0 = .ok (.aload_n 0, 1) := by decide +kernel
theorem dX8_lineEnds_1 : decode cX8_lineEnds 1 = .ok (.getfield 161, 3) := by decide +kernel
theorem dX8_lineEnds_4 : decode cX8_lineEnds 4 = .ok (.iconst 1, 1) := by decide +kernel
theorem dX8_lineEnds_5 : decode cX8_lineEnds 5 = .ok (.if_icmp .ne 18, 3) := by decide +kernel
theorem dX8_lineEnds_8 : decode cX8_lineEnds 8 = .ok (.aload_n 0, 1) := by decide +kernel
theorem dX8_lineEnds_9 : decode cX8_lineEnds 9 = .ok (.getfield 167, 3) := by decide +kernel
theorem dX8_lineEnds_12 : decode cX8_lineEnds 12 = .ok (.ifCond .le 7, 3) := by decide +kernel
theorem dX8_lineEnds_15 : decode cX8_lineEnds 15 = .ok (.iconst 1, 1) := by decide +kernel
theorem dX8_lineEnds_16 : decode cX8_lineEnds 16 = .ok (.goto 23, 3) := by decide +kernel
theorem dX8_lineEnds_19 : decode cX8_lineEnds 19 = .ok (.iconst 0, 1) := by decide +kernel
theorem dX8_lineEnds_20 : decode cX8_lineEnds 20 = .ok (.goto 19, 3) := by decide +kernel
theorem dX8_lineEnds_23 : decode cX8_lineEnds 23 = .ok (.aload_n 0, 1) := by decide +kernel
theorem dX8_lineEnds_24 : decode cX8_lineEnds 24 = .ok (.getfield 167, 3) := by decide +kernel
theorem dX8_lineEnds_27 : decode cX8_lineEnds 27 = .ok (.aload_n 0, 1) := by decide +kernel
theorem dX8_lineEnds_28 : decode cX8_lineEnds 28 = .ok (.getfield 164, 3) := by decide +kernel
theorem dX8_lineEnds_31 : decode cX8_lineEnds 31 = .ok (.if_icmp .ne 7, 3) := by decide +kernel
theorem dX8_lineEnds_34 : decode cX8_lineEnds 34 = .ok (.iconst 1, 1) := by decide +kernel
theorem dX8_lineEnds_35 : decode cX8_lineEnds 35 = .ok (.goto 4, 3) := by decide +kernel
theorem dX8_lineEnds_38 : decode cX8_lineEnds 38 = .ok (.iconst 0, 1) := by decide +kernel
theorem dX8_lineEnds_39 : decode cX8_lineEnds 39 = .ok (.ireturn, 1) := by decide +kernel
theorem dX8_readsLines_0 : decode cX8_readsLines 0 = .ok (.aload_n 0, 1) := by decide +kernel
theorem dX8_readsLines_1 : decode cX8_readsLines 1 = .ok (.iconst 1, 1) := by decide +kernel
theorem dX8_readsLines_2 : decode cX8_readsLines 2 = .ok (.putfield 161, 3) := by decide +kernel
theorem dX8_readsLines_5 : decode cX8_readsLines 5 = .ok (.aload_n 0, 1) := by decide +kernel
theorem dX8_readsLines_6 : decode cX8_readsLines 6 = .ok (.iconst 0, 1) := by decide +kernel
theorem dX8_readsLines_7 : decode cX8_readsLines 7 = .ok (.putfield 167, 3) := by decide +kernel
theorem dX8_readsLines_10 : decode cX8_readsLines 10 = .ok (.aload_n 0, 1) := by decide +kernel
theorem dX8_readsLines_11 : decode cX8_readsLines 11 = .ok (.iconst 0, 1) := by decide +kernel
theorem dX8_readsLines_12 : decode cX8_readsLines 12 = .ok (.putfield 170, 3) := by decide +kernel
theorem dX8_readsLines_15 : decode cX8_readsLines 15 = .ok (.aload_n 0, 1) := by decide +kernel
theorem dX8_readsLines_16 : decode cX8_readsLines 16 = .ok (.getfield 173, 3) := by decide +kernel
theorem dX8_readsLines_19 : decode cX8_readsLines 19 = .ok (.aload_n 0, 1) := by decide +kernel
theorem dX8_readsLines_20 : decode cX8_readsLines 20 = .ok (.getfield 22, 3) := by decide +kernel
theorem dX8_readsLines_23 : decode cX8_readsLines 23 = .ok (.iload_n 1, 1) := by decide +kernel
theorem dX8_readsLines_24 : decode cX8_readsLines 24 = .ok (.iaload, 1) := by decide +kernel
theorem dX8_readsLines_25 : decode cX8_readsLines 25 = .ok (.if_icmp .ge 177, 3) := by decide +kernel
theorem dX8_readsLines_28 : decode cX8_readsLines 28 = .ok (.aload_n 0, 1) := by decide +kernel
theorem dX8_readsLines_29 : decode cX8_readsLines 29 = .ok (.iload_n 1, 1) := by decide +kernel
theorem dX8_readsLines_30 : decode cX8_readsLines 30 = .ok (.aload_n 0, 1) := by decide +kernel
theorem dX8_readsLines_31 : decode cX8_readsLines 31 = .ok (.getfield 173, 3) := by decide +kernel
theorem dX8_readsLines_34 : decode cX8_readsLines 34 = .ok (.invokevirtual 176, 3) := by decide +kernel
theorem dX8_readsLines_37 : decode cX8_readsLines 37 = .ok (.istore_n 2, 1) := by decide +kernel
theorem dX8_readsLines_38 : decode cX8_readsLines 38 = .ok (.iload_n 2, 1) := by decide +kernel
theorem dX8_readsLines_39 : decode cX8_readsLines 39 = .ok (.bipush 46, 2) := by decide +kernel
theorem dX8_readsLines_41 : decode cX8_readsLines 41 = .ok (.if_icmp .eq 18, 3) := by decide +kernel
theorem dX8_readsLines_44 : decode cX8_readsLines 44 = .ok (.iload_n 2, 1) := by decide +kernel
theorem dX8_readsLines_45 : decode cX8_readsLines 45 = .ok (.bipush 35, 2) := by decide +kernel
theorem dX8_readsLines_47 : decode cX8_readsLines 47 = .ok (.if_icmp .eq 12, 3) := by decide +kernel
theorem dX8_readsLines_50 : decode cX8_readsLines 50 = .ok (.iload_n 2, 1) := by decide +kernel
theorem dX8_readsLines_51 : decode cX8_readsLines 51 = .ok (.invokestatic 158, 3) := by decide +kernel
theorem dX8_readsLines_54 : decode cX8_readsLines 54 = .ok (.bipush (-9), 2) := by decide +kernel
theorem dX8_readsLines_56 : decode cX8_readsLines 56 = .ok (.if_icmp .eq 7, 3) := by decide +kernel
theorem dX8_readsLines_59 : decode cX8_readsLines 59 = .ok (.iconst 1, 1) := by decide +kernel
theorem dX8_readsLines_60 : decode cX8_readsLines 60 = .ok (.goto 4, 3) := by decide +kernel
theorem dX8_readsLines_63 : decode cX8_readsLines 63 = .ok (.iconst 0, 1) := by decide +kernel
theorem dX8_readsLines_64 : decode cX8_readsLines 64 = .ok (.istore_n 3, 1) := by decide +kernel
theorem dX8_readsLines_65 : decode cX8_readsLines 65 = .ok (.iload_n 3, 1) := by decide +kernel
theorem dX8_readsLines_66 : decode cX8_readsLines 66 = .ok (.ifCond .ne 15, 3) := by decide +kernel
theorem dX8_readsLines_69 : decode cX8_readsLines 69 = .ok (.iload_n 2, 1) := by decide +kernel
theorem dX8_readsLines_70 : decode cX8_readsLines 70 = .ok (.bipush 47, 2) := by decide +kernel
theorem dX8_readsLines_72 : decode cX8_readsLines 72 = .ok (.if_icmp .eq 9, 3) := by decide +kernel
theorem dX8_readsLines_75 : decode cX8_readsLines 75 = .ok (.iload_n 2, 1) := by decide +kernel
theorem dX8_readsLines_76 : decode cX8_readsLines 76 = .ok (.bipush 61, 2) := by decide +kernel
theorem dX8_readsLines_78 : decode cX8_readsLines 78 = .ok (.if_icmp .ne 40, 3) := by decide +kernel
theorem dX8_readsLines_81 : decode cX8_readsLines 81 = .ok (.iload_n 3, 1) := by decide +kernel
theorem dX8_readsLines_82 : decode cX8_readsLines 82 = .ok (.ifCond .eq 11, 3) := by decide +kernel
theorem dX8_readsLines_85 : decode cX8_readsLines 85 = .ok (.aload_n 0, 1) := by decide +kernel
theorem dX8_readsLines_86 : decode cX8_readsLines 86 = .ok (.iload_n 2, 1) := by decide +kernel
theorem dX8_readsLines_87 : decode cX8_readsLines 87 = .ok (.invokevirtual 179, 3) := by decide +kernel
theorem dX8_readsLines_90 : decode cX8_readsLines 90 = .ok (.ifCond .eq 28, 3) := by decide +kernel
theorem dX8_readsLines_93 : decode cX8_readsLines 93 = .ok (.iload_n 3, 1) := by decide +kernel
theorem dX8_readsLines_94 : decode cX8_readsLines 94 = .ok (.ifCond .ne 10, 3) := by decide +kernel
theorem dX8_readsLines_97 : decode cX8_readsLines 97 = .ok (.aload_n 0, 1) := by decide +kernel
theorem dX8_readsLines_98 : decode cX8_readsLines 98 = .ok (.invokevirtual 182, 3) := by decide +kernel
theorem dX8_readsLines_101 : decode cX8_readsLines 101 = .ok (.ifCond .eq 17, 3) := by decide +kernel
theorem dX8_readsLines_104 : decode cX8_readsLines 104 = .ok (.iload_n 2, 1) := by decide +kernel
theorem dX8_readsLines_105 : decode cX8_readsLines 105 = .ok (.bipush 47, 2) := by decide +kernel
theorem dX8_readsLines_107 : decode cX8_readsLines 107 = .ok (.if_icmp .ne 13, 3) := by decide +kernel
theorem dX8_readsLines_110 : decode cX8_readsLines 110 = .ok (.aload_n 0, 1) := by decide +kernel
theorem dX8_readsLines_111 : decode cX8_readsLines 111 = .ok (.getfield 161, 3) := by decide +kernel
theorem dX8_readsLines_114 : decode cX8_readsLines 114 = .ok (.iconst 3, 1) := by decide +kernel
theorem dX8_readsLines_115 : decode cX8_readsLines 115 = .ok (.if_icmp .ne 5, 3) := by decide +kernel
theorem dX8_readsLines_118 : decode cX8_readsLines 118 = .ok (.iconst 0, 1) := by decide +kernel
theorem dX8_readsLines_119 : decode cX8_readsLines 119 = .ok (.ireturn, 1) := by decide +kernel
theorem dX8_readsLines_120 : decode cX8_readsLines 120 = .ok (.iload_n 3, 1) := by decide +kernel
theorem dX8_readsLines_121 : decode cX8_readsLines 121 = .ok (.ifCond .ne 26, 3) := by decide +kernel
theorem dX8_readsLines_124 : decode cX8_readsLines 124 = .ok (.aload_n 0, 1) := by decide +kernel
theorem dX8_readsLines_125 : decode cX8_readsLines 125 = .ok (.aload_n 0, 1) := by decide +kernel
theorem dX8_readsLines_126 : decode cX8_readsLines 126 = .ok (.getfield 161, 3) := by decide +kernel
theorem dX8_readsLines_129 : decode cX8_readsLines 129 = .ok (.iconst 1, 1) := by decide +kernel
theorem dX8_readsLines_130 : decode cX8_readsLines 130 = .ok (.if_icmp .ne 10, 3) := by decide +kernel
theorem dX8_readsLines_133 : decode cX8_readsLines 133 = .ok (.aload_n 0, 1) := by decide +kernel
theorem dX8_readsLines_134 : decode cX8_readsLines 134 = .ok (.getfield 167, 3) := by decide +kernel
theorem dX8_readsLines_137 : decode cX8_readsLines 137 = .ok (.goto 7, 3) := by decide +kernel
theorem dX8_readsLines_140 : decode cX8_readsLines 140 = .ok (.aload_n 0, 1) := by decide +kernel
theorem dX8_readsLines_141 : decode cX8_readsLines 141 = .ok (.getfield 164, 3) := by decide +kernel
theorem dX8_readsLines_144 : decode cX8_readsLines 144 = .ok (.putfield 164, 3) := by decide +kernel
theorem dX8_readsLines_147 : decode cX8_readsLines 147 = .ok (.aload_n 0, 1) := by decide +kernel
theorem dX8_readsLines_148 : decode cX8_readsLines 148 = .ok (.dup, 1) := by decide +kernel
theorem dX8_readsLines_149 : decode cX8_readsLines 149 = .ok (.getfield 173, 3) := by decide +kernel
theorem dX8_readsLines_152 : decode cX8_readsLines 152 = .ok (.iconst 1, 1) := by decide +kernel
theorem dX8_readsLines_153 : decode cX8_readsLines 153 = .ok (.iadd, 1) := by decide +kernel
theorem dX8_readsLines_154 : decode cX8_readsLines 154 = .ok (.putfield 173, 3) := by decide +kernel
theorem dX8_readsLines_157 : decode cX8_readsLines 157 = .ok (.iload_n 2, 1) := by decide +kernel
theorem dX8_readsLines_158 : decode cX8_readsLines 158 = .ok (.bipush 61, 2) := by decide +kernel
theorem dX8_readsLines_160 : decode cX8_readsLines 160 = .ok (.if_icmp .ne 5, 3) := by decide +kernel
theorem dX8_readsLines_163 : decode cX8_readsLines 163 = .ok (.iconst 1, 1) := by decide +kernel
theorem dX8_readsLines_164 : decode cX8_readsLines 164 = .ok (.ireturn, 1) := by decide +kernel
theorem dX8_readsLines_165 : decode cX8_readsLines 165 = .ok (.aload_n 0, 1) := by decide +kernel
theorem dX8_readsLines_166 : decode cX8_readsLines 166 = .ok (.dup, 1) := by decide +kernel
theorem dX8_readsLines_167 : decode cX8_readsLines 167 = .ok (.getfield 161, 3) := by decide +kernel
theorem dX8_readsLines_170 : decode cX8_readsLines 170 = .ok (.iload_n 3, 1) := by decide +kernel
theorem dX8_readsLines_171 : decode cX8_readsLines 171 = .ok (.ifCond .eq 7, 3) := by decide +kernel
theorem dX8_readsLines_174 : decode cX8_readsLines 174 = .ok (.iconst 0, 1) := by decide +kernel
theorem dX8_readsLines_175 : decode cX8_readsLines 175 = .ok (.goto 4, 3) := by decide +kernel
theorem dX8_readsLines_178 : decode cX8_readsLines 178 = .ok (.iconst 1, 1) := by decide +kernel
theorem dX8_readsLines_179 : decode cX8_readsLines 179 = .ok (.iadd, 1) := by decide +kernel
theorem dX8_readsLines_180 : decode cX8_readsLines 180 = .ok (.putfield 161, 3) := by decide +kernel
theorem dX8_readsLines_183 : decode cX8_readsLines 183 = .ok (.aload_n 0, 1) := by decide +kernel
theorem dX8_readsLines_184 : decode cX8_readsLines 184 = .ok (.iload_n 3, 1) := by decide +kernel
theorem dX8_readsLines_185 : decode cX8_readsLines 185 = .ok (.ifCond .eq 10, 3) := by decide +kernel
theorem dX8_readsLines_188 : decode cX8_readsLines 188 = .ok (.aload_n 0, 1) := by decide +kernel
theorem dX8_readsLines_189 : decode cX8_readsLines 189 = .ok (.getfield 167, 3) := by decide +kernel
theorem dX8_readsLines_192 : decode cX8_readsLines 192 = .ok (.goto 4, 3) := by decide +kernel
theorem dX8_readsLines_195 : decode cX8_readsLines 195 = .ok (.iconst 0, 1) := by decide +kernel
theorem dX8_readsLines_196 : decode cX8_readsLines 196 = .ok (.putfield 167, 3) := by decide +kernel
theorem dX8_readsLines_199 : decode cX8_readsLines 199 = .ok (.goto (-184), 3) := by decide +kernel
theorem dX8_readsLines_202 : decode cX8_readsLines 202 = .ok (.iconst 0, 1) := by decide +kernel
theorem dX8_readsLines_203 : decode cX8_readsLines 203 = .ok (.ireturn, 1) := by decide +kernel
theorem dX8_farIn_0 : decode cX8_farIn 0 = .ok (.iload_n 0, 1) := by decide +kernel
theorem dX8_farIn_1 : decode cX8_farIn 1 = .ok (.iload_n 2, 1) := by decide +kernel
theorem dX8_farIn_2 : decode cX8_farIn 2 = .ok (.idiv, 1) := by decide +kernel
theorem dX8_farIn_3 : decode cX8_farIn 3 = .ok (.iload_n 1, 1) := by decide +kernel
theorem dX8_farIn_4 : decode cX8_farIn 4 = .ok (.iload_n 2, 1) := by decide +kernel
theorem dX8_farIn_5 : decode cX8_farIn 5 = .ok (.idiv, 1) := by decide +kernel
theorem dX8_farIn_6 : decode cX8_farIn 6 = .ok (.isub, 1) := by decide +kernel
theorem dX8_farIn_7 : decode cX8_farIn 7 = .ok (.invokestatic 186, 3) := by decide +kernel
theorem dX8_farIn_10 : decode cX8_farIn 10 = .ok (.iload_n 0, 1) := by decide +kernel
theorem dX8_farIn_11 : decode cX8_farIn 11 = .ok (.iload_n 2, 1) := by decide +kernel
theorem dX8_farIn_12 : decode cX8_farIn 12 = .ok (.irem, 1) := by decide +kernel
theorem dX8_farIn_13 : decode cX8_farIn 13 = .ok (.iload_n 1, 1) := by decide +kernel
theorem dX8_farIn_14 : decode cX8_farIn 14 = .ok (.iload_n 2, 1) := by decide +kernel
theorem dX8_farIn_15 : decode cX8_farIn 15 = .ok (.irem, 1) := by decide +kernel
theorem dX8_farIn_16 : decode cX8_farIn 16 = .ok (.isub, 1) := by decide +kernel
theorem dX8_farIn_17 : decode cX8_farIn 17 = .ok (.invokestatic 186, 3) := by decide +kernel
theorem dX8_farIn_20 : decode cX8_farIn 20 = .ok (.iadd, 1) := by decide +kernel
theorem dX8_farIn_21 : decode cX8_farIn 21 = .ok (.ireturn, 1) := by decide +kernel
theorem dX8_reachBy_0 : decode cX8_reachBy 0 = .ok (.iload_n 0, 1) := by decide +kernel
theorem dX8_reachBy_1 : decode cX8_reachBy 1 = .ok (.iload_n 1, 1) := by decide +kernel
theorem dX8_reachBy_2 : decode cX8_reachBy 2 = .ok (.iconst 1, 1) := by decide +kernel
theorem dX8_reachBy_3 : decode cX8_reachBy 3 = .ok (.if_icmp .ne 7, 3) := by decide +kernel
theorem dX8_reachBy_6 : decode cX8_reachBy 6 = .ok (.iconst 1, 1) := by decide +kernel
theorem dX8_reachBy_7 : decode cX8_reachBy 7 = .ok (.goto 4, 3) := by decide +kernel
theorem dX8_reachBy_10 : decode cX8_reachBy 10 = .ok (.iconst 0, 1) := by decide +kernel
theorem dX8_reachBy_11 : decode cX8_reachBy 11 = .ok (.iadd, 1) := by decide +kernel
theorem dX8_reachBy_12 : decode cX8_reachBy 12 = .ok (.iload_n 2, 1) := by decide +kernel
theorem dX8_reachBy_13 : decode cX8_reachBy 13 = .ok (.iconst 1, 1) := by decide +kernel
theorem dX8_reachBy_14 : decode cX8_reachBy 14 = .ok (.if_icmp .ne 7, 3) := by decide +kernel
theorem dX8_reachBy_17 : decode cX8_reachBy 17 = .ok (.iconst 1, 1) := by decide +kernel
theorem dX8_reachBy_18 : decode cX8_reachBy 18 = .ok (.goto 4, 3) := by decide +kernel
theorem dX8_reachBy_21 : decode cX8_reachBy 21 = .ok (.iconst 0, 1) := by decide +kernel
theorem dX8_reachBy_22 : decode cX8_reachBy 22 = .ok (.iadd, 1) := by decide +kernel
theorem dX8_reachBy_23 : decode cX8_reachBy 23 = .ok (.iload_n 1, 1) := by decide +kernel
theorem dX8_reachBy_24 : decode cX8_reachBy 24 = .ok (.iconst 5, 1) := by decide +kernel
theorem dX8_reachBy_25 : decode cX8_reachBy 25 = .ok (.if_icmp .ne 7, 3) := by decide +kernel
theorem dX8_reachBy_28 : decode cX8_reachBy 28 = .ok (.iconst 1, 1) := by decide +kernel
theorem dX8_reachBy_29 : decode cX8_reachBy 29 = .ok (.goto 4, 3) := by decide +kernel
theorem dX8_reachBy_32 : decode cX8_reachBy 32 = .ok (.iconst 0, 1) := by decide +kernel
theorem dX8_reachBy_33 : decode cX8_reachBy 33 = .ok (.isub, 1) := by decide +kernel
theorem dX8_reachBy_34 : decode cX8_reachBy 34 = .ok (.iload_n 2, 1) := by decide +kernel
theorem dX8_reachBy_35 : decode cX8_reachBy 35 = .ok (.iconst 5, 1) := by decide +kernel
theorem dX8_reachBy_36 : decode cX8_reachBy 36 = .ok (.if_icmp .ne 7, 3) := by decide +kernel
theorem dX8_reachBy_39 : decode cX8_reachBy 39 = .ok (.iconst 1, 1) := by decide +kernel
theorem dX8_reachBy_40 : decode cX8_reachBy 40 = .ok (.goto 4, 3) := by decide +kernel
theorem dX8_reachBy_43 : decode cX8_reachBy 43 = .ok (.iconst 0, 1) := by decide +kernel
theorem dX8_reachBy_44 : decode cX8_reachBy 44 = .ok (.isub, 1) := by decide +kernel
theorem dX8_reachBy_45 : decode cX8_reachBy 45 = .ok (.istore_n 3, 1) := by decide +kernel
theorem dX8_reachBy_46 : decode cX8_reachBy 46 = .ok (.iconst 1, 1) := by decide +kernel
theorem dX8_reachBy_47 : decode cX8_reachBy 47 = .ok (.iload_n 3, 1) := by decide +kernel
theorem dX8_reachBy_48 : decode cX8_reachBy 48 = .ok (.invokestatic 189, 3) := by decide +kernel
theorem dX8_reachBy_51 : decode cX8_reachBy 51 = .ok (.ireturn, 1) := by decide +kernel
theorem dX8_readsChains_0 : decode cX8_readsChains 0 = .ok (.aload_n 0, 1) := by decide +kernel
theorem dX8_readsChains_1 : decode cX8_readsChains 1 = .ok (.iload_n 1, 1) := by decide +kernel
theorem dX8_readsChains_2 : decode cX8_readsChains 2 = .ok (.aload_n 0, 1) := by decide +kernel
theorem dX8_readsChains_3 : decode cX8_readsChains 3 = .ok (.getfield 173, 3) := by decide +kernel
theorem dX8_readsChains_6 : decode cX8_readsChains 6 = .ok (.invokevirtual 176, 3) := by decide +kernel
theorem dX8_readsChains_9 : decode cX8_readsChains 9 = .ok (.istore_n 2, 1) := by decide +kernel
theorem dX8_readsChains_10 : decode cX8_readsChains 10 = .ok (.iload_n 2, 1) := by decide +kernel
theorem dX8_readsChains_11 : decode cX8_readsChains 11 = .ok (.bipush 119, 2) := by decide +kernel
theorem dX8_readsChains_13 : decode cX8_readsChains 13 = .ok (.if_icmp .eq 11, 3) := by decide +kernel
theorem dX8_readsChains_16 : decode cX8_readsChains 16 = .ok (.iload_n 2, 1) := by decide +kernel
theorem dX8_readsChains_17 : decode cX8_readsChains 17 = .ok (.bipush 114, 2) := by decide +kernel
theorem dX8_readsChains_19 : decode cX8_readsChains 19 = .ok (.if_icmp .eq 5, 3) := by decide +kernel
theorem dX8_readsChains_22 : decode cX8_readsChains 22 = .ok (.iconst 0, 1) := by decide +kernel
theorem dX8_readsChains_23 : decode cX8_readsChains 23 = .ok (.ireturn, 1) := by decide +kernel
theorem dX8_readsChains_24 : decode cX8_readsChains 24 = .ok (.aload_n 0, 1) := by decide +kernel
theorem dX8_readsChains_25 : decode cX8_readsChains 25 = .ok (.dup, 1) := by decide +kernel
theorem dX8_readsChains_26 : decode cX8_readsChains 26 = .ok (.getfield 173, 3) := by decide +kernel
theorem dX8_readsChains_29 : decode cX8_readsChains 29 = .ok (.iconst 1, 1) := by decide +kernel
theorem dX8_readsChains_30 : decode cX8_readsChains 30 = .ok (.iadd, 1) := by decide +kernel
theorem dX8_readsChains_31 : decode cX8_readsChains 31 = .ok (.putfield 173, 3) := by decide +kernel
theorem dX8_readsChains_34 : decode cX8_readsChains 34 = .ok (.aload_n 0, 1) := by decide +kernel
theorem dX8_readsChains_35 : decode cX8_readsChains 35 = .ok (.iload_n 2, 1) := by decide +kernel
theorem dX8_readsChains_36 : decode cX8_readsChains 36 = .ok (.bipush 114, 2) := by decide +kernel
theorem dX8_readsChains_38 : decode cX8_readsChains 38 = .ok (.if_icmp .ne 7, 3) := by decide +kernel
theorem dX8_readsChains_41 : decode cX8_readsChains 41 = .ok (.iconst 1, 1) := by decide +kernel
theorem dX8_readsChains_42 : decode cX8_readsChains 42 = .ok (.goto 4, 3) := by decide +kernel
theorem dX8_readsChains_45 : decode cX8_readsChains 45 = .ok (.iconst 0, 1) := by decide +kernel
theorem dX8_readsChains_46 : decode cX8_readsChains 46 = .ok (.putfield 192, 3) := by decide +kernel
theorem dX8_readsChains_49 : decode cX8_readsChains 49 = .ok (.aload_n 0, 1) := by decide +kernel
theorem dX8_readsChains_50 : decode cX8_readsChains 50 = .ok (.aload_n 0, 1) := by decide +kernel
theorem dX8_readsChains_51 : decode cX8_readsChains 51 = .ok (.getfield 170, 3) := by decide +kernel
theorem dX8_readsChains_54 : decode cX8_readsChains 54 = .ok (.iconst 2, 1) := by decide +kernel
theorem dX8_readsChains_55 : decode cX8_readsChains 55 = .ok (.if_icmp .ge 7, 3) := by decide +kernel
theorem dX8_readsChains_58 : decode cX8_readsChains 58 = .ok (.iconst 0, 1) := by decide +kernel
theorem dX8_readsChains_59 : decode cX8_readsChains 59 = .ok (.goto 31, 3) := by decide +kernel
theorem dX8_readsChains_62 : decode cX8_readsChains 62 = .ok (.aload_n 0, 1) := by decide +kernel
theorem dX8_readsChains_63 : decode cX8_readsChains 63 = .ok (.getfield 192, 3) := by decide +kernel
theorem dX8_readsChains_66 : decode cX8_readsChains 66 = .ok (.ifCond .eq 18, 3) := by decide +kernel
theorem dX8_readsChains_69 : decode cX8_readsChains 69 = .ok (.aload_n 0, 1) := by decide +kernel
theorem dX8_readsChains_70 : decode cX8_readsChains 70 = .ok (.getfield 170, 3) := by decide +kernel
theorem dX8_readsChains_73 : decode cX8_readsChains 73 = .ok (.iconst 2, 1) := by decide +kernel
theorem dX8_readsChains_74 : decode cX8_readsChains 74 = .ok (.if_icmp .le 10, 3) := by decide +kernel
theorem dX8_readsChains_77 : decode cX8_readsChains 77 = .ok (.aload_n 0, 1) := by decide +kernel
theorem dX8_readsChains_78 : decode cX8_readsChains 78 = .ok (.getfield 170, 3) := by decide +kernel
theorem dX8_readsChains_81 : decode cX8_readsChains 81 = .ok (.goto 9, 3) := by decide +kernel
theorem dX8_readsChains_84 : decode cX8_readsChains 84 = .ok (.aload_n 0, 1) := by decide +kernel
theorem dX8_readsChains_85 : decode cX8_readsChains 85 = .ok (.getfield 170, 3) := by decide +kernel
theorem dX8_readsChains_88 : decode cX8_readsChains 88 = .ok (.iconst 1, 1) := by decide +kernel
theorem dX8_readsChains_89 : decode cX8_readsChains 89 = .ok (.isub, 1) := by decide +kernel
theorem dX8_readsChains_90 : decode cX8_readsChains 90 = .ok (.putfield 196, 3) := by decide +kernel
theorem dX8_readsChains_93 : decode cX8_readsChains 93 = .ok (.iconst 0, 1) := by decide +kernel
theorem dX8_readsChains_94 : decode cX8_readsChains 94 = .ok (.istore_n 3, 1) := by decide +kernel
theorem dX8_readsChains_95 : decode cX8_readsChains 95 = .ok (.iload_n 3, 1) := by decide +kernel
theorem dX8_readsChains_96 : decode cX8_readsChains 96 = .ok (.aload_n 0, 1) := by decide +kernel
theorem dX8_readsChains_97 : decode cX8_readsChains 97 = .ok (.getfield 196, 3) := by decide +kernel
theorem dX8_readsChains_100 : decode cX8_readsChains 100 = .ok (.if_icmp .ge 102, 3) := by decide +kernel
theorem dX8_readsChains_103 : decode cX8_readsChains 103 = .ok (.aload_n 0, 1) := by decide +kernel
theorem dX8_readsChains_104 : decode cX8_readsChains 104 = .ok (.iload_n 1, 1) := by decide +kernel
theorem dX8_readsChains_105 : decode cX8_readsChains 105 = .ok (.aload_n 0, 1) := by decide +kernel
theorem dX8_readsChains_106 : decode cX8_readsChains 106 = .ok (.getfield 173, 3) := by decide +kernel
theorem dX8_readsChains_109 : decode cX8_readsChains 109 = .ok (.invokevirtual 176, 3) := by decide +kernel
theorem dX8_readsChains_112 : decode cX8_readsChains 112 = .ok (.bipush 48, 2) := by decide +kernel
theorem dX8_readsChains_114 : decode cX8_readsChains 114 = .ok (.isub, 1) := by decide +kernel
theorem dX8_readsChains_115 : decode cX8_readsChains 115 = .ok (.istore 4, 2) := by decide +kernel
theorem dX8_readsChains_117 : decode cX8_readsChains 117 = .ok (.iload_n 3, 1) := by decide +kernel
theorem dX8_readsChains_118 : decode cX8_readsChains 118 = .ok (.iconst 1, 1) := by decide +kernel
theorem dX8_readsChains_119 : decode cX8_readsChains 119 = .ok (.iadd, 1) := by decide +kernel
theorem dX8_readsChains_120 : decode cX8_readsChains 120 = .ok (.aload_n 0, 1) := by decide +kernel
theorem dX8_readsChains_121 : decode cX8_readsChains 121 = .ok (.getfield 170, 3) := by decide +kernel
theorem dX8_readsChains_124 : decode cX8_readsChains 124 = .ok (.irem, 1) := by decide +kernel
theorem dX8_readsChains_125 : decode cX8_readsChains 125 = .ok (.istore 5, 2) := by decide +kernel
theorem dX8_readsChains_127 : decode cX8_readsChains 127 = .ok (.iload 4, 2) := by decide +kernel
theorem dX8_readsChains_129 : decode cX8_readsChains 129 = .ok (.iconst 1, 1) := by decide +kernel
theorem dX8_readsChains_130 : decode cX8_readsChains 130 = .ok (.bipush 9, 2) := by decide +kernel
theorem dX8_readsChains_132 : decode cX8_readsChains 132 = .ok (.invokestatic 133, 3) := by decide +kernel
theorem dX8_readsChains_135 : decode cX8_readsChains 135 = .ok (.ifCond .eq 41, 3) := by decide +kernel
theorem dX8_readsChains_138 : decode cX8_readsChains 138 = .ok (.aload_n 0, 1) := by decide +kernel
theorem dX8_readsChains_139 : decode cX8_readsChains 139 = .ok (.getfield 50, 3) := by decide +kernel
theorem dX8_readsChains_142 : decode cX8_readsChains 142 = .ok (.iload_n 3, 1) := by decide +kernel
theorem dX8_readsChains_143 : decode cX8_readsChains 143 = .ok (.iaload, 1) := by decide +kernel
theorem dX8_readsChains_144 : decode cX8_readsChains 144 = .ok (.aload_n 0, 1) := by decide +kernel
theorem dX8_readsChains_145 : decode cX8_readsChains 145 = .ok (.getfield 50, 3) := by decide +kernel
theorem dX8_readsChains_148 : decode cX8_readsChains 148 = .ok (.iload 5, 2) := by decide +kernel
theorem dX8_readsChains_150 : decode cX8_readsChains 150 = .ok (.iaload, 1) := by decide +kernel
theorem dX8_readsChains_151 : decode cX8_readsChains 151 = .ok (.iconst 4, 1) := by decide +kernel
theorem dX8_readsChains_152 : decode cX8_readsChains 152 = .ok (.invokestatic 199, 3) := by decide +kernel
theorem dX8_readsChains_155 : decode cX8_readsChains 155 = .ok (.iload 4, 2) := by decide +kernel
theorem dX8_readsChains_157 : decode cX8_readsChains 157 = .ok (.aload_n 0, 1) := by decide +kernel
theorem dX8_readsChains_158 : decode cX8_readsChains 158 = .ok (.getfield 47, 3) := by decide +kernel
theorem dX8_readsChains_161 : decode cX8_readsChains 161 = .ok (.iload_n 3, 1) := by decide +kernel
theorem dX8_readsChains_162 : decode cX8_readsChains 162 = .ok (.iaload, 1) := by decide +kernel
theorem dX8_readsChains_163 : decode cX8_readsChains 163 = .ok (.aload_n 0, 1) := by decide +kernel
theorem dX8_readsChains_164 : decode cX8_readsChains 164 = .ok (.getfield 47, 3) := by decide +kernel
theorem dX8_readsChains_167 : decode cX8_readsChains 167 = .ok (.iload 5, 2) := by decide +kernel
theorem dX8_readsChains_169 : decode cX8_readsChains 169 = .ok (.iaload, 1) := by decide +kernel
theorem dX8_readsChains_170 : decode cX8_readsChains 170 = .ok (.invokestatic 203, 3) := by decide +kernel
theorem dX8_readsChains_173 : decode cX8_readsChains 173 = .ok (.if_icmp .le 5, 3) := by decide +kernel
theorem dX8_readsChains_176 : decode cX8_readsChains 176 = .ok (.iconst 0, 1) := by decide +kernel
theorem dX8_readsChains_177 : decode cX8_readsChains 177 = .ok (.ireturn, 1) := by decide +kernel
theorem dX8_readsChains_178 : decode cX8_readsChains 178 = .ok (.aload_n 0, 1) := by decide +kernel
theorem dX8_readsChains_179 : decode cX8_readsChains 179 = .ok (.getfield 53, 3) := by decide +kernel
theorem dX8_readsChains_182 : decode cX8_readsChains 182 = .ok (.iload_n 3, 1) := by decide +kernel
theorem dX8_readsChains_183 : decode cX8_readsChains 183 = .ok (.iload 4, 2) := by decide +kernel
theorem dX8_readsChains_185 : decode cX8_readsChains 185 = .ok (.iastore, 1) := by decide +kernel
theorem dX8_readsChains_186 : decode cX8_readsChains 186 = .ok (.aload_n 0, 1) := by decide +kernel
theorem dX8_readsChains_187 : decode cX8_readsChains 187 = .ok (.dup, 1) := by decide +kernel
theorem dX8_readsChains_188 : decode cX8_readsChains 188 = .ok (.getfield 173, 3) := by decide +kernel
theorem dX8_readsChains_191 : decode cX8_readsChains 191 = .ok (.iconst 1, 1) := by decide +kernel
theorem dX8_readsChains_192 : decode cX8_readsChains 192 = .ok (.iadd, 1) := by decide +kernel
theorem dX8_readsChains_193 : decode cX8_readsChains 193 = .ok (.putfield 173, 3) := by decide +kernel
theorem dX8_readsChains_196 : decode cX8_readsChains 196 = .ok (.iinc 3 1, 3) := by decide +kernel
theorem dX8_readsChains_199 : decode cX8_readsChains 199 = .ok (.goto (-104), 3) := by decide +kernel
theorem dX8_readsChains_202 : decode cX8_readsChains 202 = .ok (.iconst 1, 1) := by decide +kernel
theorem dX8_readsChains_203 : decode cX8_readsChains 203 = .ok (.ireturn, 1) := by decide +kernel
theorem dX8_faultOf_0 : decode cX8_faultOf 0 = .ok (.aload_n 0, 1) := by decide +kernel
theorem dX8_faultOf_1 : decode cX8_faultOf 1 = .ok (.iconst 0, 1) := by decide +kernel
theorem dX8_faultOf_2 : decode cX8_faultOf 2 = .ok (.putfield 173, 3) := by decide +kernel
theorem dX8_faultOf_5 : decode cX8_faultOf 5 = .ok (.aload_n 0, 1) := by decide +kernel
theorem dX8_faultOf_6 : decode cX8_faultOf 6 = .ok (.getfield 173, 3) := by decide +kernel
theorem dX8_faultOf_9 : decode cX8_faultOf 9 = .ok (.aload_n 0, 1) := by decide +kernel
theorem dX8_faultOf_10 : decode cX8_faultOf 10 = .ok (.getfield 22, 3) := by decide +kernel
theorem dX8_faultOf_13 : decode cX8_faultOf 13 = .ok (.iload_n 1, 1) := by decide +kernel
theorem dX8_faultOf_14 : decode cX8_faultOf 14 = .ok (.iaload, 1) := by decide +kernel
theorem dX8_faultOf_15 : decode cX8_faultOf 15 = .ok (.if_icmp .ge 30, 3) := by decide +kernel
theorem dX8_faultOf_18 : decode cX8_faultOf 18 = .ok (.aload_n 0, 1) := by decide +kernel
theorem dX8_faultOf_19 : decode cX8_faultOf 19 = .ok (.iload_n 1, 1) := by decide +kernel
theorem dX8_faultOf_20 : decode cX8_faultOf 20 = .ok (.aload_n 0, 1) := by decide +kernel
theorem dX8_faultOf_21 : decode cX8_faultOf 21 = .ok (.getfield 173, 3) := by decide +kernel
theorem dX8_faultOf_24 : decode cX8_faultOf 24 = .ok (.invokevirtual 176, 3) := by decide +kernel
theorem dX8_faultOf_27 : decode cX8_faultOf 27 = .ok (.bipush 32, 2) := by decide +kernel
theorem dX8_faultOf_29 : decode cX8_faultOf 29 = .ok (.if_icmp .ne 16, 3) := by decide +kernel
theorem dX8_faultOf_32 : decode cX8_faultOf 32 = .ok (.aload_n 0, 1) := by decide +kernel
theorem dX8_faultOf_33 : decode cX8_faultOf 33 = .ok (.dup, 1) := by decide +kernel
theorem dX8_faultOf_34 : decode cX8_faultOf 34 = .ok (.getfield 173, 3) := by decide +kernel
theorem dX8_faultOf_37 : decode cX8_faultOf 37 = .ok (.iconst 1, 1) := by decide +kernel
theorem dX8_faultOf_38 : decode cX8_faultOf 38 = .ok (.iadd, 1) := by decide +kernel
theorem dX8_faultOf_39 : decode cX8_faultOf 39 = .ok (.putfield 173, 3) := by decide +kernel
theorem dX8_faultOf_42 : decode cX8_faultOf 42 = .ok (.goto (-37), 3) := by decide +kernel
theorem dX8_faultOf_45 : decode cX8_faultOf 45 = .ok (.aload_n 0, 1) := by decide +kernel
theorem dX8_faultOf_46 : decode cX8_faultOf 46 = .ok (.iload_n 1, 1) := by decide +kernel
theorem dX8_faultOf_47 : decode cX8_faultOf 47 = .ok (.invokevirtual 206, 3) := by decide +kernel
theorem dX8_faultOf_50 : decode cX8_faultOf 50 = .ok (.ifCond .eq 11, 3) := by decide +kernel
theorem dX8_faultOf_53 : decode cX8_faultOf 53 = .ok (.aload_n 0, 1) := by decide +kernel
theorem dX8_faultOf_54 : decode cX8_faultOf 54 = .ok (.iload_n 1, 1) := by decide +kernel
theorem dX8_faultOf_55 : decode cX8_faultOf 55 = .ok (.invokevirtual 209, 3) := by decide +kernel
theorem dX8_faultOf_58 : decode cX8_faultOf 58 = .ok (.ifCond .ne 8, 3) := by decide +kernel
theorem dX8_faultOf_61 : decode cX8_faultOf 61 = .ok (.aload_n 0, 1) := by decide +kernel
theorem dX8_faultOf_62 : decode cX8_faultOf 62 = .ok (.getfield 173, 3) := by decide +kernel
theorem dX8_faultOf_65 : decode cX8_faultOf 65 = .ok (.ireturn, 1) := by decide +kernel
theorem dX8_faultOf_66 : decode cX8_faultOf 66 = .ok (.aload_n 0, 1) := by decide +kernel
theorem dX8_faultOf_67 : decode cX8_faultOf 67 = .ok (.getfield 173, 3) := by decide +kernel
theorem dX8_faultOf_70 : decode cX8_faultOf 70 = .ok (.aload_n 0, 1) := by decide +kernel
theorem dX8_faultOf_71 : decode cX8_faultOf 71 = .ok (.getfield 22, 3) := by decide +kernel
theorem dX8_faultOf_74 : decode cX8_faultOf 74 = .ok (.iload_n 1, 1) := by decide +kernel
theorem dX8_faultOf_75 : decode cX8_faultOf 75 = .ok (.iaload, 1) := by decide +kernel
theorem dX8_faultOf_76 : decode cX8_faultOf 76 = .ok (.if_icmp .ge 35, 3) := by decide +kernel
theorem dX8_faultOf_79 : decode cX8_faultOf 79 = .ok (.aload_n 0, 1) := by decide +kernel
theorem dX8_faultOf_80 : decode cX8_faultOf 80 = .ok (.iload_n 1, 1) := by decide +kernel
theorem dX8_faultOf_81 : decode cX8_faultOf 81 = .ok (.aload_n 0, 1) := by decide +kernel
theorem dX8_faultOf_82 : decode cX8_faultOf 82 = .ok (.getfield 173, 3) := by decide +kernel
theorem dX8_faultOf_85 : decode cX8_faultOf 85 = .ok (.invokevirtual 176, 3) := by decide +kernel
theorem dX8_faultOf_88 : decode cX8_faultOf 88 = .ok (.bipush 32, 2) := by decide +kernel
theorem dX8_faultOf_90 : decode cX8_faultOf 90 = .ok (.if_icmp .eq 8, 3) := by decide +kernel
theorem dX8_faultOf_93 : decode cX8_faultOf 93 = .ok (.aload_n 0, 1) := by decide +kernel
theorem dX8_faultOf_94 : decode cX8_faultOf 94 = .ok (.getfield 173, 3) := by decide +kernel
theorem dX8_faultOf_97 : decode cX8_faultOf 97 = .ok (.ireturn, 1) := by decide +kernel
theorem dX8_faultOf_98 : decode cX8_faultOf 98 = .ok (.aload_n 0, 1) := by decide +kernel
theorem dX8_faultOf_99 : decode cX8_faultOf 99 = .ok (.dup, 1) := by decide +kernel
theorem dX8_faultOf_100 : decode cX8_faultOf 100 = .ok (.getfield 173, 3) := by decide +kernel
theorem dX8_faultOf_103 : decode cX8_faultOf 103 = .ok (.iconst 1, 1) := by decide +kernel
theorem dX8_faultOf_104 : decode cX8_faultOf 104 = .ok (.iadd, 1) := by decide +kernel
theorem dX8_faultOf_105 : decode cX8_faultOf 105 = .ok (.putfield 173, 3) := by decide +kernel
theorem dX8_faultOf_108 : decode cX8_faultOf 108 = .ok (.goto (-42), 3) := by decide +kernel
theorem dX8_faultOf_111 : decode cX8_faultOf 111 = .ok (.bipush (-9), 2) := by decide +kernel
theorem dX8_faultOf_113 : decode cX8_faultOf 113 = .ok (.ireturn, 1) := by decide +kernel
theorem dX8_fault_0 : decode cX8_fault 0 = .ok (.iload_n 1, 1) := by decide +kernel
theorem dX8_fault_1 : decode cX8_fault 1 = .ok (.invokestatic 155, 3) := by decide +kernel
theorem dX8_fault_4 : decode cX8_fault 4 = .ok (.ifCond .ne 5, 3) := by decide +kernel
theorem dX8_fault_7 : decode cX8_fault 7 = .ok (.iconst (-1), 1) := by decide +kernel
theorem dX8_fault_8 : decode cX8_fault 8 = .ok (.ireturn, 1) := by decide +kernel
theorem dX8_fault_9 : decode cX8_fault 9 = .ok (.aload_n 0, 1) := by decide +kernel
theorem dX8_fault_10 : decode cX8_fault 10 = .ok (.getfield 22, 3) := by decide +kernel
theorem dX8_fault_13 : decode cX8_fault 13 = .ok (.iload_n 1, 1) := by decide +kernel
theorem dX8_fault_14 : decode cX8_fault 14 = .ok (.iaload, 1) := by decide +kernel
theorem dX8_fault_15 : decode cX8_fault 15 = .ok (.ifCond .ge 11, 3) := by decide +kernel
theorem dX8_fault_18 : decode cX8_fault 18 = .ok (.aload_n 0, 1) := by decide +kernel
theorem dX8_fault_19 : decode cX8_fault 19 = .ok (.iconst 1, 1) := by decide +kernel
theorem dX8_fault_20 : decode cX8_fault 20 = .ok (.invokevirtual 144, 3) := by decide +kernel
theorem dX8_fault_23 : decode cX8_fault 23 = .ok (.goto 8, 3) := by decide +kernel
theorem dX8_fault_26 : decode cX8_fault 26 = .ok (.aload_n 0, 1) := by decide +kernel
theorem dX8_fault_27 : decode cX8_fault 27 = .ok (.iload_n 1, 1) := by decide +kernel
theorem dX8_fault_28 : decode cX8_fault 28 = .ok (.invokevirtual 212, 3) := by decide +kernel
theorem dX8_fault_31 : decode cX8_fault 31 = .ok (.ireturn, 1) := by decide +kernel
theorem dX8_yard_0 : decode cX8_yard 0 = .ok (.iload_n 1, 1) := by decide +kernel
theorem dX8_yard_1 : decode cX8_yard 1 = .ok (.invokestatic 155, 3) := by decide +kernel
theorem dX8_yard_4 : decode cX8_yard 4 = .ok (.ifCond .ne 5, 3) := by decide +kernel
theorem dX8_yard_7 : decode cX8_yard 7 = .ok (.iconst (-1), 1) := by decide +kernel
theorem dX8_yard_8 : decode cX8_yard 8 = .ok (.ireturn, 1) := by decide +kernel
theorem dX8_yard_9 : decode cX8_yard 9 = .ok (.aload_n 0, 1) := by decide +kernel
theorem dX8_yard_10 : decode cX8_yard 10 = .ok (.getfield 22, 3) := by decide +kernel
theorem dX8_yard_13 : decode cX8_yard 13 = .ok (.iload_n 1, 1) := by decide +kernel
theorem dX8_yard_14 : decode cX8_yard 14 = .ok (.iaload, 1) := by decide +kernel
theorem dX8_yard_15 : decode cX8_yard 15 = .ok (.ifCond .ge 9, 3) := by decide +kernel
theorem dX8_yard_18 : decode cX8_yard 18 = .ok (.aload_n 0, 1) := by decide +kernel
theorem dX8_yard_19 : decode cX8_yard 19 = .ok (.iconst 1, 1) := by decide +kernel
theorem dX8_yard_20 : decode cX8_yard 20 = .ok (.invokevirtual 144, 3) := by decide +kernel
theorem dX8_yard_23 : decode cX8_yard 23 = .ok (.ireturn, 1) := by decide +kernel
theorem dX8_yard_24 : decode cX8_yard 24 = .ok (.aload_n 0, 1) := by decide +kernel
theorem dX8_yard_25 : decode cX8_yard 25 = .ok (.iload_n 1, 1) := by decide +kernel
theorem dX8_yard_26 : decode cX8_yard 26 = .ok (.invokevirtual 212, 3) := by decide +kernel
theorem dX8_yard_29 : decode cX8_yard 29 = .ok (.bipush (-9), 2) := by decide +kernel
theorem dX8_yard_31 : decode cX8_yard 31 = .ok (.if_icmp .eq 6, 3) := by decide +kernel
theorem dX8_yard_34 : decode cX8_yard 34 = .ok (.bipush (-4), 2) := by decide +kernel
theorem dX8_yard_36 : decode cX8_yard 36 = .ok (.ireturn, 1) := by decide +kernel
theorem dX8_yard_37 : decode cX8_yard 37 = .ok (.aload_n 0, 1) := by decide +kernel
theorem dX8_yard_38 : decode cX8_yard 38 = .ok (.aload_n 0, 1) := by decide +kernel
theorem dX8_yard_39 : decode cX8_yard 39 = .ok (.getfield 161, 3) := by decide +kernel
theorem dX8_yard_42 : decode cX8_yard 42 = .ok (.putfield 215, 3) := by decide +kernel
theorem dX8_yard_45 : decode cX8_yard 45 = .ok (.aload_n 0, 1) := by decide +kernel
theorem dX8_yard_46 : decode cX8_yard 46 = .ok (.aload_n 0, 1) := by decide +kernel
theorem dX8_yard_47 : decode cX8_yard 47 = .ok (.getfield 164, 3) := by decide +kernel
theorem dX8_yard_50 : decode cX8_yard 50 = .ok (.putfield 218, 3) := by decide +kernel
theorem dX8_yard_53 : decode cX8_yard 53 = .ok (.aload_n 0, 1) := by decide +kernel
theorem dX8_yard_54 : decode cX8_yard 54 = .ok (.aload_n 0, 1) := by decide +kernel
theorem dX8_yard_55 : decode cX8_yard 55 = .ok (.getfield 170, 3) := by decide +kernel
theorem dX8_yard_58 : decode cX8_yard 58 = .ok (.putfield 221, 3) := by decide +kernel
theorem dX8_yard_61 : decode cX8_yard 61 = .ok (.aload_n 0, 1) := by decide +kernel
theorem dX8_yard_62 : decode cX8_yard 62 = .ok (.aload_n 0, 1) := by decide +kernel
theorem dX8_yard_63 : decode cX8_yard 63 = .ok (.getfield 192, 3) := by decide +kernel
theorem dX8_yard_66 : decode cX8_yard 66 = .ok (.putfield 224, 3) := by decide +kernel
theorem dX8_yard_69 : decode cX8_yard 69 = .ok (.aload_n 0, 1) := by decide +kernel
theorem dX8_yard_70 : decode cX8_yard 70 = .ok (.aload_n 0, 1) := by decide +kernel
theorem dX8_yard_71 : decode cX8_yard 71 = .ok (.getfield 196, 3) := by decide +kernel
theorem dX8_yard_74 : decode cX8_yard 74 = .ok (.putfield 227, 3) := by decide +kernel
theorem dX8_yard_77 : decode cX8_yard 77 = .ok (.iconst 0, 1) := by decide +kernel
theorem dX8_yard_78 : decode cX8_yard 78 = .ok (.istore_n 2, 1) := by decide +kernel
theorem dX8_yard_79 : decode cX8_yard 79 = .ok (.iload_n 2, 1) := by decide +kernel
theorem dX8_yard_80 : decode cX8_yard 80 = .ok (.aload_n 0, 1) := by decide +kernel
theorem dX8_yard_81 : decode cX8_yard 81 = .ok (.getfield 215, 3) := by decide +kernel
theorem dX8_yard_84 : decode cX8_yard 84 = .ok (.if_icmp .ge 48, 3) := by decide +kernel
theorem dX8_yard_87 : decode cX8_yard 87 = .ok (.iconst 0, 1) := by decide +kernel
theorem dX8_yard_88 : decode cX8_yard 88 = .ok (.istore_n 3, 1) := by decide +kernel
theorem dX8_yard_89 : decode cX8_yard 89 = .ok (.iload_n 3, 1) := by decide +kernel
theorem dX8_yard_90 : decode cX8_yard 90 = .ok (.aload_n 0, 1) := by decide +kernel
theorem dX8_yard_91 : decode cX8_yard 91 = .ok (.getfield 218, 3) := by decide +kernel
theorem dX8_yard_94 : decode cX8_yard 94 = .ok (.if_icmp .ge 32, 3) := by decide +kernel
theorem dX8_yard_97 : decode cX8_yard 97 = .ok (.aload_n 0, 1) := by decide +kernel
theorem dX8_yard_98 : decode cX8_yard 98 = .ok (.getfield 29, 3) := by decide +kernel
theorem dX8_yard_101 : decode cX8_yard 101 = .ok (.aload_n 0, 1) := by decide +kernel
theorem dX8_yard_102 : decode cX8_yard 102 = .ok (.getfield 218, 3) := by decide +kernel
theorem dX8_yard_105 : decode cX8_yard 105 = .ok (.iload_n 2, 1) := by decide +kernel
theorem dX8_yard_106 : decode cX8_yard 106 = .ok (.imul, 1) := by decide +kernel
theorem dX8_yard_107 : decode cX8_yard 107 = .ok (.iload_n 3, 1) := by decide +kernel
theorem dX8_yard_108 : decode cX8_yard 108 = .ok (.iadd, 1) := by decide +kernel
theorem dX8_yard_109 : decode cX8_yard 109 = .ok (.aload_n 0, 1) := by decide +kernel
theorem dX8_yard_110 : decode cX8_yard 110 = .ok (.getfield 44, 3) := by decide +kernel
theorem dX8_yard_113 : decode cX8_yard 113 = .ok (.iconst 4, 1) := by decide +kernel
theorem dX8_yard_114 : decode cX8_yard 114 = .ok (.iload_n 2, 1) := by decide +kernel
theorem dX8_yard_115 : decode cX8_yard 115 = .ok (.imul, 1) := by decide +kernel
theorem dX8_yard_116 : decode cX8_yard 116 = .ok (.iload_n 3, 1) := by decide +kernel
theorem dX8_yard_117 : decode cX8_yard 117 = .ok (.iadd, 1) := by decide +kernel
theorem dX8_yard_118 : decode cX8_yard 118 = .ok (.iaload, 1) := by decide +kernel
theorem dX8_yard_119 : decode cX8_yard 119 = .ok (.iastore, 1) := by decide +kernel
theorem dX8_yard_120 : decode cX8_yard 120 = .ok (.iinc 3 1, 3) := by decide +kernel
theorem dX8_yard_123 : decode cX8_yard 123 = .ok (.goto (-34), 3) := by decide +kernel
theorem dX8_yard_126 : decode cX8_yard 126 = .ok (.iinc 2 1, 3) := by decide +kernel
theorem dX8_yard_129 : decode cX8_yard 129 = .ok (.goto (-50), 3) := by decide +kernel
theorem dX8_yard_132 : decode cX8_yard 132 = .ok (.iconst 0, 1) := by decide +kernel
theorem dX8_yard_133 : decode cX8_yard 133 = .ok (.istore_n 2, 1) := by decide +kernel
theorem dX8_yard_134 : decode cX8_yard 134 = .ok (.iload_n 2, 1) := by decide +kernel
theorem dX8_yard_135 : decode cX8_yard 135 = .ok (.aload_n 0, 1) := by decide +kernel
theorem dX8_yard_136 : decode cX8_yard 136 = .ok (.getfield 221, 3) := by decide +kernel
theorem dX8_yard_139 : decode cX8_yard 139 = .ok (.if_icmp .ge 49, 3) := by decide +kernel
theorem dX8_yard_142 : decode cX8_yard 142 = .ok (.aload_n 0, 1) := by decide +kernel
theorem dX8_yard_143 : decode cX8_yard 143 = .ok (.getfield 32, 3) := by decide +kernel
theorem dX8_yard_146 : decode cX8_yard 146 = .ok (.iload_n 2, 1) := by decide +kernel
theorem dX8_yard_147 : decode cX8_yard 147 = .ok (.aload_n 0, 1) := by decide +kernel
theorem dX8_yard_148 : decode cX8_yard 148 = .ok (.getfield 47, 3) := by decide +kernel
theorem dX8_yard_151 : decode cX8_yard 151 = .ok (.iload_n 2, 1) := by decide +kernel
theorem dX8_yard_152 : decode cX8_yard 152 = .ok (.iaload, 1) := by decide +kernel
theorem dX8_yard_153 : decode cX8_yard 153 = .ok (.iastore, 1) := by decide +kernel
theorem dX8_yard_154 : decode cX8_yard 154 = .ok (.aload_n 0, 1) := by decide +kernel
theorem dX8_yard_155 : decode cX8_yard 155 = .ok (.getfield 35, 3) := by decide +kernel
theorem dX8_yard_158 : decode cX8_yard 158 = .ok (.iload_n 2, 1) := by decide +kernel
theorem dX8_yard_159 : decode cX8_yard 159 = .ok (.aload_n 0, 1) := by decide +kernel
theorem dX8_yard_160 : decode cX8_yard 160 = .ok (.getfield 218, 3) := by decide +kernel
theorem dX8_yard_163 : decode cX8_yard 163 = .ok (.aload_n 0, 1) := by decide +kernel
theorem dX8_yard_164 : decode cX8_yard 164 = .ok (.getfield 50, 3) := by decide +kernel
theorem dX8_yard_167 : decode cX8_yard 167 = .ok (.iload_n 2, 1) := by decide +kernel
theorem dX8_yard_168 : decode cX8_yard 168 = .ok (.iaload, 1) := by decide +kernel
theorem dX8_yard_169 : decode cX8_yard 169 = .ok (.iconst 4, 1) := by decide +kernel
theorem dX8_yard_170 : decode cX8_yard 170 = .ok (.idiv, 1) := by decide +kernel
theorem dX8_yard_171 : decode cX8_yard 171 = .ok (.imul, 1) := by decide +kernel
theorem dX8_yard_172 : decode cX8_yard 172 = .ok (.aload_n 0, 1) := by decide +kernel
theorem dX8_yard_173 : decode cX8_yard 173 = .ok (.getfield 50, 3) := by decide +kernel
theorem dX8_yard_176 : decode cX8_yard 176 = .ok (.iload_n 2, 1) := by decide +kernel
theorem dX8_yard_177 : decode cX8_yard 177 = .ok (.iaload, 1) := by decide +kernel
theorem dX8_yard_178 : decode cX8_yard 178 = .ok (.iconst 4, 1) := by decide +kernel
theorem dX8_yard_179 : decode cX8_yard 179 = .ok (.irem, 1) := by decide +kernel
theorem dX8_yard_180 : decode cX8_yard 180 = .ok (.iadd, 1) := by decide +kernel
theorem dX8_yard_181 : decode cX8_yard 181 = .ok (.iastore, 1) := by decide +kernel
theorem dX8_yard_182 : decode cX8_yard 182 = .ok (.iinc 2 1, 3) := by decide +kernel
theorem dX8_yard_185 : decode cX8_yard 185 = .ok (.goto (-51), 3) := by decide +kernel
theorem dX8_yard_188 : decode cX8_yard 188 = .ok (.iconst 0, 1) := by decide +kernel
theorem dX8_yard_189 : decode cX8_yard 189 = .ok (.istore_n 2, 1) := by decide +kernel
theorem dX8_yard_190 : decode cX8_yard 190 = .ok (.iload_n 2, 1) := by decide +kernel
theorem dX8_yard_191 : decode cX8_yard 191 = .ok (.aload_n 0, 1) := by decide +kernel
theorem dX8_yard_192 : decode cX8_yard 192 = .ok (.getfield 227, 3) := by decide +kernel
theorem dX8_yard_195 : decode cX8_yard 195 = .ok (.if_icmp .ge 28, 3) := by decide +kernel
theorem dX8_yard_198 : decode cX8_yard 198 = .ok (.aload_n 0, 1) := by decide +kernel
theorem dX8_yard_199 : decode cX8_yard 199 = .ok (.getfield 38, 3) := by decide +kernel
theorem dX8_yard_202 : decode cX8_yard 202 = .ok (.iload_n 2, 1) := by decide +kernel
theorem dX8_yard_203 : decode cX8_yard 203 = .ok (.aload_n 0, 1) := by decide +kernel
theorem dX8_yard_204 : decode cX8_yard 204 = .ok (.getfield 53, 3) := by decide +kernel
theorem dX8_yard_207 : decode cX8_yard 207 = .ok (.iload_n 2, 1) := by decide +kernel
theorem dX8_yard_208 : decode cX8_yard 208 = .ok (.iaload, 1) := by decide +kernel
theorem dX8_yard_209 : decode cX8_yard 209 = .ok (.iastore, 1) := by decide +kernel
theorem dX8_yard_210 : decode cX8_yard 210 = .ok (.aload_n 0, 1) := by decide +kernel
theorem dX8_yard_211 : decode cX8_yard 211 = .ok (.getfield 41, 3) := by decide +kernel
theorem dX8_yard_214 : decode cX8_yard 214 = .ok (.iload_n 2, 1) := by decide +kernel
theorem dX8_yard_215 : decode cX8_yard 215 = .ok (.iconst 0, 1) := by decide +kernel
theorem dX8_yard_216 : decode cX8_yard 216 = .ok (.iastore, 1) := by decide +kernel
theorem dX8_yard_217 : decode cX8_yard 217 = .ok (.iinc 2 1, 3) := by decide +kernel
theorem dX8_yard_220 : decode cX8_yard 220 = .ok (.goto (-30), 3) := by decide +kernel
theorem dX8_yard_223 : decode cX8_yard 223 = .ok (.aload_n 0, 1) := by decide +kernel
theorem dX8_yard_224 : decode cX8_yard 224 = .ok (.iconst 0, 1) := by decide +kernel
theorem dX8_yard_225 : decode cX8_yard 225 = .ok (.putfield 230, 3) := by decide +kernel
theorem dX8_yard_228 : decode cX8_yard 228 = .ok (.aload_n 0, 1) := by decide +kernel
theorem dX8_yard_229 : decode cX8_yard 229 = .ok (.iconst 0, 1) := by decide +kernel
theorem dX8_yard_230 : decode cX8_yard 230 = .ok (.putfield 233, 3) := by decide +kernel
theorem dX8_yard_233 : decode cX8_yard 233 = .ok (.aload_n 0, 1) := by decide +kernel
theorem dX8_yard_234 : decode cX8_yard 234 = .ok (.iconst 0, 1) := by decide +kernel
theorem dX8_yard_235 : decode cX8_yard 235 = .ok (.putfield 236, 3) := by decide +kernel
theorem dX8_yard_238 : decode cX8_yard 238 = .ok (.iconst 0, 1) := by decide +kernel
theorem dX8_yard_239 : decode cX8_yard 239 = .ok (.istore_n 2, 1) := by decide +kernel
theorem dX8_yard_240 : decode cX8_yard 240 = .ok (.iload_n 2, 1) := by decide +kernel
theorem dX8_yard_241 : decode cX8_yard 241 = .ok (.iconst 3, 1) := by decide +kernel
theorem dX8_yard_242 : decode cX8_yard 242 = .ok (.if_icmp .ge 16, 3) := by decide +kernel
theorem dX8_yard_245 : decode cX8_yard 245 = .ok (.aload_n 0, 1) := by decide +kernel
theorem dX8_yard_246 : decode cX8_yard 246 = .ok (.getfield 65, 3) := by decide +kernel
theorem dX8_yard_249 : decode cX8_yard 249 = .ok (.iload_n 2, 1) := by decide +kernel
theorem dX8_yard_250 : decode cX8_yard 250 = .ok (.iconst 0, 1) := by decide +kernel
theorem dX8_yard_251 : decode cX8_yard 251 = .ok (.bastore, 1) := by decide +kernel
theorem dX8_yard_252 : decode cX8_yard 252 = .ok (.iinc 2 1, 3) := by decide +kernel
theorem dX8_yard_255 : decode cX8_yard 255 = .ok (.goto (-15), 3) := by decide +kernel
theorem dX8_yard_258 : decode cX8_yard 258 = .ok (.aload_n 0, 1) := by decide +kernel
theorem dX8_yard_259 : decode cX8_yard 259 = .ok (.getfield 221, 3) := by decide +kernel
theorem dX8_yard_262 : decode cX8_yard 262 = .ok (.ireturn, 1) := by decide +kernel
theorem dX8_cellMany_0 : decode cX8_cellMany 0 = .ok (.aload_n 0, 1) := by decide +kernel
theorem dX8_cellMany_1 : decode cX8_cellMany 1 = .ok (.getfield 215, 3) := by decide +kernel
theorem dX8_cellMany_4 : decode cX8_cellMany 4 = .ok (.aload_n 0, 1) := by decide +kernel
theorem dX8_cellMany_5 : decode cX8_cellMany 5 = .ok (.getfield 218, 3) := by decide +kernel
theorem dX8_cellMany_8 : decode cX8_cellMany 8 = .ok (.imul, 1) := by decide +kernel
theorem dX8_cellMany_9 : decode cX8_cellMany 9 = .ok (.ireturn, 1) := by decide +kernel
theorem dX8_isMan_0 : decode cX8_isMan 0 = .ok (.iload_n 1, 1) := by decide +kernel
theorem dX8_isMan_1 : decode cX8_isMan 1 = .ok (.iconst 0, 1) := by decide +kernel
theorem dX8_isMan_2 : decode cX8_isMan 2 = .ok (.aload_n 0, 1) := by decide +kernel
theorem dX8_isMan_3 : decode cX8_isMan 3 = .ok (.getfield 221, 3) := by decide +kernel
theorem dX8_isMan_6 : decode cX8_isMan 6 = .ok (.iconst 1, 1) := by decide +kernel
theorem dX8_isMan_7 : decode cX8_isMan 7 = .ok (.isub, 1) := by decide +kernel
theorem dX8_isMan_8 : decode cX8_isMan 8 = .ok (.invokestatic 133, 3) := by decide +kernel
theorem dX8_isMan_11 : decode cX8_isMan 11 = .ok (.ireturn, 1) := by decide +kernel
theorem dX8_isCell_0 : decode cX8_isCell 0 = .ok (.iload_n 1, 1) := by decide +kernel
theorem dX8_isCell_1 : decode cX8_isCell 1 = .ok (.iconst 0, 1) := by decide +kernel
theorem dX8_isCell_2 : decode cX8_isCell 2 = .ok (.aload_n 0, 1) := by decide +kernel
theorem dX8_isCell_3 : decode cX8_isCell 3 = .ok (.invokevirtual 239, 3) := by decide +kernel
theorem dX8_isCell_6 : decode cX8_isCell 6 = .ok (.iconst 1, 1) := by decide +kernel
theorem dX8_isCell_7 : decode cX8_isCell 7 = .ok (.isub, 1) := by decide +kernel
theorem dX8_isCell_8 : decode cX8_isCell 8 = .ok (.invokestatic 133, 3) := by decide +kernel
theorem dX8_isCell_11 : decode cX8_isCell 11 = .ok (.ireturn, 1) := by decide +kernel
theorem dX8_isChain_0 : decode cX8_isChain 0 = .ok (.iload_n 1, 1) := by decide +kernel
theorem dX8_isChain_1 : decode cX8_isChain 1 = .ok (.iconst 0, 1) := by decide +kernel
theorem dX8_isChain_2 : decode cX8_isChain 2 = .ok (.aload_n 0, 1) := by decide +kernel
theorem dX8_isChain_3 : decode cX8_isChain 3 = .ok (.getfield 227, 3) := by decide +kernel
theorem dX8_isChain_6 : decode cX8_isChain 6 = .ok (.iconst 1, 1) := by decide +kernel
theorem dX8_isChain_7 : decode cX8_isChain 7 = .ok (.isub, 1) := by decide +kernel
theorem dX8_isChain_8 : decode cX8_isChain 8 = .ok (.invokestatic 133, 3) := by decide +kernel
theorem dX8_isChain_11 : decode cX8_isChain 11 = .ok (.ireturn, 1) := by decide +kernel
theorem dX8_otherEnd_0 : decode cX8_otherEnd 0 = .ok (.iload_n 1, 1) := by decide +kernel
theorem dX8_otherEnd_1 : decode cX8_otherEnd 1 = .ok (.iconst 1, 1) := by decide +kernel
theorem dX8_otherEnd_2 : decode cX8_otherEnd 2 = .ok (.iadd, 1) := by decide +kernel
theorem dX8_otherEnd_3 : decode cX8_otherEnd 3 = .ok (.aload_n 0, 1) := by decide +kernel
theorem dX8_otherEnd_4 : decode cX8_otherEnd 4 = .ok (.getfield 221, 3) := by decide +kernel
theorem dX8_otherEnd_7 : decode cX8_otherEnd 7 = .ok (.irem, 1) := by decide +kernel
theorem dX8_otherEnd_8 : decode cX8_otherEnd 8 = .ok (.ireturn, 1) := by decide +kernel
theorem dX8_lookAtNow_0 : decode cX8_lookAtNow 0 = .ok (.iconst 0, 1) := by decide +kernel
theorem dX8_lookAtNow_1 : decode cX8_lookAtNow 1 = .ok (.istore_n 1, 1) := by decide +kernel
theorem dX8_lookAtNow_2 : decode cX8_lookAtNow 2 = .ok (.iload_n 1, 1) := by decide +kernel
theorem dX8_lookAtNow_3 : decode cX8_lookAtNow 3 = .ok (.aload_n 0, 1) := by decide +kernel
theorem dX8_lookAtNow_4 : decode cX8_lookAtNow 4 = .ok (.getfield 221, 3) := by decide +kernel
theorem dX8_lookAtNow_7 : decode cX8_lookAtNow 7 = .ok (.if_icmp .ge 21, 3) := by decide +kernel
theorem dX8_lookAtNow_10 : decode cX8_lookAtNow 10 = .ok (.aload_n 0, 1) := by decide +kernel
theorem dX8_lookAtNow_11 : decode cX8_lookAtNow 11 = .ok (.getfield 56, 3) := by decide +kernel
theorem dX8_lookAtNow_14 : decode cX8_lookAtNow 14 = .ok (.iload_n 1, 1) := by decide +kernel
theorem dX8_lookAtNow_15 : decode cX8_lookAtNow 15 = .ok (.aload_n 0, 1) := by decide +kernel
theorem dX8_lookAtNow_16 : decode cX8_lookAtNow 16 = .ok (.getfield 35, 3) := by decide +kernel
theorem dX8_lookAtNow_19 : decode cX8_lookAtNow 19 = .ok (.iload_n 1, 1) := by decide +kernel
theorem dX8_lookAtNow_20 : decode cX8_lookAtNow 20 = .ok (.iaload, 1) := by decide +kernel
theorem dX8_lookAtNow_21 : decode cX8_lookAtNow 21 = .ok (.iastore, 1) := by decide +kernel
theorem dX8_lookAtNow_22 : decode cX8_lookAtNow 22 = .ok (.iinc 1 1, 3) := by decide +kernel
theorem dX8_lookAtNow_25 : decode cX8_lookAtNow 25 = .ok (.goto (-23), 3) := by decide +kernel
theorem dX8_lookAtNow_28 : decode cX8_lookAtNow 28 = .ok (.return_, 1) := by decide +kernel
theorem dX8_farOf_0 : decode cX8_farOf 0 = .ok (.aload_n 0, 1) := by decide +kernel
theorem dX8_farOf_1 : decode cX8_farOf 1 = .ok (.getfield 56, 3) := by decide +kernel
theorem dX8_farOf_4 : decode cX8_farOf 4 = .ok (.iload_n 1, 1) := by decide +kernel
theorem dX8_farOf_5 : decode cX8_farOf 5 = .ok (.iaload, 1) := by decide +kernel
theorem dX8_farOf_6 : decode cX8_farOf 6 = .ok (.aload_n 0, 1) := by decide +kernel
theorem dX8_farOf_7 : decode cX8_farOf 7 = .ok (.getfield 56, 3) := by decide +kernel
theorem dX8_farOf_10 : decode cX8_farOf 10 = .ok (.aload_n 0, 1) := by decide +kernel
theorem dX8_farOf_11 : decode cX8_farOf 11 = .ok (.iload_n 1, 1) := by decide +kernel
theorem dX8_farOf_12 : decode cX8_farOf 12 = .ok (.invokevirtual 243, 3) := by decide +kernel
theorem dX8_farOf_15 : decode cX8_farOf 15 = .ok (.iaload, 1) := by decide +kernel
theorem dX8_farOf_16 : decode cX8_farOf 16 = .ok (.aload_n 0, 1) := by decide +kernel
theorem dX8_farOf_17 : decode cX8_farOf 17 = .ok (.getfield 218, 3) := by decide +kernel
theorem dX8_farOf_20 : decode cX8_farOf 20 = .ok (.invokestatic 199, 3) := by decide +kernel
theorem dX8_farOf_23 : decode cX8_farOf 23 = .ok (.ireturn, 1) := by decide +kernel
theorem dX8_reachOf_0 : decode cX8_reachOf 0 = .ok (.aload_n 0, 1) := by decide +kernel
theorem dX8_reachOf_1 : decode cX8_reachOf 1 = .ok (.getfield 38, 3) := by decide +kernel
theorem dX8_reachOf_4 : decode cX8_reachOf 4 = .ok (.iload_n 1, 1) := by decide +kernel
theorem dX8_reachOf_5 : decode cX8_reachOf 5 = .ok (.iaload, 1) := by decide +kernel
theorem dX8_reachOf_6 : decode cX8_reachOf 6 = .ok (.aload_n 0, 1) := by decide +kernel
theorem dX8_reachOf_7 : decode cX8_reachOf 7 = .ok (.getfield 32, 3) := by decide +kernel
theorem dX8_reachOf_10 : decode cX8_reachOf 10 = .ok (.iload_n 1, 1) := by decide +kernel
theorem dX8_reachOf_11 : decode cX8_reachOf 11 = .ok (.iaload, 1) := by decide +kernel
theorem dX8_reachOf_12 : decode cX8_reachOf 12 = .ok (.aload_n 0, 1) := by decide +kernel
theorem dX8_reachOf_13 : decode cX8_reachOf 13 = .ok (.getfield 32, 3) := by decide +kernel
theorem dX8_reachOf_16 : decode cX8_reachOf 16 = .ok (.aload_n 0, 1) := by decide +kernel
theorem dX8_reachOf_17 : decode cX8_reachOf 17 = .ok (.iload_n 1, 1) := by decide +kernel
theorem dX8_reachOf_18 : decode cX8_reachOf 18 = .ok (.invokevirtual 243, 3) := by decide +kernel
theorem dX8_reachOf_21 : decode cX8_reachOf 21 = .ok (.iaload, 1) := by decide +kernel
theorem dX8_reachOf_22 : decode cX8_reachOf 22 = .ok (.invokestatic 203, 3) := by decide +kernel
theorem dX8_reachOf_25 : decode cX8_reachOf 25 = .ok (.ireturn, 1) := by decide +kernel
theorem dX8_isKeptChain_0 : decode cX8_isKeptChain 0 = .ok (.aload_n 0, 1) := by decide +kernel
theorem dX8_isKeptChain_1 : decode cX8_isKeptChain 1 = .ok (.getfield 41, 3) := by decide +kernel
theorem dX8_isKeptChain_4 : decode cX8_isKeptChain 4 = .ok (.iload_n 1, 1) := by decide +kernel
theorem dX8_isKeptChain_5 : decode cX8_isKeptChain 5 = .ok (.iaload, 1) := by decide +kernel
theorem dX8_isKeptChain_6 : decode cX8_isKeptChain 6 = .ok (.iconst 1, 1) := by decide +kernel
theorem dX8_isKeptChain_7 : decode cX8_isKeptChain 7 = .ok (.if_icmp .eq 16, 3) := by decide +kernel
theorem dX8_isKeptChain_10 : decode cX8_isKeptChain 10 = .ok (.aload_n 0, 1) := by decide +kernel
theorem dX8_isKeptChain_11 : decode cX8_isKeptChain 11 = .ok (.iload_n 1, 1) := by decide +kernel
theorem dX8_isKeptChain_12 : decode cX8_isKeptChain 12 = .ok (.invokevirtual 246, 3) := by decide +kernel
theorem dX8_isKeptChain_15 : decode cX8_isKeptChain 15 = .ok (.aload_n 0, 1) := by decide +kernel
theorem dX8_isKeptChain_16 : decode cX8_isKeptChain 16 = .ok (.iload_n 1, 1) := by decide +kernel
theorem dX8_isKeptChain_17 : decode cX8_isKeptChain 17 = .ok (.invokevirtual 249, 3) := by decide +kernel
theorem dX8_isKeptChain_20 : decode cX8_isKeptChain 20 = .ok (.if_icmp .gt 7, 3) := by decide +kernel
theorem dX8_isKeptChain_23 : decode cX8_isKeptChain 23 = .ok (.iconst 1, 1) := by decide +kernel
theorem dX8_isKeptChain_24 : decode cX8_isKeptChain 24 = .ok (.goto 4, 3) := by decide +kernel
theorem dX8_isKeptChain_27 : decode cX8_isKeptChain 27 = .ok (.iconst 0, 1) := by decide +kernel
theorem dX8_isKeptChain_28 : decode cX8_isKeptChain 28 = .ok (.ireturn, 1) := by decide +kernel
theorem dX8_allKept_0 : decode cX8_allKept 0 = .ok (.iconst 1, 1) := by decide +kernel
theorem dX8_allKept_1 : decode cX8_allKept 1 = .ok (.istore_n 1, 1) := by decide +kernel
theorem dX8_allKept_2 : decode cX8_allKept 2 = .ok (.iconst 0, 1) := by decide +kernel
theorem dX8_allKept_3 : decode cX8_allKept 3 = .ok (.istore_n 2, 1) := by decide +kernel
theorem dX8_allKept_4 : decode cX8_allKept 4 = .ok (.iload_n 2, 1) := by decide +kernel
theorem dX8_allKept_5 : decode cX8_allKept 5 = .ok (.aload_n 0, 1) := by decide +kernel
theorem dX8_allKept_6 : decode cX8_allKept 6 = .ok (.getfield 227, 3) := by decide +kernel
theorem dX8_allKept_9 : decode cX8_allKept 9 = .ok (.if_icmp .ge 27, 3) := by decide +kernel
theorem dX8_allKept_12 : decode cX8_allKept 12 = .ok (.iload_n 1, 1) := by decide +kernel
theorem dX8_allKept_13 : decode cX8_allKept 13 = .ok (.ifCond .eq 15, 3) := by decide +kernel
theorem dX8_allKept_16 : decode cX8_allKept 16 = .ok (.aload_n 0, 1) := by decide +kernel
theorem dX8_allKept_17 : decode cX8_allKept 17 = .ok (.iload_n 2, 1) := by decide +kernel
theorem dX8_allKept_18 : decode cX8_allKept 18 = .ok (.invokevirtual 252, 3) := by decide +kernel
theorem dX8_allKept_21 : decode cX8_allKept 21 = .ok (.ifCond .eq 7, 3) := by decide +kernel
theorem dX8_allKept_24 : decode cX8_allKept 24 = .ok (.iconst 1, 1) := by decide +kernel
theorem dX8_allKept_25 : decode cX8_allKept 25 = .ok (.goto 4, 3) := by decide +kernel
theorem dX8_allKept_28 : decode cX8_allKept 28 = .ok (.iconst 0, 1) := by decide +kernel
theorem dX8_allKept_29 : decode cX8_allKept 29 = .ok (.istore_n 1, 1) := by decide +kernel
theorem dX8_allKept_30 : decode cX8_allKept 30 = .ok (.iinc 2 1, 3) := by decide +kernel
theorem dX8_allKept_33 : decode cX8_allKept 33 = .ok (.goto (-29), 3) := by decide +kernel
theorem dX8_allKept_36 : decode cX8_allKept 36 = .ok (.iload_n 1, 1) := by decide +kernel
theorem dX8_allKept_37 : decode cX8_allKept 37 = .ok (.ireturn, 1) := by decide +kernel
theorem dX8_isWet_0 : decode cX8_isWet 0 = .ok (.iload_n 1, 1) := by decide +kernel
theorem dX8_isWet_1 : decode cX8_isWet 1 = .ok (.aload_n 0, 1) := by decide +kernel
theorem dX8_isWet_2 : decode cX8_isWet 2 = .ok (.getfield 218, 3) := by decide +kernel
theorem dX8_isWet_5 : decode cX8_isWet 5 = .ok (.idiv, 1) := by decide +kernel
theorem dX8_isWet_6 : decode cX8_isWet 6 = .ok (.aload_n 0, 1) := by decide +kernel
theorem dX8_isWet_7 : decode cX8_isWet 7 = .ok (.getfield 215, 3) := by decide +kernel
theorem dX8_isWet_10 : decode cX8_isWet 10 = .ok (.aload_n 0, 1) := by decide +kernel
theorem dX8_isWet_11 : decode cX8_isWet 11 = .ok (.getfield 230, 3) := by decide +kernel
theorem dX8_isWet_14 : decode cX8_isWet 14 = .ok (.isub, 1) := by decide +kernel
theorem dX8_isWet_15 : decode cX8_isWet 15 = .ok (.if_icmp .lt 7, 3) := by decide +kernel
theorem dX8_isWet_18 : decode cX8_isWet 18 = .ok (.iconst 1, 1) := by decide +kernel
theorem dX8_isWet_19 : decode cX8_isWet 19 = .ok (.goto 4, 3) := by decide +kernel
theorem dX8_isWet_22 : decode cX8_isWet 22 = .ok (.iconst 0, 1) := by decide +kernel
theorem dX8_isWet_23 : decode cX8_isWet 23 = .ok (.ireturn, 1) := by decide +kernel
theorem dX8_whoOn_0 : decode cX8_whoOn 0 = .ok (.bipush (-9), 2) := by decide +kernel
theorem dX8_whoOn_2 : decode cX8_whoOn 2 = .ok (.istore_n 2, 1) := by decide +kernel
theorem dX8_whoOn_3 : decode cX8_whoOn 3 = .ok (.iconst 0, 1) := by decide +kernel
theorem dX8_whoOn_4 : decode cX8_whoOn 4 = .ok (.istore_n 3, 1) := by decide +kernel
theorem dX8_whoOn_5 : decode cX8_whoOn 5 = .ok (.iload_n 3, 1) := by decide +kernel
theorem dX8_whoOn_6 : decode cX8_whoOn 6 = .ok (.aload_n 0, 1) := by decide +kernel
theorem dX8_whoOn_7 : decode cX8_whoOn 7 = .ok (.getfield 221, 3) := by decide +kernel
theorem dX8_whoOn_10 : decode cX8_whoOn 10 = .ok (.if_icmp .ge 25, 3) := by decide +kernel
theorem dX8_whoOn_13 : decode cX8_whoOn 13 = .ok (.aload_n 0, 1) := by decide +kernel
theorem dX8_whoOn_14 : decode cX8_whoOn 14 = .ok (.getfield 56, 3) := by decide +kernel
theorem dX8_whoOn_17 : decode cX8_whoOn 17 = .ok (.iload_n 3, 1) := by decide +kernel
theorem dX8_whoOn_18 : decode cX8_whoOn 18 = .ok (.iaload, 1) := by decide +kernel
theorem dX8_whoOn_19 : decode cX8_whoOn 19 = .ok (.iload_n 1, 1) := by decide +kernel
theorem dX8_whoOn_20 : decode cX8_whoOn 20 = .ok (.if_icmp .ne 7, 3) := by decide +kernel
theorem dX8_whoOn_23 : decode cX8_whoOn 23 = .ok (.iload_n 3, 1) := by decide +kernel
theorem dX8_whoOn_24 : decode cX8_whoOn 24 = .ok (.goto 4, 3) := by decide +kernel
theorem dX8_whoOn_27 : decode cX8_whoOn 27 = .ok (.iload_n 2, 1) := by decide +kernel
theorem dX8_whoOn_28 : decode cX8_whoOn 28 = .ok (.istore_n 2, 1) := by decide +kernel
theorem dX8_whoOn_29 : decode cX8_whoOn 29 = .ok (.iinc 3 1, 3) := by decide +kernel
theorem dX8_whoOn_32 : decode cX8_whoOn 32 = .ok (.goto (-27), 3) := by decide +kernel
theorem dX8_whoOn_35 : decode cX8_whoOn 35 = .ok (.iload_n 2, 1) := by decide +kernel
theorem dX8_whoOn_36 : decode cX8_whoOn 36 = .ok (.ireturn, 1) := by decide +kernel
theorem dX8_nextCell_0 : decode cX8_nextCell 0 = .ok (.iload_n 1, 1) := by decide +kernel
theorem dX8_nextCell_1 : decode cX8_nextCell 1 = .ok (.aload_n 0, 1) := by decide +kernel
theorem dX8_nextCell_2 : decode cX8_nextCell 2 = .ok (.getfield 218, 3) := by decide +kernel
theorem dX8_nextCell_5 : decode cX8_nextCell 5 = .ok (.idiv, 1) := by decide +kernel
theorem dX8_nextCell_6 : decode cX8_nextCell 6 = .ok (.iload_n 2, 1) := by decide +kernel
theorem dX8_nextCell_7 : decode cX8_nextCell 7 = .ok (.ifCond .ne 7, 3) := by decide +kernel
theorem dX8_nextCell_10 : decode cX8_nextCell 10 = .ok (.iconst (-1), 1) := by decide +kernel
theorem dX8_nextCell_11 : decode cX8_nextCell 11 = .ok (.goto 13, 3) := by decide +kernel
theorem dX8_nextCell_14 : decode cX8_nextCell 14 = .ok (.iload_n 2, 1) := by decide +kernel
theorem dX8_nextCell_15 : decode cX8_nextCell 15 = .ok (.iconst 2, 1) := by decide +kernel
theorem dX8_nextCell_16 : decode cX8_nextCell 16 = .ok (.if_icmp .ne 7, 3) := by decide +kernel
theorem dX8_nextCell_19 : decode cX8_nextCell 19 = .ok (.iconst 1, 1) := by decide +kernel
theorem dX8_nextCell_20 : decode cX8_nextCell 20 = .ok (.goto 4, 3) := by decide +kernel
theorem dX8_nextCell_23 : decode cX8_nextCell 23 = .ok (.iconst 0, 1) := by decide +kernel
theorem dX8_nextCell_24 : decode cX8_nextCell 24 = .ok (.iadd, 1) := by decide +kernel
theorem dX8_nextCell_25 : decode cX8_nextCell 25 = .ok (.istore_n 3, 1) := by decide +kernel
theorem dX8_nextCell_26 : decode cX8_nextCell 26 = .ok (.iload_n 1, 1) := by decide +kernel
theorem dX8_nextCell_27 : decode cX8_nextCell 27 = .ok (.aload_n 0, 1) := by decide +kernel
theorem dX8_nextCell_28 : decode cX8_nextCell 28 = .ok (.getfield 218, 3) := by decide +kernel
theorem dX8_nextCell_31 : decode cX8_nextCell 31 = .ok (.irem, 1) := by decide +kernel
theorem dX8_nextCell_32 : decode cX8_nextCell 32 = .ok (.iload_n 2, 1) := by decide +kernel
theorem dX8_nextCell_33 : decode cX8_nextCell 33 = .ok (.iconst 1, 1) := by decide +kernel
theorem dX8_nextCell_34 : decode cX8_nextCell 34 = .ok (.if_icmp .ne 7, 3) := by decide +kernel
theorem dX8_nextCell_37 : decode cX8_nextCell 37 = .ok (.iconst 1, 1) := by decide +kernel
theorem dX8_nextCell_38 : decode cX8_nextCell 38 = .ok (.goto 13, 3) := by decide +kernel
theorem dX8_nextCell_41 : decode cX8_nextCell 41 = .ok (.iload_n 2, 1) := by decide +kernel
theorem dX8_nextCell_42 : decode cX8_nextCell 42 = .ok (.iconst 3, 1) := by decide +kernel
theorem dX8_nextCell_43 : decode cX8_nextCell 43 = .ok (.if_icmp .ne 7, 3) := by decide +kernel
theorem dX8_nextCell_46 : decode cX8_nextCell 46 = .ok (.iconst (-1), 1) := by decide +kernel
theorem dX8_nextCell_47 : decode cX8_nextCell 47 = .ok (.goto 4, 3) := by decide +kernel
theorem dX8_nextCell_50 : decode cX8_nextCell 50 = .ok (.iconst 0, 1) := by decide +kernel
theorem dX8_nextCell_51 : decode cX8_nextCell 51 = .ok (.iadd, 1) := by decide +kernel
theorem dX8_nextCell_52 : decode cX8_nextCell 52 = .ok (.istore 4, 2) := by decide +kernel
theorem dX8_nextCell_54 : decode cX8_nextCell 54 = .ok (.iload_n 3, 1) := by decide +kernel
theorem dX8_nextCell_55 : decode cX8_nextCell 55 = .ok (.iconst 0, 1) := by decide +kernel
theorem dX8_nextCell_56 : decode cX8_nextCell 56 = .ok (.aload_n 0, 1) := by decide +kernel
theorem dX8_nextCell_57 : decode cX8_nextCell 57 = .ok (.getfield 215, 3) := by decide +kernel
theorem dX8_nextCell_60 : decode cX8_nextCell 60 = .ok (.iconst 1, 1) := by decide +kernel
theorem dX8_nextCell_61 : decode cX8_nextCell 61 = .ok (.isub, 1) := by decide +kernel
theorem dX8_nextCell_62 : decode cX8_nextCell 62 = .ok (.invokestatic 133, 3) := by decide +kernel
theorem dX8_nextCell_65 : decode cX8_nextCell 65 = .ok (.ifCond .eq 30, 3) := by decide +kernel
theorem dX8_nextCell_68 : decode cX8_nextCell 68 = .ok (.iload 4, 2) := by decide +kernel
theorem dX8_nextCell_70 : decode cX8_nextCell 70 = .ok (.iconst 0, 1) := by decide +kernel
theorem dX8_nextCell_71 : decode cX8_nextCell 71 = .ok (.aload_n 0, 1) := by decide +kernel
theorem dX8_nextCell_72 : decode cX8_nextCell 72 = .ok (.getfield 218, 3) := by decide +kernel
theorem dX8_nextCell_75 : decode cX8_nextCell 75 = .ok (.iconst 1, 1) := by decide +kernel
theorem dX8_nextCell_76 : decode cX8_nextCell 76 = .ok (.isub, 1) := by decide +kernel
theorem dX8_nextCell_77 : decode cX8_nextCell 77 = .ok (.invokestatic 133, 3) := by decide +kernel
theorem dX8_nextCell_80 : decode cX8_nextCell 80 = .ok (.ifCond .eq 15, 3) := by decide +kernel
theorem dX8_nextCell_83 : decode cX8_nextCell 83 = .ok (.aload_n 0, 1) := by decide +kernel
theorem dX8_nextCell_84 : decode cX8_nextCell 84 = .ok (.getfield 218, 3) := by decide +kernel
theorem dX8_nextCell_87 : decode cX8_nextCell 87 = .ok (.iload_n 3, 1) := by decide +kernel
theorem dX8_nextCell_88 : decode cX8_nextCell 88 = .ok (.imul, 1) := by decide +kernel
theorem dX8_nextCell_89 : decode cX8_nextCell 89 = .ok (.iload 4, 2) := by decide +kernel
theorem dX8_nextCell_91 : decode cX8_nextCell 91 = .ok (.iadd, 1) := by decide +kernel
theorem dX8_nextCell_92 : decode cX8_nextCell 92 = .ok (.goto 5, 3) := by decide +kernel
theorem dX8_nextCell_95 : decode cX8_nextCell 95 = .ok (.bipush (-9), 2) := by decide +kernel
theorem dX8_nextCell_97 : decode cX8_nextCell 97 = .ok (.ireturn, 1) := by decide +kernel
theorem dX8_isChained_0 : decode cX8_isChained 0 = .ok (.aload_n 0, 1) := by decide +kernel
theorem dX8_isChained_1 : decode cX8_isChained 1 = .ok (.getfield 41, 3) := by decide +kernel
theorem dX8_isChained_4 : decode cX8_isChained 4 = .ok (.iload_n 1, 1) := by decide +kernel
theorem dX8_isChained_5 : decode cX8_isChained 5 = .ok (.iaload, 1) := by decide +kernel
theorem dX8_isChained_6 : decode cX8_isChained 6 = .ok (.ifCond .ne 35, 3) := by decide +kernel
theorem dX8_isChained_9 : decode cX8_isChained 9 = .ok (.iload_n 1, 1) := by decide +kernel
theorem dX8_isChained_10 : decode cX8_isChained 10 = .ok (.iload_n 2, 1) := by decide +kernel
theorem dX8_isChained_11 : decode cX8_isChained 11 = .ok (.if_icmp .ne 12, 3) := by decide +kernel
theorem dX8_isChained_14 : decode cX8_isChained 14 = .ok (.aload_n 0, 1) := by decide +kernel
theorem dX8_isChained_15 : decode cX8_isChained 15 = .ok (.iload_n 1, 1) := by decide +kernel
theorem dX8_isChained_16 : decode cX8_isChained 16 = .ok (.invokevirtual 243, 3) := by decide +kernel
theorem dX8_isChained_19 : decode cX8_isChained 19 = .ok (.iload_n 3, 1) := by decide +kernel
theorem dX8_isChained_20 : decode cX8_isChained 20 = .ok (.if_icmp .eq 17, 3) := by decide +kernel
theorem dX8_isChained_23 : decode cX8_isChained 23 = .ok (.iload_n 1, 1) := by decide +kernel
theorem dX8_isChained_24 : decode cX8_isChained 24 = .ok (.iload_n 3, 1) := by decide +kernel
theorem dX8_isChained_25 : decode cX8_isChained 25 = .ok (.if_icmp .ne 16, 3) := by decide +kernel
theorem dX8_isChained_28 : decode cX8_isChained 28 = .ok (.aload_n 0, 1) := by decide +kernel
theorem dX8_isChained_29 : decode cX8_isChained 29 = .ok (.iload_n 1, 1) := by decide +kernel
theorem dX8_isChained_30 : decode cX8_isChained 30 = .ok (.invokevirtual 243, 3) := by decide +kernel
theorem dX8_isChained_33 : decode cX8_isChained 33 = .ok (.iload_n 2, 1) := by decide +kernel
theorem dX8_isChained_34 : decode cX8_isChained 34 = .ok (.if_icmp .ne 7, 3) := by decide +kernel
theorem dX8_isChained_37 : decode cX8_isChained 37 = .ok (.iconst 1, 1) := by decide +kernel
theorem dX8_isChained_38 : decode cX8_isChained 38 = .ok (.goto 4, 3) := by decide +kernel
theorem dX8_isChained_41 : decode cX8_isChained 41 = .ok (.iconst 0, 1) := by decide +kernel
theorem dX8_isChained_42 : decode cX8_isChained 42 = .ok (.ireturn, 1) := by decide +kernel
theorem dX8_mayGo_0 : decode cX8_mayGo 0 = .ok (.aload_n 0, 1) := by decide +kernel
theorem dX8_mayGo_1 : decode cX8_mayGo 1 = .ok (.getfield 32, 3) := by decide +kernel
theorem dX8_mayGo_4 : decode cX8_mayGo 4 = .ok (.iload_n 1, 1) := by decide +kernel
theorem dX8_mayGo_5 : decode cX8_mayGo 5 = .ok (.iaload, 1) := by decide +kernel
theorem dX8_mayGo_6 : decode cX8_mayGo 6 = .ok (.istore_n 3, 1) := by decide +kernel
theorem dX8_mayGo_7 : decode cX8_mayGo 7 = .ok (.iload_n 3, 1) := by decide +kernel
theorem dX8_mayGo_8 : decode cX8_mayGo 8 = .ok (.iconst 2, 1) := by decide +kernel
theorem dX8_mayGo_9 : decode cX8_mayGo 9 = .ok (.if_icmp .eq 29, 3) := by decide +kernel
theorem dX8_mayGo_12 : decode cX8_mayGo 12 = .ok (.iload_n 3, 1) := by decide +kernel
theorem dX8_mayGo_13 : decode cX8_mayGo 13 = .ok (.iconst 4, 1) := by decide +kernel
theorem dX8_mayGo_14 : decode cX8_mayGo 14 = .ok (.if_icmp .eq 24, 3) := by decide +kernel
theorem dX8_mayGo_17 : decode cX8_mayGo 17 = .ok (.iload_n 3, 1) := by decide +kernel
theorem dX8_mayGo_18 : decode cX8_mayGo 18 = .ok (.iconst 3, 1) := by decide +kernel
theorem dX8_mayGo_19 : decode cX8_mayGo 19 = .ok (.if_icmp .eq 8, 3) := by decide +kernel
theorem dX8_mayGo_22 : decode cX8_mayGo 22 = .ok (.iload_n 3, 1) := by decide +kernel
theorem dX8_mayGo_23 : decode cX8_mayGo 23 = .ok (.iconst 5, 1) := by decide +kernel
theorem dX8_mayGo_24 : decode cX8_mayGo 24 = .ok (.if_icmp .ne 10, 3) := by decide +kernel
theorem dX8_mayGo_27 : decode cX8_mayGo 27 = .ok (.iload_n 2, 1) := by decide +kernel
theorem dX8_mayGo_28 : decode cX8_mayGo 28 = .ok (.iconst 2, 1) := by decide +kernel
theorem dX8_mayGo_29 : decode cX8_mayGo 29 = .ok (.irem, 1) := by decide +kernel
theorem dX8_mayGo_30 : decode cX8_mayGo 30 = .ok (.iconst 1, 1) := by decide +kernel
theorem dX8_mayGo_31 : decode cX8_mayGo 31 = .ok (.if_icmp .ne 7, 3) := by decide +kernel
theorem dX8_mayGo_34 : decode cX8_mayGo 34 = .ok (.iconst 1, 1) := by decide +kernel
theorem dX8_mayGo_35 : decode cX8_mayGo 35 = .ok (.goto 4, 3) := by decide +kernel
theorem dX8_mayGo_38 : decode cX8_mayGo 38 = .ok (.iconst 0, 1) := by decide +kernel
theorem dX8_mayGo_39 : decode cX8_mayGo 39 = .ok (.ireturn, 1) := by decide +kernel
theorem dX8_findTaken_0 : decode cX8_findTaken 0 = .ok (.aload_n 0, 1) := by decide +kernel
theorem dX8_findTaken_1 : decode cX8_findTaken 1 = .ok (.bipush (-9), 2) := by decide +kernel
theorem dX8_findTaken_3 : decode cX8_findTaken 3 = .ok (.putfield 255, 3) := by decide +kernel
theorem dX8_findTaken_6 : decode cX8_findTaken 6 = .ok (.iconst 0, 1) := by decide +kernel
theorem dX8_findTaken_7 : decode cX8_findTaken 7 = .ok (.istore_n 2, 1) := by decide +kernel
theorem dX8_findTaken_8 : decode cX8_findTaken 8 = .ok (.iload_n 2, 1) := by decide +kernel
theorem dX8_findTaken_9 : decode cX8_findTaken 9 = .ok (.aload_n 0, 1) := by decide +kernel
theorem dX8_findTaken_10 : decode cX8_findTaken 10 = .ok (.getfield 221, 3) := by decide +kernel
theorem dX8_findTaken_13 : decode cX8_findTaken 13 = .ok (.if_icmp .ge 72, 3) := by decide +kernel
theorem dX8_findTaken_16 : decode cX8_findTaken 16 = .ok (.iconst 0, 1) := by decide +kernel
theorem dX8_findTaken_17 : decode cX8_findTaken 17 = .ok (.istore_n 3, 1) := by decide +kernel
theorem dX8_findTaken_18 : decode cX8_findTaken 18 = .ok (.iload_n 3, 1) := by decide +kernel
theorem dX8_findTaken_19 : decode cX8_findTaken 19 = .ok (.aload_n 0, 1) := by decide +kernel
theorem dX8_findTaken_20 : decode cX8_findTaken 20 = .ok (.getfield 227, 3) := by decide +kernel
theorem dX8_findTaken_23 : decode cX8_findTaken 23 = .ok (.if_icmp .ge 56, 3) := by decide +kernel
theorem dX8_findTaken_26 : decode cX8_findTaken 26 = .ok (.aload_n 0, 1) := by decide +kernel
theorem dX8_findTaken_27 : decode cX8_findTaken 27 = .ok (.getfield 32, 3) := by decide +kernel
theorem dX8_findTaken_30 : decode cX8_findTaken 30 = .ok (.iload_n 2, 1) := by decide +kernel
theorem dX8_findTaken_31 : decode cX8_findTaken 31 = .ok (.iaload, 1) := by decide +kernel
theorem dX8_findTaken_32 : decode cX8_findTaken 32 = .ok (.iconst 2, 1) := by decide +kernel
theorem dX8_findTaken_33 : decode cX8_findTaken 33 = .ok (.if_icmp .ne 40, 3) := by decide +kernel
theorem dX8_findTaken_36 : decode cX8_findTaken 36 = .ok (.aload_n 0, 1) := by decide +kernel
theorem dX8_findTaken_37 : decode cX8_findTaken 37 = .ok (.iload_n 3, 1) := by decide +kernel
theorem dX8_findTaken_38 : decode cX8_findTaken 38 = .ok (.iload_n 1, 1) := by decide +kernel
theorem dX8_findTaken_39 : decode cX8_findTaken 39 = .ok (.iload_n 2, 1) := by decide +kernel
theorem dX8_findTaken_40 : decode cX8_findTaken 40 = .ok (.invokevirtual 258, 3) := by decide +kernel
theorem dX8_findTaken_43 : decode cX8_findTaken 43 = .ok (.ifCond .eq 30, 3) := by decide +kernel
theorem dX8_findTaken_46 : decode cX8_findTaken 46 = .ok (.aload_n 0, 1) := by decide +kernel
theorem dX8_findTaken_47 : decode cX8_findTaken 47 = .ok (.iload_n 3, 1) := by decide +kernel
theorem dX8_findTaken_48 : decode cX8_findTaken 48 = .ok (.invokevirtual 252, 3) := by decide +kernel
theorem dX8_findTaken_51 : decode cX8_findTaken 51 = .ok (.ifCond .ne 22, 3) := by decide +kernel
theorem dX8_findTaken_54 : decode cX8_findTaken 54 = .ok (.aload_n 0, 1) := by decide +kernel
theorem dX8_findTaken_55 : decode cX8_findTaken 55 = .ok (.aload_n 0, 1) := by decide +kernel
theorem dX8_findTaken_56 : decode cX8_findTaken 56 = .ok (.getfield 255, 3) := by decide +kernel
theorem dX8_findTaken_59 : decode cX8_findTaken 59 = .ok (.bipush (-9), 2) := by decide +kernel
theorem dX8_findTaken_61 : decode cX8_findTaken 61 = .ok (.if_icmp .ne 7, 3) := by decide +kernel
theorem dX8_findTaken_64 : decode cX8_findTaken 64 = .ok (.iload_n 2, 1) := by decide +kernel
theorem dX8_findTaken_65 : decode cX8_findTaken 65 = .ok (.goto 5, 3) := by decide +kernel
theorem dX8_findTaken_68 : decode cX8_findTaken 68 = .ok (.bipush (-10), 2) := by decide +kernel
theorem dX8_findTaken_70 : decode cX8_findTaken 70 = .ok (.putfield 255, 3) := by decide +kernel
theorem dX8_findTaken_73 : decode cX8_findTaken 73 = .ok (.iinc 3 1, 3) := by decide +kernel
theorem dX8_findTaken_76 : decode cX8_findTaken 76 = .ok (.goto (-58), 3) := by decide +kernel
theorem dX8_findTaken_79 : decode cX8_findTaken 79 = .ok (.iinc 2 1, 3) := by decide +kernel
theorem dX8_findTaken_82 : decode cX8_findTaken 82 = .ok (.goto (-74), 3) := by decide +kernel
theorem dX8_findTaken_85 : decode cX8_findTaken 85 = .ok (.return_, 1) := by decide +kernel
theorem dX8_steps_0 : decode cX8_steps 0 = .ok (.aload_n 0, 1) := by decide +kernel
theorem dX8_steps_1 : decode cX8_steps 1 = .ok (.getfield 56, 3) := by decide +kernel
theorem dX8_steps_4 : decode cX8_steps 4 = .ok (.iload_n 1, 1) := by decide +kernel
theorem dX8_steps_5 : decode cX8_steps 5 = .ok (.iaload, 1) := by decide +kernel
theorem dX8_steps_6 : decode cX8_steps 6 = .ok (.istore_n 3, 1) := by decide +kernel
theorem dX8_steps_7 : decode cX8_steps 7 = .ok (.aload_n 0, 1) := by decide +kernel
theorem dX8_steps_8 : decode cX8_steps 8 = .ok (.iload_n 1, 1) := by decide +kernel
theorem dX8_steps_9 : decode cX8_steps 9 = .ok (.iload_n 2, 1) := by decide +kernel
theorem dX8_steps_10 : decode cX8_steps 10 = .ok (.invokevirtual 261, 3) := by decide +kernel
theorem dX8_steps_13 : decode cX8_steps 13 = .ok (.ifCond .eq 12, 3) := by decide +kernel
theorem dX8_steps_16 : decode cX8_steps 16 = .ok (.aload_n 0, 1) := by decide +kernel
theorem dX8_steps_17 : decode cX8_steps 17 = .ok (.iload_n 3, 1) := by decide +kernel
theorem dX8_steps_18 : decode cX8_steps 18 = .ok (.iload_n 2, 1) := by decide +kernel
theorem dX8_steps_19 : decode cX8_steps 19 = .ok (.invokevirtual 265, 3) := by decide +kernel
theorem dX8_steps_22 : decode cX8_steps 22 = .ok (.goto 5, 3) := by decide +kernel
theorem dX8_steps_25 : decode cX8_steps 25 = .ok (.bipush (-9), 2) := by decide +kernel
theorem dX8_steps_27 : decode cX8_steps 27 = .ok (.istore 4, 2) := by decide +kernel
theorem dX8_steps_29 : decode cX8_steps 29 = .ok (.iload 4, 2) := by decide +kernel
theorem dX8_steps_31 : decode cX8_steps 31 = .ok (.bipush (-9), 2) := by decide +kernel
theorem dX8_steps_33 : decode cX8_steps 33 = .ok (.if_icmp .eq 34, 3) := by decide +kernel
theorem dX8_steps_36 : decode cX8_steps 36 = .ok (.aload_n 0, 1) := by decide +kernel
theorem dX8_steps_37 : decode cX8_steps 37 = .ok (.getfield 29, 3) := by decide +kernel
theorem dX8_steps_40 : decode cX8_steps 40 = .ok (.iload 4, 2) := by decide +kernel
theorem dX8_steps_42 : decode cX8_steps 42 = .ok (.iaload, 1) := by decide +kernel
theorem dX8_steps_43 : decode cX8_steps 43 = .ok (.iconst 1, 1) := by decide +kernel
theorem dX8_steps_44 : decode cX8_steps 44 = .ok (.if_icmp .eq 23, 3) := by decide +kernel
theorem dX8_steps_47 : decode cX8_steps 47 = .ok (.aload_n 0, 1) := by decide +kernel
theorem dX8_steps_48 : decode cX8_steps 48 = .ok (.iload 4, 2) := by decide +kernel
theorem dX8_steps_50 : decode cX8_steps 50 = .ok (.invokevirtual 268, 3) := by decide +kernel
theorem dX8_steps_53 : decode cX8_steps 53 = .ok (.bipush (-9), 2) := by decide +kernel
theorem dX8_steps_55 : decode cX8_steps 55 = .ok (.if_icmp .ne 12, 3) := by decide +kernel
theorem dX8_steps_58 : decode cX8_steps 58 = .ok (.aload_n 0, 1) := by decide +kernel
theorem dX8_steps_59 : decode cX8_steps 59 = .ok (.iload 4, 2) := by decide +kernel
theorem dX8_steps_61 : decode cX8_steps 61 = .ok (.invokevirtual 271, 3) := by decide +kernel
theorem dX8_steps_64 : decode cX8_steps 64 = .ok (.ifCond .eq 5, 3) := by decide +kernel
theorem dX8_steps_67 : decode cX8_steps 67 = .ok (.iconst 0, 1) := by decide +kernel
theorem dX8_steps_68 : decode cX8_steps 68 = .ok (.ireturn, 1) := by decide +kernel
theorem dX8_steps_69 : decode cX8_steps 69 = .ok (.aload_n 0, 1) := by decide +kernel
theorem dX8_steps_70 : decode cX8_steps 70 = .ok (.getfield 56, 3) := by decide +kernel
theorem dX8_steps_73 : decode cX8_steps 73 = .ok (.iload_n 1, 1) := by decide +kernel
theorem dX8_steps_74 : decode cX8_steps 74 = .ok (.iload 4, 2) := by decide +kernel
theorem dX8_steps_76 : decode cX8_steps 76 = .ok (.iastore, 1) := by decide +kernel
theorem dX8_steps_77 : decode cX8_steps 77 = .ok (.aload_n 0, 1) := by decide +kernel
theorem dX8_steps_78 : decode cX8_steps 78 = .ok (.bipush (-9), 2) := by decide +kernel
theorem dX8_steps_80 : decode cX8_steps 80 = .ok (.putfield 255, 3) := by decide +kernel
theorem dX8_steps_83 : decode cX8_steps 83 = .ok (.aload_n 0, 1) := by decide +kernel
theorem dX8_steps_84 : decode cX8_steps 84 = .ok (.getfield 32, 3) := by decide +kernel
theorem dX8_steps_87 : decode cX8_steps 87 = .ok (.iload_n 1, 1) := by decide +kernel
theorem dX8_steps_88 : decode cX8_steps 88 = .ok (.iaload, 1) := by decide +kernel
theorem dX8_steps_89 : decode cX8_steps 89 = .ok (.iconst 1, 1) := by decide +kernel
theorem dX8_steps_90 : decode cX8_steps 90 = .ok (.if_icmp .ne 8, 3) := by decide +kernel
theorem dX8_steps_93 : decode cX8_steps 93 = .ok (.aload_n 0, 1) := by decide +kernel
theorem dX8_steps_94 : decode cX8_steps 94 = .ok (.iload_n 1, 1) := by decide +kernel
theorem dX8_steps_95 : decode cX8_steps 95 = .ok (.invokevirtual 274, 3) := by decide +kernel
theorem dX8_steps_98 : decode cX8_steps 98 = .ok (.aload_n 0, 1) := by decide +kernel
theorem dX8_steps_99 : decode cX8_steps 99 = .ok (.getfield 255, 3) := by decide +kernel
theorem dX8_steps_102 : decode cX8_steps 102 = .ok (.ifCond .lt 15, 3) := by decide +kernel
theorem dX8_steps_105 : decode cX8_steps 105 = .ok (.aload_n 0, 1) := by decide +kernel
theorem dX8_steps_106 : decode cX8_steps 106 = .ok (.getfield 56, 3) := by decide +kernel
theorem dX8_steps_109 : decode cX8_steps 109 = .ok (.aload_n 0, 1) := by decide +kernel
theorem dX8_steps_110 : decode cX8_steps 110 = .ok (.getfield 255, 3) := by decide +kernel
theorem dX8_steps_113 : decode cX8_steps 113 = .ok (.iaload, 1) := by decide +kernel
theorem dX8_steps_114 : decode cX8_steps 114 = .ok (.goto 5, 3) := by decide +kernel
theorem dX8_steps_117 : decode cX8_steps 117 = .ok (.bipush (-9), 2) := by decide +kernel
theorem dX8_steps_119 : decode cX8_steps 119 = .ok (.istore 5, 2) := by decide +kernel
theorem dX8_steps_121 : decode cX8_steps 121 = .ok (.aload_n 0, 1) := by decide +kernel
theorem dX8_steps_122 : decode cX8_steps 122 = .ok (.getfield 255, 3) := by decide +kernel
theorem dX8_steps_125 : decode cX8_steps 125 = .ok (.bipush (-9), 2) := by decide +kernel
theorem dX8_steps_127 : decode cX8_steps 127 = .ok (.if_icmp .lt 24, 3) := by decide +kernel
theorem dX8_steps_130 : decode cX8_steps 130 = .ok (.aload_n 0, 1) := by decide +kernel
theorem dX8_steps_131 : decode cX8_steps 131 = .ok (.getfield 255, 3) := by decide +kernel
theorem dX8_steps_134 : decode cX8_steps 134 = .ok (.bipush (-9), 2) := by decide +kernel
theorem dX8_steps_136 : decode cX8_steps 136 = .ok (.if_icmp .eq 11, 3) := by decide +kernel
theorem dX8_steps_139 : decode cX8_steps 139 = .ok (.aload_n 0, 1) := by decide +kernel
theorem dX8_steps_140 : decode cX8_steps 140 = .ok (.iload_n 3, 1) := by decide +kernel
theorem dX8_steps_141 : decode cX8_steps 141 = .ok (.invokevirtual 271, 3) := by decide +kernel
theorem dX8_steps_144 : decode cX8_steps 144 = .ok (.ifCond .ne 7, 3) := by decide +kernel
theorem dX8_steps_147 : decode cX8_steps 147 = .ok (.iconst 1, 1) := by decide +kernel
theorem dX8_steps_148 : decode cX8_steps 148 = .ok (.goto 4, 3) := by decide +kernel
theorem dX8_steps_151 : decode cX8_steps 151 = .ok (.iconst 0, 1) := by decide +kernel
theorem dX8_steps_152 : decode cX8_steps 152 = .ok (.istore 6, 2) := by decide +kernel
theorem dX8_steps_154 : decode cX8_steps 154 = .ok (.iload 6, 2) := by decide +kernel
theorem dX8_steps_156 : decode cX8_steps 156 = .ok (.ifCond .eq 20, 3) := by decide +kernel
theorem dX8_steps_159 : decode cX8_steps 159 = .ok (.aload_n 0, 1) := by decide +kernel
theorem dX8_steps_160 : decode cX8_steps 160 = .ok (.getfield 255, 3) := by decide +kernel
theorem dX8_steps_163 : decode cX8_steps 163 = .ok (.ifCond .lt 13, 3) := by decide +kernel
theorem dX8_steps_166 : decode cX8_steps 166 = .ok (.aload_n 0, 1) := by decide +kernel
theorem dX8_steps_167 : decode cX8_steps 167 = .ok (.getfield 56, 3) := by decide +kernel
theorem dX8_steps_170 : decode cX8_steps 170 = .ok (.aload_n 0, 1) := by decide +kernel
theorem dX8_steps_171 : decode cX8_steps 171 = .ok (.getfield 255, 3) := by decide +kernel
theorem dX8_steps_174 : decode cX8_steps 174 = .ok (.iload_n 3, 1) := by decide +kernel
theorem dX8_steps_175 : decode cX8_steps 175 = .ok (.iastore, 1) := by decide +kernel
theorem dX8_steps_176 : decode cX8_steps 176 = .ok (.iload 6, 2) := by decide +kernel
theorem dX8_steps_178 : decode cX8_steps 178 = .ok (.ifCond .eq 12, 3) := by decide +kernel
theorem dX8_steps_181 : decode cX8_steps 181 = .ok (.aload_n 0, 1) := by decide +kernel
theorem dX8_steps_182 : decode cX8_steps 182 = .ok (.invokevirtual 278, 3) := by decide +kernel
theorem dX8_steps_185 : decode cX8_steps 185 = .ok (.ifCond .eq 5, 3) := by decide +kernel
theorem dX8_steps_188 : decode cX8_steps 188 = .ok (.iconst 1, 1) := by decide +kernel
theorem dX8_steps_189 : decode cX8_steps 189 = .ok (.ireturn, 1) := by decide +kernel
theorem dX8_steps_190 : decode cX8_steps 190 = .ok (.iload 6, 2) := by decide +kernel
theorem dX8_steps_192 : decode cX8_steps 192 = .ok (.ifCond .eq 21, 3) := by decide +kernel
theorem dX8_steps_195 : decode cX8_steps 195 = .ok (.aload_n 0, 1) := by decide +kernel
theorem dX8_steps_196 : decode cX8_steps 196 = .ok (.getfield 255, 3) := by decide +kernel
theorem dX8_steps_199 : decode cX8_steps 199 = .ok (.ifCond .lt 14, 3) := by decide +kernel
theorem dX8_steps_202 : decode cX8_steps 202 = .ok (.aload_n 0, 1) := by decide +kernel
theorem dX8_steps_203 : decode cX8_steps 203 = .ok (.getfield 56, 3) := by decide +kernel
theorem dX8_steps_206 : decode cX8_steps 206 = .ok (.aload_n 0, 1) := by decide +kernel
theorem dX8_steps_207 : decode cX8_steps 207 = .ok (.getfield 255, 3) := by decide +kernel
theorem dX8_steps_210 : decode cX8_steps 210 = .ok (.iload 5, 2) := by decide +kernel
theorem dX8_steps_212 : decode cX8_steps 212 = .ok (.iastore, 1) := by decide +kernel
theorem dX8_steps_213 : decode cX8_steps 213 = .ok (.aload_n 0, 1) := by decide +kernel
theorem dX8_steps_214 : decode cX8_steps 214 = .ok (.getfield 56, 3) := by decide +kernel
theorem dX8_steps_217 : decode cX8_steps 217 = .ok (.iload_n 1, 1) := by decide +kernel
theorem dX8_steps_218 : decode cX8_steps 218 = .ok (.iload_n 3, 1) := by decide +kernel
theorem dX8_steps_219 : decode cX8_steps 219 = .ok (.iastore, 1) := by decide +kernel
theorem dX8_steps_220 : decode cX8_steps 220 = .ok (.iconst 0, 1) := by decide +kernel
theorem dX8_steps_221 : decode cX8_steps 221 = .ok (.ireturn, 1) := by decide +kernel
theorem dX8_steppedOf_0 : decode cX8_steppedOf 0 = .ok (.iconst 0, 1) := by decide +kernel
theorem dX8_steppedOf_1 : decode cX8_steppedOf 1 = .ok (.istore_n 2, 1) := by decide +kernel
theorem dX8_steppedOf_2 : decode cX8_steppedOf 2 = .ok (.iconst 0, 1) := by decide +kernel
theorem dX8_steppedOf_3 : decode cX8_steppedOf 3 = .ok (.istore_n 3, 1) := by decide +kernel
theorem dX8_steppedOf_4 : decode cX8_steppedOf 4 = .ok (.iload_n 3, 1) := by decide +kernel
theorem dX8_steppedOf_5 : decode cX8_steppedOf 5 = .ok (.aload_n 0, 1) := by decide +kernel
theorem dX8_steppedOf_6 : decode cX8_steppedOf 6 = .ok (.getfield 233, 3) := by decide +kernel
theorem dX8_steppedOf_9 : decode cX8_steppedOf 9 = .ok (.if_icmp .ge 30, 3) := by decide +kernel
theorem dX8_steppedOf_12 : decode cX8_steppedOf 12 = .ok (.iload_n 2, 1) := by decide +kernel
theorem dX8_steppedOf_13 : decode cX8_steppedOf 13 = .ok (.aload_n 0, 1) := by decide +kernel
theorem dX8_steppedOf_14 : decode cX8_steppedOf 14 = .ok (.getfield 59, 3) := by decide +kernel
theorem dX8_steppedOf_17 : decode cX8_steppedOf 17 = .ok (.iload_n 3, 1) := by decide +kernel
theorem dX8_steppedOf_18 : decode cX8_steppedOf 18 = .ok (.iaload, 1) := by decide +kernel
theorem dX8_steppedOf_19 : decode cX8_steppedOf 19 = .ok (.bipush 10, 2) := by decide +kernel
theorem dX8_steppedOf_21 : decode cX8_steppedOf 21 = .ok (.idiv, 1) := by decide +kernel
theorem dX8_steppedOf_22 : decode cX8_steppedOf 22 = .ok (.iload_n 1, 1) := by decide +kernel
theorem dX8_steppedOf_23 : decode cX8_steppedOf 23 = .ok (.if_icmp .ne 7, 3) := by decide +kernel
theorem dX8_steppedOf_26 : decode cX8_steppedOf 26 = .ok (.iconst 1, 1) := by decide +kernel
theorem dX8_steppedOf_27 : decode cX8_steppedOf 27 = .ok (.goto 4, 3) := by decide +kernel
theorem dX8_steppedOf_30 : decode cX8_steppedOf 30 = .ok (.iconst 0, 1) := by decide +kernel
theorem dX8_steppedOf_31 : decode cX8_steppedOf 31 = .ok (.iadd, 1) := by decide +kernel
theorem dX8_steppedOf_32 : decode cX8_steppedOf 32 = .ok (.istore_n 2, 1) := by decide +kernel
theorem dX8_steppedOf_33 : decode cX8_steppedOf 33 = .ok (.iinc 3 1, 3) := by decide +kernel
theorem dX8_steppedOf_36 : decode cX8_steppedOf 36 = .ok (.goto (-32), 3) := by decide +kernel
theorem dX8_steppedOf_39 : decode cX8_steppedOf 39 = .ok (.iload_n 2, 1) := by decide +kernel
theorem dX8_steppedOf_40 : decode cX8_steppedOf 40 = .ok (.ireturn, 1) := by decide +kernel
theorem dX8_chainsOf_0 : decode cX8_chainsOf 0 = .ok (.iconst 0, 1) := by decide +kernel
theorem dX8_chainsOf_1 : decode cX8_chainsOf 1 = .ok (.istore_n 2, 1) := by decide +kernel
theorem dX8_chainsOf_2 : decode cX8_chainsOf 2 = .ok (.iconst 0, 1) := by decide +kernel
theorem dX8_chainsOf_3 : decode cX8_chainsOf 3 = .ok (.istore_n 3, 1) := by decide +kernel
theorem dX8_chainsOf_4 : decode cX8_chainsOf 4 = .ok (.iload_n 3, 1) := by decide +kernel
theorem dX8_chainsOf_5 : decode cX8_chainsOf 5 = .ok (.aload_n 0, 1) := by decide +kernel
theorem dX8_chainsOf_6 : decode cX8_chainsOf 6 = .ok (.getfield 227, 3) := by decide +kernel
theorem dX8_chainsOf_9 : decode cX8_chainsOf 9 = .ok (.if_icmp .ge 40, 3) := by decide +kernel
theorem dX8_chainsOf_12 : decode cX8_chainsOf 12 = .ok (.iload_n 2, 1) := by decide +kernel
theorem dX8_chainsOf_13 : decode cX8_chainsOf 13 = .ok (.aload_n 0, 1) := by decide +kernel
theorem dX8_chainsOf_14 : decode cX8_chainsOf 14 = .ok (.getfield 41, 3) := by decide +kernel
theorem dX8_chainsOf_17 : decode cX8_chainsOf 17 = .ok (.iload_n 3, 1) := by decide +kernel
theorem dX8_chainsOf_18 : decode cX8_chainsOf 18 = .ok (.iaload, 1) := by decide +kernel
theorem dX8_chainsOf_19 : decode cX8_chainsOf 19 = .ok (.ifCond .ne 21, 3) := by decide +kernel
theorem dX8_chainsOf_22 : decode cX8_chainsOf 22 = .ok (.iload_n 3, 1) := by decide +kernel
theorem dX8_chainsOf_23 : decode cX8_chainsOf 23 = .ok (.iload_n 1, 1) := by decide +kernel
theorem dX8_chainsOf_24 : decode cX8_chainsOf 24 = .ok (.if_icmp .eq 12, 3) := by decide +kernel
theorem dX8_chainsOf_27 : decode cX8_chainsOf 27 = .ok (.aload_n 0, 1) := by decide +kernel
theorem dX8_chainsOf_28 : decode cX8_chainsOf 28 = .ok (.iload_n 3, 1) := by decide +kernel
theorem dX8_chainsOf_29 : decode cX8_chainsOf 29 = .ok (.invokevirtual 243, 3) := by decide +kernel
theorem dX8_chainsOf_32 : decode cX8_chainsOf 32 = .ok (.iload_n 1, 1) := by decide +kernel
theorem dX8_chainsOf_33 : decode cX8_chainsOf 33 = .ok (.if_icmp .ne 7, 3) := by decide +kernel
theorem dX8_chainsOf_36 : decode cX8_chainsOf 36 = .ok (.iconst 1, 1) := by decide +kernel
theorem dX8_chainsOf_37 : decode cX8_chainsOf 37 = .ok (.goto 4, 3) := by decide +kernel
theorem dX8_chainsOf_40 : decode cX8_chainsOf 40 = .ok (.iconst 0, 1) := by decide +kernel
theorem dX8_chainsOf_41 : decode cX8_chainsOf 41 = .ok (.iadd, 1) := by decide +kernel
theorem dX8_chainsOf_42 : decode cX8_chainsOf 42 = .ok (.istore_n 2, 1) := by decide +kernel
theorem dX8_chainsOf_43 : decode cX8_chainsOf 43 = .ok (.iinc 3 1, 3) := by decide +kernel
theorem dX8_chainsOf_46 : decode cX8_chainsOf 46 = .ok (.goto (-42), 3) := by decide +kernel
theorem dX8_chainsOf_49 : decode cX8_chainsOf 49 = .ok (.iload_n 2, 1) := by decide +kernel
theorem dX8_chainsOf_50 : decode cX8_chainsOf 50 = .ok (.ireturn, 1) := by decide +kernel
theorem dX8_manTells_0 : decode cX8_manTells 0 = .ok (.iload_n 2, 1) := by decide +kernel
theorem dX8_manTells_1 : decode cX8_manTells 1 = .ok (.ifCond .ne 12, 3) := by decide +kernel
theorem dX8_manTells_4 : decode cX8_manTells 4 = .ok (.aload_n 0, 1) := by decide +kernel
theorem dX8_manTells_5 : decode cX8_manTells 5 = .ok (.getfield 32, 3) := by decide +kernel
theorem dX8_manTells_8 : decode cX8_manTells 8 = .ok (.iload_n 1, 1) := by decide +kernel
theorem dX8_manTells_9 : decode cX8_manTells 9 = .ok (.iaload, 1) := by decide +kernel
theorem dX8_manTells_10 : decode cX8_manTells 10 = .ok (.goto 35, 3) := by decide +kernel
theorem dX8_manTells_13 : decode cX8_manTells 13 = .ok (.iload_n 2, 1) := by decide +kernel
theorem dX8_manTells_14 : decode cX8_manTells 14 = .ok (.iconst 1, 1) := by decide +kernel
theorem dX8_manTells_15 : decode cX8_manTells 15 = .ok (.if_icmp .ne 12, 3) := by decide +kernel
theorem dX8_manTells_18 : decode cX8_manTells 18 = .ok (.aload_n 0, 1) := by decide +kernel
theorem dX8_manTells_19 : decode cX8_manTells 19 = .ok (.getfield 35, 3) := by decide +kernel
theorem dX8_manTells_22 : decode cX8_manTells 22 = .ok (.iload_n 1, 1) := by decide +kernel
theorem dX8_manTells_23 : decode cX8_manTells 23 = .ok (.iaload, 1) := by decide +kernel
theorem dX8_manTells_24 : decode cX8_manTells 24 = .ok (.goto 21, 3) := by decide +kernel
theorem dX8_manTells_27 : decode cX8_manTells 27 = .ok (.iload_n 2, 1) := by decide +kernel
theorem dX8_manTells_28 : decode cX8_manTells 28 = .ok (.iconst 2, 1) := by decide +kernel
theorem dX8_manTells_29 : decode cX8_manTells 29 = .ok (.if_icmp .ne 11, 3) := by decide +kernel
theorem dX8_manTells_32 : decode cX8_manTells 32 = .ok (.aload_n 0, 1) := by decide +kernel
theorem dX8_manTells_33 : decode cX8_manTells 33 = .ok (.iload_n 1, 1) := by decide +kernel
theorem dX8_manTells_34 : decode cX8_manTells 34 = .ok (.invokevirtual 281, 3) := by decide +kernel
theorem dX8_manTells_37 : decode cX8_manTells 37 = .ok (.goto 8, 3) := by decide +kernel
theorem dX8_manTells_40 : decode cX8_manTells 40 = .ok (.aload_n 0, 1) := by decide +kernel
theorem dX8_manTells_41 : decode cX8_manTells 41 = .ok (.iload_n 1, 1) := by decide +kernel
theorem dX8_manTells_42 : decode cX8_manTells 42 = .ok (.invokevirtual 284, 3) := by decide +kernel
theorem dX8_manTells_45 : decode cX8_manTells 45 = .ok (.ireturn, 1) := by decide +kernel
theorem dX8_man_0 : decode cX8_man 0 = .ok (.aload_n 0, 1) := by decide +kernel
theorem dX8_man_1 : decode cX8_man 1 = .ok (.iload_n 1, 1) := by decide +kernel
theorem dX8_man_2 : decode cX8_man 2 = .ok (.invokevirtual 287, 3) := by decide +kernel
theorem dX8_man_5 : decode cX8_man 5 = .ok (.ifCond .eq 26, 3) := by decide +kernel
theorem dX8_man_8 : decode cX8_man 8 = .ok (.iload_n 2, 1) := by decide +kernel
theorem dX8_man_9 : decode cX8_man 9 = .ok (.iconst 0, 1) := by decide +kernel
theorem dX8_man_10 : decode cX8_man 10 = .ok (.iconst 3, 1) := by decide +kernel
theorem dX8_man_11 : decode cX8_man 11 = .ok (.invokestatic 133, 3) := by decide +kernel
theorem dX8_man_14 : decode cX8_man 14 = .ok (.ifCond .eq 17, 3) := by decide +kernel
theorem dX8_man_17 : decode cX8_man 17 = .ok (.aload_n 0, 1) := by decide +kernel
theorem dX8_man_18 : decode cX8_man 18 = .ok (.aload_n 0, 1) := by decide +kernel
theorem dX8_man_19 : decode cX8_man 19 = .ok (.iload_n 1, 1) := by decide +kernel
theorem dX8_man_20 : decode cX8_man 20 = .ok (.iload_n 2, 1) := by decide +kernel
theorem dX8_man_21 : decode cX8_man 21 = .ok (.invokevirtual 290, 3) := by decide +kernel
theorem dX8_man_24 : decode cX8_man 24 = .ok (.iconst 1, 1) := by decide +kernel
theorem dX8_man_25 : decode cX8_man 25 = .ok (.invokevirtual 152, 3) := by decide +kernel
theorem dX8_man_28 : decode cX8_man 28 = .ok (.goto 4, 3) := by decide +kernel
theorem dX8_man_31 : decode cX8_man 31 = .ok (.iconst (-1), 1) := by decide +kernel
theorem dX8_man_32 : decode cX8_man 32 = .ok (.ireturn, 1) := by decide +kernel
theorem dX8_chainTells_0 : decode cX8_chainTells 0 = .ok (.aload_n 0, 1) := by decide +kernel
theorem dX8_chainTells_1 : decode cX8_chainTells 1 = .ok (.invokevirtual 293, 3) := by decide +kernel
theorem dX8_chainTells_4 : decode cX8_chainTells 4 = .ok (.iload_n 2, 1) := by decide +kernel
theorem dX8_chainTells_5 : decode cX8_chainTells 5 = .ok (.ifCond .ne 12, 3) := by decide +kernel
theorem dX8_chainTells_8 : decode cX8_chainTells 8 = .ok (.aload_n 0, 1) := by decide +kernel
theorem dX8_chainTells_9 : decode cX8_chainTells 9 = .ok (.getfield 38, 3) := by decide +kernel
theorem dX8_chainTells_12 : decode cX8_chainTells 12 = .ok (.iload_n 1, 1) := by decide +kernel
theorem dX8_chainTells_13 : decode cX8_chainTells 13 = .ok (.iaload, 1) := by decide +kernel
theorem dX8_chainTells_14 : decode cX8_chainTells 14 = .ok (.goto 35, 3) := by decide +kernel
theorem dX8_chainTells_17 : decode cX8_chainTells 17 = .ok (.iload_n 2, 1) := by decide +kernel
theorem dX8_chainTells_18 : decode cX8_chainTells 18 = .ok (.iconst 1, 1) := by decide +kernel
theorem dX8_chainTells_19 : decode cX8_chainTells 19 = .ok (.if_icmp .ne 11, 3) := by decide +kernel
theorem dX8_chainTells_22 : decode cX8_chainTells 22 = .ok (.aload_n 0, 1) := by decide +kernel
theorem dX8_chainTells_23 : decode cX8_chainTells 23 = .ok (.iload_n 1, 1) := by decide +kernel
theorem dX8_chainTells_24 : decode cX8_chainTells 24 = .ok (.invokevirtual 249, 3) := by decide +kernel
theorem dX8_chainTells_27 : decode cX8_chainTells 27 = .ok (.goto 22, 3) := by decide +kernel
theorem dX8_chainTells_30 : decode cX8_chainTells 30 = .ok (.iload_n 2, 1) := by decide +kernel
theorem dX8_chainTells_31 : decode cX8_chainTells 31 = .ok (.iconst 2, 1) := by decide +kernel
theorem dX8_chainTells_32 : decode cX8_chainTells 32 = .ok (.if_icmp .ne 11, 3) := by decide +kernel
theorem dX8_chainTells_35 : decode cX8_chainTells 35 = .ok (.aload_n 0, 1) := by decide +kernel
theorem dX8_chainTells_36 : decode cX8_chainTells 36 = .ok (.iload_n 1, 1) := by decide +kernel
theorem dX8_chainTells_37 : decode cX8_chainTells 37 = .ok (.invokevirtual 246, 3) := by decide +kernel
theorem dX8_chainTells_40 : decode cX8_chainTells 40 = .ok (.goto 9, 3) := by decide +kernel
theorem dX8_chainTells_43 : decode cX8_chainTells 43 = .ok (.aload_n 0, 1) := by decide +kernel
theorem dX8_chainTells_44 : decode cX8_chainTells 44 = .ok (.getfield 41, 3) := by decide +kernel
theorem dX8_chainTells_47 : decode cX8_chainTells 47 = .ok (.iload_n 1, 1) := by decide +kernel
theorem dX8_chainTells_48 : decode cX8_chainTells 48 = .ok (.iaload, 1) := by decide +kernel
theorem dX8_chainTells_49 : decode cX8_chainTells 49 = .ok (.ireturn, 1) := by decide +kernel
theorem dX8_chain_0 : decode cX8_chain 0 = .ok (.aload_n 0, 1) := by decide +kernel
theorem dX8_chain_1 : decode cX8_chain 1 = .ok (.iload_n 1, 1) := by decide +kernel
theorem dX8_chain_2 : decode cX8_chain 2 = .ok (.invokevirtual 296, 3) := by decide +kernel
theorem dX8_chain_5 : decode cX8_chain 5 = .ok (.ifCond .eq 26, 3) := by decide +kernel
theorem dX8_chain_8 : decode cX8_chain 8 = .ok (.iload_n 2, 1) := by decide +kernel
theorem dX8_chain_9 : decode cX8_chain 9 = .ok (.iconst 0, 1) := by decide +kernel
theorem dX8_chain_10 : decode cX8_chain 10 = .ok (.iconst 3, 1) := by decide +kernel
theorem dX8_chain_11 : decode cX8_chain 11 = .ok (.invokestatic 133, 3) := by decide +kernel
theorem dX8_chain_14 : decode cX8_chain 14 = .ok (.ifCond .eq 17, 3) := by decide +kernel
theorem dX8_chain_17 : decode cX8_chain 17 = .ok (.aload_n 0, 1) := by decide +kernel
theorem dX8_chain_18 : decode cX8_chain 18 = .ok (.aload_n 0, 1) := by decide +kernel
theorem dX8_chain_19 : decode cX8_chain 19 = .ok (.iload_n 1, 1) := by decide +kernel
theorem dX8_chain_20 : decode cX8_chain 20 = .ok (.iload_n 2, 1) := by decide +kernel
theorem dX8_chain_21 : decode cX8_chain 21 = .ok (.invokevirtual 299, 3) := by decide +kernel
theorem dX8_chain_24 : decode cX8_chain 24 = .ok (.iconst 1, 1) := by decide +kernel
theorem dX8_chain_25 : decode cX8_chain 25 = .ok (.invokevirtual 152, 3) := by decide +kernel
theorem dX8_chain_28 : decode cX8_chain 28 = .ok (.goto 4, 3) := by decide +kernel
theorem dX8_chain_31 : decode cX8_chain 31 = .ok (.iconst (-1), 1) := by decide +kernel
theorem dX8_chain_32 : decode cX8_chain 32 = .ok (.ireturn, 1) := by decide +kernel
theorem dX8_chainedTo_0 : decode cX8_chainedTo 0 = .ok (.iconst 0, 1) := by decide +kernel
theorem dX8_chainedTo_1 : decode cX8_chainedTo 1 = .ok (.istore_n 3, 1) := by decide +kernel
theorem dX8_chainedTo_2 : decode cX8_chainedTo 2 = .ok (.iconst 0, 1) := by decide +kernel
theorem dX8_chainedTo_3 : decode cX8_chainedTo 3 = .ok (.istore 4, 2) := by decide +kernel
theorem dX8_chainedTo_5 : decode cX8_chainedTo 5 = .ok (.iload 4, 2) := by decide +kernel
theorem dX8_chainedTo_7 : decode cX8_chainedTo 7 = .ok (.aload_n 0, 1) := by decide +kernel
theorem dX8_chainedTo_8 : decode cX8_chainedTo 8 = .ok (.getfield 221, 3) := by decide +kernel
theorem dX8_chainedTo_11 : decode cX8_chainedTo 11 = .ok (.if_icmp .ge 58, 3) := by decide +kernel
theorem dX8_chainedTo_14 : decode cX8_chainedTo 14 = .ok (.iconst 0, 1) := by decide +kernel
theorem dX8_chainedTo_15 : decode cX8_chainedTo 15 = .ok (.istore 5, 2) := by decide +kernel
theorem dX8_chainedTo_17 : decode cX8_chainedTo 17 = .ok (.iload 5, 2) := by decide +kernel
theorem dX8_chainedTo_19 : decode cX8_chainedTo 19 = .ok (.aload_n 0, 1) := by decide +kernel
theorem dX8_chainedTo_20 : decode cX8_chainedTo 20 = .ok (.getfield 227, 3) := by decide +kernel
theorem dX8_chainedTo_23 : decode cX8_chainedTo 23 = .ok (.if_icmp .ge 40, 3) := by decide +kernel
theorem dX8_chainedTo_26 : decode cX8_chainedTo 26 = .ok (.iload_n 3, 1) := by decide +kernel
theorem dX8_chainedTo_27 : decode cX8_chainedTo 27 = .ok (.aload_n 0, 1) := by decide +kernel
theorem dX8_chainedTo_28 : decode cX8_chainedTo 28 = .ok (.getfield 32, 3) := by decide +kernel
theorem dX8_chainedTo_31 : decode cX8_chainedTo 31 = .ok (.iload 4, 2) := by decide +kernel
theorem dX8_chainedTo_33 : decode cX8_chainedTo 33 = .ok (.iaload, 1) := by decide +kernel
theorem dX8_chainedTo_34 : decode cX8_chainedTo 34 = .ok (.iload_n 2, 1) := by decide +kernel
theorem dX8_chainedTo_35 : decode cX8_chainedTo 35 = .ok (.if_icmp .ne 19, 3) := by decide +kernel
theorem dX8_chainedTo_38 : decode cX8_chainedTo 38 = .ok (.aload_n 0, 1) := by decide +kernel
theorem dX8_chainedTo_39 : decode cX8_chainedTo 39 = .ok (.iload 5, 2) := by decide +kernel
theorem dX8_chainedTo_41 : decode cX8_chainedTo 41 = .ok (.iload_n 1, 1) := by decide +kernel
theorem dX8_chainedTo_42 : decode cX8_chainedTo 42 = .ok (.iload 4, 2) := by decide +kernel
theorem dX8_chainedTo_44 : decode cX8_chainedTo 44 = .ok (.invokevirtual 258, 3) := by decide +kernel
theorem dX8_chainedTo_47 : decode cX8_chainedTo 47 = .ok (.ifCond .eq 7, 3) := by decide +kernel
theorem dX8_chainedTo_50 : decode cX8_chainedTo 50 = .ok (.iconst 1, 1) := by decide +kernel
theorem dX8_chainedTo_51 : decode cX8_chainedTo 51 = .ok (.goto 4, 3) := by decide +kernel
theorem dX8_chainedTo_54 : decode cX8_chainedTo 54 = .ok (.iconst 0, 1) := by decide +kernel
theorem dX8_chainedTo_55 : decode cX8_chainedTo 55 = .ok (.iadd, 1) := by decide +kernel
theorem dX8_chainedTo_56 : decode cX8_chainedTo 56 = .ok (.istore_n 3, 1) := by decide +kernel
theorem dX8_chainedTo_57 : decode cX8_chainedTo 57 = .ok (.iinc 5 1, 3) := by decide +kernel
theorem dX8_chainedTo_60 : decode cX8_chainedTo 60 = .ok (.goto (-43), 3) := by decide +kernel
theorem dX8_chainedTo_63 : decode cX8_chainedTo 63 = .ok (.iinc 4 1, 3) := by decide +kernel
theorem dX8_chainedTo_66 : decode cX8_chainedTo 66 = .ok (.goto (-61), 3) := by decide +kernel
theorem dX8_chainedTo_69 : decode cX8_chainedTo 69 = .ok (.iload_n 3, 1) := by decide +kernel
theorem dX8_chainedTo_70 : decode cX8_chainedTo 70 = .ok (.ireturn, 1) := by decide +kernel
theorem dX8_farFrom_0 : decode cX8_farFrom 0 = .ok (.iconst 0, 1) := by decide +kernel
theorem dX8_farFrom_1 : decode cX8_farFrom 1 = .ok (.istore_n 2, 1) := by decide +kernel
theorem dX8_farFrom_2 : decode cX8_farFrom 2 = .ok (.iconst 0, 1) := by decide +kernel
theorem dX8_farFrom_3 : decode cX8_farFrom 3 = .ok (.istore_n 3, 1) := by decide +kernel
theorem dX8_farFrom_4 : decode cX8_farFrom 4 = .ok (.iload_n 3, 1) := by decide +kernel
theorem dX8_farFrom_5 : decode cX8_farFrom 5 = .ok (.aload_n 0, 1) := by decide +kernel
theorem dX8_farFrom_6 : decode cX8_farFrom 6 = .ok (.getfield 221, 3) := by decide +kernel
theorem dX8_farFrom_9 : decode cX8_farFrom 9 = .ok (.if_icmp .ge 40, 3) := by decide +kernel
theorem dX8_farFrom_12 : decode cX8_farFrom 12 = .ok (.iload_n 2, 1) := by decide +kernel
theorem dX8_farFrom_13 : decode cX8_farFrom 13 = .ok (.aload_n 0, 1) := by decide +kernel
theorem dX8_farFrom_14 : decode cX8_farFrom 14 = .ok (.getfield 35, 3) := by decide +kernel
theorem dX8_farFrom_17 : decode cX8_farFrom 17 = .ok (.iload_n 1, 1) := by decide +kernel
theorem dX8_farFrom_18 : decode cX8_farFrom 18 = .ok (.iaload, 1) := by decide +kernel
theorem dX8_farFrom_19 : decode cX8_farFrom 19 = .ok (.aload_n 0, 1) := by decide +kernel
theorem dX8_farFrom_20 : decode cX8_farFrom 20 = .ok (.getfield 35, 3) := by decide +kernel
theorem dX8_farFrom_23 : decode cX8_farFrom 23 = .ok (.iload_n 3, 1) := by decide +kernel
theorem dX8_farFrom_24 : decode cX8_farFrom 24 = .ok (.iaload, 1) := by decide +kernel
theorem dX8_farFrom_25 : decode cX8_farFrom 25 = .ok (.aload_n 0, 1) := by decide +kernel
theorem dX8_farFrom_26 : decode cX8_farFrom 26 = .ok (.getfield 218, 3) := by decide +kernel
theorem dX8_farFrom_29 : decode cX8_farFrom 29 = .ok (.invokestatic 199, 3) := by decide +kernel
theorem dX8_farFrom_32 : decode cX8_farFrom 32 = .ok (.iconst 2, 1) := by decide +kernel
theorem dX8_farFrom_33 : decode cX8_farFrom 33 = .ok (.if_icmp .le 7, 3) := by decide +kernel
theorem dX8_farFrom_36 : decode cX8_farFrom 36 = .ok (.iconst 1, 1) := by decide +kernel
theorem dX8_farFrom_37 : decode cX8_farFrom 37 = .ok (.goto 4, 3) := by decide +kernel
theorem dX8_farFrom_40 : decode cX8_farFrom 40 = .ok (.iconst 0, 1) := by decide +kernel
theorem dX8_farFrom_41 : decode cX8_farFrom 41 = .ok (.iadd, 1) := by decide +kernel
theorem dX8_farFrom_42 : decode cX8_farFrom 42 = .ok (.istore_n 2, 1) := by decide +kernel
theorem dX8_farFrom_43 : decode cX8_farFrom 43 = .ok (.iinc 3 1, 3) := by decide +kernel
theorem dX8_farFrom_46 : decode cX8_farFrom 46 = .ok (.goto (-42), 3) := by decide +kernel
theorem dX8_farFrom_49 : decode cX8_farFrom 49 = .ok (.iload_n 2, 1) := by decide +kernel
theorem dX8_farFrom_50 : decode cX8_farFrom 50 = .ok (.ireturn, 1) := by decide +kernel
theorem dX8_leastReach_0 : decode cX8_leastReach 0 = .ok (.bipush (-9), 2) := by decide +kernel
theorem dX8_leastReach_2 : decode cX8_leastReach 2 = .ok (.istore_n 2, 1) := by decide +kernel
theorem dX8_leastReach_3 : decode cX8_leastReach 3 = .ok (.iconst 0, 1) := by decide +kernel
theorem dX8_leastReach_4 : decode cX8_leastReach 4 = .ok (.istore_n 3, 1) := by decide +kernel
theorem dX8_leastReach_5 : decode cX8_leastReach 5 = .ok (.iload_n 3, 1) := by decide +kernel
theorem dX8_leastReach_6 : decode cX8_leastReach 6 = .ok (.aload_n 0, 1) := by decide +kernel
theorem dX8_leastReach_7 : decode cX8_leastReach 7 = .ok (.getfield 227, 3) := by decide +kernel
theorem dX8_leastReach_10 : decode cX8_leastReach 10 = .ok (.if_icmp .ge 60, 3) := by decide +kernel
theorem dX8_leastReach_13 : decode cX8_leastReach 13 = .ok (.iload_n 3, 1) := by decide +kernel
theorem dX8_leastReach_14 : decode cX8_leastReach 14 = .ok (.iload_n 1, 1) := by decide +kernel
theorem dX8_leastReach_15 : decode cX8_leastReach 15 = .ok (.if_icmp .eq 12, 3) := by decide +kernel
theorem dX8_leastReach_18 : decode cX8_leastReach 18 = .ok (.aload_n 0, 1) := by decide +kernel
theorem dX8_leastReach_19 : decode cX8_leastReach 19 = .ok (.iload_n 3, 1) := by decide +kernel
theorem dX8_leastReach_20 : decode cX8_leastReach 20 = .ok (.invokevirtual 243, 3) := by decide +kernel
theorem dX8_leastReach_23 : decode cX8_leastReach 23 = .ok (.iload_n 1, 1) := by decide +kernel
theorem dX8_leastReach_24 : decode cX8_leastReach 24 = .ok (.if_icmp .ne 7, 3) := by decide +kernel
theorem dX8_leastReach_27 : decode cX8_leastReach 27 = .ok (.iconst 1, 1) := by decide +kernel
theorem dX8_leastReach_28 : decode cX8_leastReach 28 = .ok (.goto 4, 3) := by decide +kernel
theorem dX8_leastReach_31 : decode cX8_leastReach 31 = .ok (.iconst 0, 1) := by decide +kernel
theorem dX8_leastReach_32 : decode cX8_leastReach 32 = .ok (.istore 4, 2) := by decide +kernel
theorem dX8_leastReach_34 : decode cX8_leastReach 34 = .ok (.iload 4, 2) := by decide +kernel
theorem dX8_leastReach_36 : decode cX8_leastReach 36 = .ok (.ifCond .eq 26, 3) := by decide +kernel
theorem dX8_leastReach_39 : decode cX8_leastReach 39 = .ok (.iload_n 2, 1) := by decide +kernel
theorem dX8_leastReach_40 : decode cX8_leastReach 40 = .ok (.bipush (-9), 2) := by decide +kernel
theorem dX8_leastReach_42 : decode cX8_leastReach 42 = .ok (.if_icmp .eq 12, 3) := by decide +kernel
theorem dX8_leastReach_45 : decode cX8_leastReach 45 = .ok (.aload_n 0, 1) := by decide +kernel
theorem dX8_leastReach_46 : decode cX8_leastReach 46 = .ok (.iload_n 3, 1) := by decide +kernel
theorem dX8_leastReach_47 : decode cX8_leastReach 47 = .ok (.invokevirtual 249, 3) := by decide +kernel
theorem dX8_leastReach_50 : decode cX8_leastReach 50 = .ok (.iload_n 2, 1) := by decide +kernel
theorem dX8_leastReach_51 : decode cX8_leastReach 51 = .ok (.if_icmp .ge 11, 3) := by decide +kernel
theorem dX8_leastReach_54 : decode cX8_leastReach 54 = .ok (.aload_n 0, 1) := by decide +kernel
theorem dX8_leastReach_55 : decode cX8_leastReach 55 = .ok (.iload_n 3, 1) := by decide +kernel
theorem dX8_leastReach_56 : decode cX8_leastReach 56 = .ok (.invokevirtual 249, 3) := by decide +kernel
theorem dX8_leastReach_59 : decode cX8_leastReach 59 = .ok (.goto 4, 3) := by decide +kernel
theorem dX8_leastReach_62 : decode cX8_leastReach 62 = .ok (.iload_n 2, 1) := by decide +kernel
theorem dX8_leastReach_63 : decode cX8_leastReach 63 = .ok (.istore_n 2, 1) := by decide +kernel
theorem dX8_leastReach_64 : decode cX8_leastReach 64 = .ok (.iinc 3 1, 3) := by decide +kernel
theorem dX8_leastReach_67 : decode cX8_leastReach 67 = .ok (.goto (-62), 3) := by decide +kernel
theorem dX8_leastReach_70 : decode cX8_leastReach 70 = .ok (.iload_n 2, 1) := by decide +kernel
theorem dX8_leastReach_71 : decode cX8_leastReach 71 = .ok (.ireturn, 1) := by decide +kernel
theorem dX8_mark_0 : decode cX8_mark 0 = .ok (.aload_n 0, 1) := by decide +kernel
theorem dX8_mark_1 : decode cX8_mark 1 = .ok (.iload_n 1, 1) := by decide +kernel
theorem dX8_mark_2 : decode cX8_mark 2 = .ok (.invokevirtual 287, 3) := by decide +kernel
theorem dX8_mark_5 : decode cX8_mark 5 = .ok (.ifCond .eq 12, 3) := by decide +kernel
theorem dX8_mark_8 : decode cX8_mark 8 = .ok (.iload_n 2, 1) := by decide +kernel
theorem dX8_mark_9 : decode cX8_mark 9 = .ok (.iconst 1, 1) := by decide +kernel
theorem dX8_mark_10 : decode cX8_mark 10 = .ok (.iconst 5, 1) := by decide +kernel
theorem dX8_mark_11 : decode cX8_mark 11 = .ok (.invokestatic 133, 3) := by decide +kernel
theorem dX8_mark_14 : decode cX8_mark 14 = .ok (.ifCond .ne 5, 3) := by decide +kernel
theorem dX8_mark_17 : decode cX8_mark 17 = .ok (.iconst (-1), 1) := by decide +kernel
theorem dX8_mark_18 : decode cX8_mark 18 = .ok (.ireturn, 1) := by decide +kernel
theorem dX8_mark_19 : decode cX8_mark 19 = .ok (.aload_n 0, 1) := by decide +kernel
theorem dX8_mark_20 : decode cX8_mark 20 = .ok (.getfield 32, 3) := by decide +kernel
theorem dX8_mark_23 : decode cX8_mark 23 = .ok (.iload_n 1, 1) := by decide +kernel
theorem dX8_mark_24 : decode cX8_mark 24 = .ok (.iaload, 1) := by decide +kernel
theorem dX8_mark_25 : decode cX8_mark 25 = .ok (.istore_n 3, 1) := by decide +kernel
theorem dX8_mark_26 : decode cX8_mark 26 = .ok (.iload_n 3, 1) := by decide +kernel
theorem dX8_mark_27 : decode cX8_mark 27 = .ok (.iload_n 2, 1) := by decide +kernel
theorem dX8_mark_28 : decode cX8_mark 28 = .ok (.if_icmp .eq 29, 3) := by decide +kernel
theorem dX8_mark_31 : decode cX8_mark 31 = .ok (.iload_n 2, 1) := by decide +kernel
theorem dX8_mark_32 : decode cX8_mark 32 = .ok (.iconst 2, 1) := by decide +kernel
theorem dX8_mark_33 : decode cX8_mark 33 = .ok (.if_icmp .ne 8, 3) := by decide +kernel
theorem dX8_mark_36 : decode cX8_mark 36 = .ok (.iload_n 3, 1) := by decide +kernel
theorem dX8_mark_37 : decode cX8_mark 37 = .ok (.iconst 4, 1) := by decide +kernel
theorem dX8_mark_38 : decode cX8_mark 38 = .ok (.if_icmp .eq 19, 3) := by decide +kernel
theorem dX8_mark_41 : decode cX8_mark 41 = .ok (.iload_n 2, 1) := by decide +kernel
theorem dX8_mark_42 : decode cX8_mark 42 = .ok (.iconst 3, 1) := by decide +kernel
theorem dX8_mark_43 : decode cX8_mark 43 = .ok (.if_icmp .ne 8, 3) := by decide +kernel
theorem dX8_mark_46 : decode cX8_mark 46 = .ok (.iload_n 3, 1) := by decide +kernel
theorem dX8_mark_47 : decode cX8_mark 47 = .ok (.iconst 5, 1) := by decide +kernel
theorem dX8_mark_48 : decode cX8_mark 48 = .ok (.if_icmp .eq 9, 3) := by decide +kernel
theorem dX8_mark_51 : decode cX8_mark 51 = .ok (.aload_n 0, 1) := by decide +kernel
theorem dX8_mark_52 : decode cX8_mark 52 = .ok (.iconst 3, 1) := by decide +kernel
theorem dX8_mark_53 : decode cX8_mark 53 = .ok (.invokevirtual 144, 3) := by decide +kernel
theorem dX8_mark_56 : decode cX8_mark 56 = .ok (.ireturn, 1) := by decide +kernel
theorem dX8_mark_57 : decode cX8_mark 57 = .ok (.iload_n 2, 1) := by decide +kernel
theorem dX8_mark_58 : decode cX8_mark 58 = .ok (.tableswitch 59 1 4 #[30, 37, 44, 53], 30) := by decide +kernel
theorem dX8_mark_88 : decode cX8_mark 88 = .ok (.aload_n 0, 1) := by decide +kernel
theorem dX8_mark_89 : decode cX8_mark 89 = .ok (.iload_n 1, 1) := by decide +kernel
theorem dX8_mark_90 : decode cX8_mark 90 = .ok (.iconst 2, 1) := by decide +kernel
theorem dX8_mark_91 : decode cX8_mark 91 = .ok (.invokevirtual 302, 3) := by decide +kernel
theorem dX8_mark_94 : decode cX8_mark 94 = .ok (.ireturn, 1) := by decide +kernel
theorem dX8_mark_95 : decode cX8_mark 95 = .ok (.aload_n 0, 1) := by decide +kernel
theorem dX8_mark_96 : decode cX8_mark 96 = .ok (.iload_n 1, 1) := by decide +kernel
theorem dX8_mark_97 : decode cX8_mark 97 = .ok (.iconst 1, 1) := by decide +kernel
theorem dX8_mark_98 : decode cX8_mark 98 = .ok (.invokevirtual 302, 3) := by decide +kernel
theorem dX8_mark_101 : decode cX8_mark 101 = .ok (.ireturn, 1) := by decide +kernel
theorem dX8_mark_102 : decode cX8_mark 102 = .ok (.aload_n 0, 1) := by decide +kernel
theorem dX8_mark_103 : decode cX8_mark 103 = .ok (.iload_n 1, 1) := by decide +kernel
theorem dX8_mark_104 : decode cX8_mark 104 = .ok (.invokevirtual 305, 3) := by decide +kernel
theorem dX8_mark_107 : decode cX8_mark 107 = .ok (.invokestatic 308, 3) := by decide +kernel
theorem dX8_mark_110 : decode cX8_mark 110 = .ok (.ireturn, 1) := by decide +kernel
theorem dX8_mark_111 : decode cX8_mark 111 = .ok (.aload_n 0, 1) := by decide +kernel
theorem dX8_mark_112 : decode cX8_mark 112 = .ok (.iload_n 1, 1) := by decide +kernel
theorem dX8_mark_113 : decode cX8_mark 113 = .ok (.invokevirtual 311, 3) := by decide +kernel
theorem dX8_mark_116 : decode cX8_mark 116 = .ok (.ireturn, 1) := by decide +kernel
theorem dX8_mark_117 : decode cX8_mark 117 = .ok (.aload_n 0, 1) := by decide +kernel
theorem dX8_mark_118 : decode cX8_mark 118 = .ok (.iload_n 1, 1) := by decide +kernel
theorem dX8_mark_119 : decode cX8_mark 119 = .ok (.invokevirtual 314, 3) := by decide +kernel
theorem dX8_mark_122 : decode cX8_mark 122 = .ok (.ireturn, 1) := by decide +kernel
theorem dX8_tide_0 : decode cX8_tide 0 = .ok (.iload_n 1, 1) := by decide +kernel
theorem dX8_tide_1 : decode cX8_tide 1 = .ok (.iconst 0, 1) := by decide +kernel
theorem dX8_tide_2 : decode cX8_tide 2 = .ok (.iconst 3, 1) := by decide +kernel
theorem dX8_tide_3 : decode cX8_tide 3 = .ok (.invokestatic 133, 3) := by decide +kernel
theorem dX8_tide_6 : decode cX8_tide 6 = .ok (.ifCond .ne 5, 3) := by decide +kernel
theorem dX8_tide_9 : decode cX8_tide 9 = .ok (.iconst (-1), 1) := by decide +kernel
theorem dX8_tide_10 : decode cX8_tide 10 = .ok (.ireturn, 1) := by decide +kernel
theorem dX8_tide_11 : decode cX8_tide 11 = .ok (.aload_n 0, 1) := by decide +kernel
theorem dX8_tide_12 : decode cX8_tide 12 = .ok (.invokevirtual 239, 3) := by decide +kernel
theorem dX8_tide_15 : decode cX8_tide 15 = .ok (.ifCond .ne 6, 3) := by decide +kernel
theorem dX8_tide_18 : decode cX8_tide 18 = .ok (.bipush (-4), 2) := by decide +kernel
theorem dX8_tide_20 : decode cX8_tide 20 = .ok (.ireturn, 1) := by decide +kernel
theorem dX8_tide_21 : decode cX8_tide 21 = .ok (.aload_n 0, 1) := by decide +kernel
theorem dX8_tide_22 : decode cX8_tide 22 = .ok (.getfield 230, 3) := by decide +kernel
theorem dX8_tide_25 : decode cX8_tide 25 = .ok (.istore_n 2, 1) := by decide +kernel
theorem dX8_tide_26 : decode cX8_tide 26 = .ok (.aload_n 0, 1) := by decide +kernel
theorem dX8_tide_27 : decode cX8_tide 27 = .ok (.iload_n 1, 1) := by decide +kernel
theorem dX8_tide_28 : decode cX8_tide 28 = .ok (.putfield 230, 3) := by decide +kernel
theorem dX8_tide_31 : decode cX8_tide 31 = .ok (.iload_n 2, 1) := by decide +kernel
theorem dX8_tide_32 : decode cX8_tide 32 = .ok (.ireturn, 1) := by decide +kernel
theorem dX8_open_0 : decode cX8_open 0 = .ok (.aload_n 0, 1) := by decide +kernel
theorem dX8_open_1 : decode cX8_open 1 = .ok (.iload_n 1, 1) := by decide +kernel
theorem dX8_open_2 : decode cX8_open 2 = .ok (.invokevirtual 296, 3) := by decide +kernel
theorem dX8_open_5 : decode cX8_open 5 = .ok (.ifCond .eq 12, 3) := by decide +kernel
theorem dX8_open_8 : decode cX8_open 8 = .ok (.iload_n 2, 1) := by decide +kernel
theorem dX8_open_9 : decode cX8_open 9 = .ok (.iconst 0, 1) := by decide +kernel
theorem dX8_open_10 : decode cX8_open 10 = .ok (.iconst 1, 1) := by decide +kernel
theorem dX8_open_11 : decode cX8_open 11 = .ok (.invokestatic 133, 3) := by decide +kernel
theorem dX8_open_14 : decode cX8_open 14 = .ok (.ifCond .ne 5, 3) := by decide +kernel
theorem dX8_open_17 : decode cX8_open 17 = .ok (.iconst (-1), 1) := by decide +kernel
theorem dX8_open_18 : decode cX8_open 18 = .ok (.ireturn, 1) := by decide +kernel
theorem dX8_open_19 : decode cX8_open 19 = .ok (.aload_n 0, 1) := by decide +kernel
theorem dX8_open_20 : decode cX8_open 20 = .ok (.invokevirtual 293, 3) := by decide +kernel
theorem dX8_open_23 : decode cX8_open 23 = .ok (.iload_n 2, 1) := by decide +kernel
theorem dX8_open_24 : decode cX8_open 24 = .ok (.ifCond .ne 19, 3) := by decide +kernel
theorem dX8_open_27 : decode cX8_open 27 = .ok (.aload_n 0, 1) := by decide +kernel
theorem dX8_open_28 : decode cX8_open 28 = .ok (.iload_n 1, 1) := by decide +kernel
theorem dX8_open_29 : decode cX8_open 29 = .ok (.invokevirtual 246, 3) := by decide +kernel
theorem dX8_open_32 : decode cX8_open 32 = .ok (.aload_n 0, 1) := by decide +kernel
theorem dX8_open_33 : decode cX8_open 33 = .ok (.iload_n 1, 1) := by decide +kernel
theorem dX8_open_34 : decode cX8_open 34 = .ok (.invokevirtual 249, 3) := by decide +kernel
theorem dX8_open_37 : decode cX8_open 37 = .ok (.if_icmp .le 6, 3) := by decide +kernel
theorem dX8_open_40 : decode cX8_open 40 = .ok (.bipush (-4), 2) := by decide +kernel
theorem dX8_open_42 : decode cX8_open 42 = .ok (.ireturn, 1) := by decide +kernel
theorem dX8_open_43 : decode cX8_open 43 = .ok (.aload_n 0, 1) := by decide +kernel
theorem dX8_open_44 : decode cX8_open 44 = .ok (.getfield 41, 3) := by decide +kernel
theorem dX8_open_47 : decode cX8_open 47 = .ok (.iload_n 1, 1) := by decide +kernel
theorem dX8_open_48 : decode cX8_open 48 = .ok (.iaload, 1) := by decide +kernel
theorem dX8_open_49 : decode cX8_open 49 = .ok (.istore_n 3, 1) := by decide +kernel
theorem dX8_open_50 : decode cX8_open 50 = .ok (.aload_n 0, 1) := by decide +kernel
theorem dX8_open_51 : decode cX8_open 51 = .ok (.getfield 41, 3) := by decide +kernel
theorem dX8_open_54 : decode cX8_open 54 = .ok (.iload_n 1, 1) := by decide +kernel
theorem dX8_open_55 : decode cX8_open 55 = .ok (.iload_n 2, 1) := by decide +kernel
theorem dX8_open_56 : decode cX8_open 56 = .ok (.iastore, 1) := by decide +kernel
theorem dX8_open_57 : decode cX8_open 57 = .ok (.iload_n 3, 1) := by decide +kernel
theorem dX8_open_58 : decode cX8_open 58 = .ok (.ireturn, 1) := by decide +kernel
theorem dX8_takeLook_0 : decode cX8_takeLook 0 = .ok (.iconst 0, 1) := by decide +kernel
theorem dX8_takeLook_1 : decode cX8_takeLook 1 = .ok (.istore_n 2, 1) := by decide +kernel
theorem dX8_takeLook_2 : decode cX8_takeLook 2 = .ok (.iload_n 2, 1) := by decide +kernel
theorem dX8_takeLook_3 : decode cX8_takeLook 3 = .ok (.iconst 4, 1) := by decide +kernel
theorem dX8_takeLook_4 : decode cX8_takeLook 4 = .ok (.if_icmp .ge 28, 3) := by decide +kernel
theorem dX8_takeLook_7 : decode cX8_takeLook 7 = .ok (.aload_n 0, 1) := by decide +kernel
theorem dX8_takeLook_8 : decode cX8_takeLook 8 = .ok (.getfield 62, 3) := by decide +kernel
theorem dX8_takeLook_11 : decode cX8_takeLook 11 = .ok (.iconst 4, 1) := by decide +kernel
theorem dX8_takeLook_12 : decode cX8_takeLook 12 = .ok (.aload_n 0, 1) := by decide +kernel
theorem dX8_takeLook_13 : decode cX8_takeLook 13 = .ok (.getfield 233, 3) := by decide +kernel
theorem dX8_takeLook_16 : decode cX8_takeLook 16 = .ok (.imul, 1) := by decide +kernel
theorem dX8_takeLook_17 : decode cX8_takeLook 17 = .ok (.iload_n 2, 1) := by decide +kernel
theorem dX8_takeLook_18 : decode cX8_takeLook 18 = .ok (.iadd, 1) := by decide +kernel
theorem dX8_takeLook_19 : decode cX8_takeLook 19 = .ok (.aload_n 0, 1) := by decide +kernel
theorem dX8_takeLook_20 : decode cX8_takeLook 20 = .ok (.getfield 35, 3) := by decide +kernel
theorem dX8_takeLook_23 : decode cX8_takeLook 23 = .ok (.iload_n 2, 1) := by decide +kernel
theorem dX8_takeLook_24 : decode cX8_takeLook 24 = .ok (.iaload, 1) := by decide +kernel
theorem dX8_takeLook_25 : decode cX8_takeLook 25 = .ok (.iastore, 1) := by decide +kernel
theorem dX8_takeLook_26 : decode cX8_takeLook 26 = .ok (.iinc 2 1, 3) := by decide +kernel
theorem dX8_takeLook_29 : decode cX8_takeLook 29 = .ok (.goto (-27), 3) := by decide +kernel
theorem dX8_takeLook_32 : decode cX8_takeLook 32 = .ok (.aload_n 0, 1) := by decide +kernel
theorem dX8_takeLook_33 : decode cX8_takeLook 33 = .ok (.getfield 59, 3) := by decide +kernel
theorem dX8_takeLook_36 : decode cX8_takeLook 36 = .ok (.aload_n 0, 1) := by decide +kernel
theorem dX8_takeLook_37 : decode cX8_takeLook 37 = .ok (.getfield 233, 3) := by decide +kernel
theorem dX8_takeLook_40 : decode cX8_takeLook 40 = .ok (.iload_n 1, 1) := by decide +kernel
theorem dX8_takeLook_41 : decode cX8_takeLook 41 = .ok (.iastore, 1) := by decide +kernel
theorem dX8_takeLook_42 : decode cX8_takeLook 42 = .ok (.aload_n 0, 1) := by decide +kernel
theorem dX8_takeLook_43 : decode cX8_takeLook 43 = .ok (.dup, 1) := by decide +kernel
theorem dX8_takeLook_44 : decode cX8_takeLook 44 = .ok (.getfield 233, 3) := by decide +kernel
theorem dX8_takeLook_47 : decode cX8_takeLook 47 = .ok (.iconst 1, 1) := by decide +kernel
theorem dX8_takeLook_48 : decode cX8_takeLook 48 = .ok (.iadd, 1) := by decide +kernel
theorem dX8_takeLook_49 : decode cX8_takeLook 49 = .ok (.putfield 233, 3) := by decide +kernel
theorem dX8_takeLook_52 : decode cX8_takeLook 52 = .ok (.iconst 0, 1) := by decide +kernel
theorem dX8_takeLook_53 : decode cX8_takeLook 53 = .ok (.istore_n 2, 1) := by decide +kernel
theorem dX8_takeLook_54 : decode cX8_takeLook 54 = .ok (.iload_n 2, 1) := by decide +kernel
theorem dX8_takeLook_55 : decode cX8_takeLook 55 = .ok (.aload_n 0, 1) := by decide +kernel
theorem dX8_takeLook_56 : decode cX8_takeLook 56 = .ok (.getfield 221, 3) := by decide +kernel
theorem dX8_takeLook_59 : decode cX8_takeLook 59 = .ok (.if_icmp .ge 21, 3) := by decide +kernel
theorem dX8_takeLook_62 : decode cX8_takeLook 62 = .ok (.aload_n 0, 1) := by decide +kernel
theorem dX8_takeLook_63 : decode cX8_takeLook 63 = .ok (.getfield 35, 3) := by decide +kernel
theorem dX8_takeLook_66 : decode cX8_takeLook 66 = .ok (.iload_n 2, 1) := by decide +kernel
theorem dX8_takeLook_67 : decode cX8_takeLook 67 = .ok (.aload_n 0, 1) := by decide +kernel
theorem dX8_takeLook_68 : decode cX8_takeLook 68 = .ok (.getfield 56, 3) := by decide +kernel
theorem dX8_takeLook_71 : decode cX8_takeLook 71 = .ok (.iload_n 2, 1) := by decide +kernel
theorem dX8_takeLook_72 : decode cX8_takeLook 72 = .ok (.iaload, 1) := by decide +kernel
theorem dX8_takeLook_73 : decode cX8_takeLook 73 = .ok (.iastore, 1) := by decide +kernel
theorem dX8_takeLook_74 : decode cX8_takeLook 74 = .ok (.iinc 2 1, 3) := by decide +kernel
theorem dX8_takeLook_77 : decode cX8_takeLook 77 = .ok (.goto (-23), 3) := by decide +kernel
theorem dX8_takeLook_80 : decode cX8_takeLook 80 = .ok (.return_, 1) := by decide +kernel
theorem dX8_step_0 : decode cX8_step 0 = .ok (.aload_n 0, 1) := by decide +kernel
theorem dX8_step_1 : decode cX8_step 1 = .ok (.iload_n 1, 1) := by decide +kernel
theorem dX8_step_2 : decode cX8_step 2 = .ok (.invokevirtual 287, 3) := by decide +kernel
theorem dX8_step_5 : decode cX8_step 5 = .ok (.ifCond .eq 12, 3) := by decide +kernel
theorem dX8_step_8 : decode cX8_step 8 = .ok (.iload_n 2, 1) := by decide +kernel
theorem dX8_step_9 : decode cX8_step 9 = .ok (.iconst 0, 1) := by decide +kernel
theorem dX8_step_10 : decode cX8_step 10 = .ok (.iconst 3, 1) := by decide +kernel
theorem dX8_step_11 : decode cX8_step 11 = .ok (.invokestatic 133, 3) := by decide +kernel
theorem dX8_step_14 : decode cX8_step 14 = .ok (.ifCond .ne 5, 3) := by decide +kernel
theorem dX8_step_17 : decode cX8_step 17 = .ok (.iconst (-1), 1) := by decide +kernel
theorem dX8_step_18 : decode cX8_step 18 = .ok (.ireturn, 1) := by decide +kernel
theorem dX8_step_19 : decode cX8_step 19 = .ok (.aload_n 0, 1) := by decide +kernel
theorem dX8_step_20 : decode cX8_step 20 = .ok (.invokevirtual 293, 3) := by decide +kernel
theorem dX8_step_23 : decode cX8_step 23 = .ok (.aload_n 0, 1) := by decide +kernel
theorem dX8_step_24 : decode cX8_step 24 = .ok (.iload_n 1, 1) := by decide +kernel
theorem dX8_step_25 : decode cX8_step 25 = .ok (.iload_n 2, 1) := by decide +kernel
theorem dX8_step_26 : decode cX8_step 26 = .ok (.invokevirtual 317, 3) := by decide +kernel
theorem dX8_step_29 : decode cX8_step 29 = .ok (.ifCond .ne 6, 3) := by decide +kernel
theorem dX8_step_32 : decode cX8_step 32 = .ok (.bipush (-4), 2) := by decide +kernel
theorem dX8_step_34 : decode cX8_step 34 = .ok (.ireturn, 1) := by decide +kernel
theorem dX8_step_35 : decode cX8_step 35 = .ok (.aload_n 0, 1) := by decide +kernel
theorem dX8_step_36 : decode cX8_step 36 = .ok (.getfield 233, 3) := by decide +kernel
theorem dX8_step_39 : decode cX8_step 39 = .ok (.bipush 60, 2) := by decide +kernel
theorem dX8_step_41 : decode cX8_step 41 = .ok (.if_icmp .ne 6, 3) := by decide +kernel
theorem dX8_step_44 : decode cX8_step 44 = .ok (.bipush (-2), 2) := by decide +kernel
theorem dX8_step_46 : decode cX8_step 46 = .ok (.ireturn, 1) := by decide +kernel
theorem dX8_step_47 : decode cX8_step 47 = .ok (.aload_n 0, 1) := by decide +kernel
theorem dX8_step_48 : decode cX8_step 48 = .ok (.bipush 10, 2) := by decide +kernel
theorem dX8_step_50 : decode cX8_step 50 = .ok (.iload_n 1, 1) := by decide +kernel
theorem dX8_step_51 : decode cX8_step 51 = .ok (.imul, 1) := by decide +kernel
theorem dX8_step_52 : decode cX8_step 52 = .ok (.iload_n 2, 1) := by decide +kernel
theorem dX8_step_53 : decode cX8_step 53 = .ok (.iadd, 1) := by decide +kernel
theorem dX8_step_54 : decode cX8_step 54 = .ok (.invokevirtual 320, 3) := by decide +kernel
theorem dX8_step_57 : decode cX8_step 57 = .ok (.aload_n 0, 1) := by decide +kernel
theorem dX8_step_58 : decode cX8_step 58 = .ok (.getfield 35, 3) := by decide +kernel
theorem dX8_step_61 : decode cX8_step 61 = .ok (.iload_n 1, 1) := by decide +kernel
theorem dX8_step_62 : decode cX8_step 62 = .ok (.iaload, 1) := by decide +kernel
theorem dX8_step_63 : decode cX8_step 63 = .ok (.ireturn, 1) := by decide +kernel
theorem dX8_waysOf_0 : decode cX8_waysOf 0 = .ok (.iconst 0, 1) := by decide +kernel
theorem dX8_waysOf_1 : decode cX8_waysOf 1 = .ok (.istore_n 2, 1) := by decide +kernel
theorem dX8_waysOf_2 : decode cX8_waysOf 2 = .ok (.iconst 0, 1) := by decide +kernel
theorem dX8_waysOf_3 : decode cX8_waysOf 3 = .ok (.istore_n 3, 1) := by decide +kernel
theorem dX8_waysOf_4 : decode cX8_waysOf 4 = .ok (.iload_n 3, 1) := by decide +kernel
theorem dX8_waysOf_5 : decode cX8_waysOf 5 = .ok (.iconst 4, 1) := by decide +kernel
theorem dX8_waysOf_6 : decode cX8_waysOf 6 = .ok (.if_icmp .ge 32, 3) := by decide +kernel
theorem dX8_waysOf_9 : decode cX8_waysOf 9 = .ok (.aload_n 0, 1) := by decide +kernel
theorem dX8_waysOf_10 : decode cX8_waysOf 10 = .ok (.invokevirtual 293, 3) := by decide +kernel
theorem dX8_waysOf_13 : decode cX8_waysOf 13 = .ok (.iload_n 2, 1) := by decide +kernel
theorem dX8_waysOf_14 : decode cX8_waysOf 14 = .ok (.aload_n 0, 1) := by decide +kernel
theorem dX8_waysOf_15 : decode cX8_waysOf 15 = .ok (.iload_n 1, 1) := by decide +kernel
theorem dX8_waysOf_16 : decode cX8_waysOf 16 = .ok (.iload_n 3, 1) := by decide +kernel
theorem dX8_waysOf_17 : decode cX8_waysOf 17 = .ok (.invokevirtual 317, 3) := by decide +kernel
theorem dX8_waysOf_20 : decode cX8_waysOf 20 = .ok (.ifCond .eq 9, 3) := by decide +kernel
theorem dX8_waysOf_23 : decode cX8_waysOf 23 = .ok (.iconst 1, 1) := by decide +kernel
theorem dX8_waysOf_24 : decode cX8_waysOf 24 = .ok (.iload_n 3, 1) := by decide +kernel
theorem dX8_waysOf_25 : decode cX8_waysOf 25 = .ok (.ishl, 1) := by decide +kernel
theorem dX8_waysOf_26 : decode cX8_waysOf 26 = .ok (.goto 4, 3) := by decide +kernel
theorem dX8_waysOf_29 : decode cX8_waysOf 29 = .ok (.iconst 0, 1) := by decide +kernel
theorem dX8_waysOf_30 : decode cX8_waysOf 30 = .ok (.ior, 1) := by decide +kernel
theorem dX8_waysOf_31 : decode cX8_waysOf 31 = .ok (.istore_n 2, 1) := by decide +kernel
theorem dX8_waysOf_32 : decode cX8_waysOf 32 = .ok (.iinc 3 1, 3) := by decide +kernel
theorem dX8_waysOf_35 : decode cX8_waysOf 35 = .ok (.goto (-31), 3) := by decide +kernel
theorem dX8_waysOf_38 : decode cX8_waysOf 38 = .ok (.iload_n 2, 1) := by decide +kernel
theorem dX8_waysOf_39 : decode cX8_waysOf 39 = .ok (.ireturn, 1) := by decide +kernel
theorem dX8_can_0 : decode cX8_can 0 = .ok (.aload_n 0, 1) := by decide +kernel
theorem dX8_can_1 : decode cX8_can 1 = .ok (.iload_n 1, 1) := by decide +kernel
theorem dX8_can_2 : decode cX8_can 2 = .ok (.invokevirtual 287, 3) := by decide +kernel
theorem dX8_can_5 : decode cX8_can 5 = .ok (.ifCond .eq 11, 3) := by decide +kernel
theorem dX8_can_8 : decode cX8_can 8 = .ok (.aload_n 0, 1) := by decide +kernel
theorem dX8_can_9 : decode cX8_can 9 = .ok (.iload_n 1, 1) := by decide +kernel
theorem dX8_can_10 : decode cX8_can 10 = .ok (.invokevirtual 305, 3) := by decide +kernel
theorem dX8_can_13 : decode cX8_can 13 = .ok (.goto 4, 3) := by decide +kernel
theorem dX8_can_16 : decode cX8_can 16 = .ok (.iconst (-1), 1) := by decide +kernel
theorem dX8_can_17 : decode cX8_can 17 = .ok (.ireturn, 1) := by decide +kernel
theorem dX8_undo_0 : decode cX8_undo 0 = .ok (.iload_n 1, 1) := by decide +kernel
theorem dX8_undo_1 : decode cX8_undo 1 = .ok (.iconst 0, 1) := by decide +kernel
theorem dX8_undo_2 : decode cX8_undo 2 = .ok (.aload_n 0, 1) := by decide +kernel
theorem dX8_undo_3 : decode cX8_undo 3 = .ok (.getfield 233, 3) := by decide +kernel
theorem dX8_undo_6 : decode cX8_undo 6 = .ok (.invokestatic 133, 3) := by decide +kernel
theorem dX8_undo_9 : decode cX8_undo 9 = .ok (.ifCond .ne 5, 3) := by decide +kernel
theorem dX8_undo_12 : decode cX8_undo 12 = .ok (.iconst (-1), 1) := by decide +kernel
theorem dX8_undo_13 : decode cX8_undo 13 = .ok (.ireturn, 1) := by decide +kernel
theorem dX8_undo_14 : decode cX8_undo 14 = .ok (.aload_n 0, 1) := by decide +kernel
theorem dX8_undo_15 : decode cX8_undo 15 = .ok (.getfield 233, 3) := by decide +kernel
theorem dX8_undo_18 : decode cX8_undo 18 = .ok (.iload_n 1, 1) := by decide +kernel
theorem dX8_undo_19 : decode cX8_undo 19 = .ok (.isub, 1) := by decide +kernel
theorem dX8_undo_20 : decode cX8_undo 20 = .ok (.istore_n 2, 1) := by decide +kernel
theorem dX8_undo_21 : decode cX8_undo 21 = .ok (.iconst 0, 1) := by decide +kernel
theorem dX8_undo_22 : decode cX8_undo 22 = .ok (.istore_n 3, 1) := by decide +kernel
theorem dX8_undo_23 : decode cX8_undo 23 = .ok (.iload_n 3, 1) := by decide +kernel
theorem dX8_undo_24 : decode cX8_undo 24 = .ok (.iconst 4, 1) := by decide +kernel
theorem dX8_undo_25 : decode cX8_undo 25 = .ok (.if_icmp .ge 29, 3) := by decide +kernel
theorem dX8_undo_28 : decode cX8_undo 28 = .ok (.iload_n 2, 1) := by decide +kernel
theorem dX8_undo_29 : decode cX8_undo 29 = .ok (.ifCond .le 25, 3) := by decide +kernel
theorem dX8_undo_32 : decode cX8_undo 32 = .ok (.aload_n 0, 1) := by decide +kernel
theorem dX8_undo_33 : decode cX8_undo 33 = .ok (.getfield 35, 3) := by decide +kernel
theorem dX8_undo_36 : decode cX8_undo 36 = .ok (.iload_n 3, 1) := by decide +kernel
theorem dX8_undo_37 : decode cX8_undo 37 = .ok (.aload_n 0, 1) := by decide +kernel
theorem dX8_undo_38 : decode cX8_undo 38 = .ok (.getfield 62, 3) := by decide +kernel
theorem dX8_undo_41 : decode cX8_undo 41 = .ok (.iconst 4, 1) := by decide +kernel
theorem dX8_undo_42 : decode cX8_undo 42 = .ok (.iload_n 1, 1) := by decide +kernel
theorem dX8_undo_43 : decode cX8_undo 43 = .ok (.imul, 1) := by decide +kernel
theorem dX8_undo_44 : decode cX8_undo 44 = .ok (.iload_n 3, 1) := by decide +kernel
theorem dX8_undo_45 : decode cX8_undo 45 = .ok (.iadd, 1) := by decide +kernel
theorem dX8_undo_46 : decode cX8_undo 46 = .ok (.iaload, 1) := by decide +kernel
theorem dX8_undo_47 : decode cX8_undo 47 = .ok (.iastore, 1) := by decide +kernel
theorem dX8_undo_48 : decode cX8_undo 48 = .ok (.iinc 3 1, 3) := by decide +kernel
theorem dX8_undo_51 : decode cX8_undo 51 = .ok (.goto (-28), 3) := by decide +kernel
theorem dX8_undo_54 : decode cX8_undo 54 = .ok (.aload_n 0, 1) := by decide +kernel
theorem dX8_undo_55 : decode cX8_undo 55 = .ok (.iload_n 1, 1) := by decide +kernel
theorem dX8_undo_56 : decode cX8_undo 56 = .ok (.putfield 233, 3) := by decide +kernel
theorem dX8_undo_59 : decode cX8_undo 59 = .ok (.iload_n 2, 1) := by decide +kernel
theorem dX8_undo_60 : decode cX8_undo 60 = .ok (.ireturn, 1) := by decide +kernel
theorem dX8_who_0 : decode cX8_who 0 = .ok (.aload_n 0, 1) := by decide +kernel
theorem dX8_who_1 : decode cX8_who 1 = .ok (.iload_n 1, 1) := by decide +kernel
theorem dX8_who_2 : decode cX8_who 2 = .ok (.invokevirtual 323, 3) := by decide +kernel
theorem dX8_who_5 : decode cX8_who 5 = .ok (.ifCond .ne 5, 3) := by decide +kernel
theorem dX8_who_8 : decode cX8_who 8 = .ok (.iconst (-1), 1) := by decide +kernel
theorem dX8_who_9 : decode cX8_who 9 = .ok (.ireturn, 1) := by decide +kernel
theorem dX8_who_10 : decode cX8_who 10 = .ok (.aload_n 0, 1) := by decide +kernel
theorem dX8_who_11 : decode cX8_who 11 = .ok (.invokevirtual 293, 3) := by decide +kernel
theorem dX8_who_14 : decode cX8_who 14 = .ok (.aload_n 0, 1) := by decide +kernel
theorem dX8_who_15 : decode cX8_who 15 = .ok (.iload_n 1, 1) := by decide +kernel
theorem dX8_who_16 : decode cX8_who 16 = .ok (.invokevirtual 268, 3) := by decide +kernel
theorem dX8_who_19 : decode cX8_who 19 = .ok (.ireturn, 1) := by decide +kernel
theorem dX8_keep_0 : decode cX8_keep 0 = .ok (.iload_n 1, 1) := by decide +kernel
theorem dX8_keep_1 : decode cX8_keep 1 = .ok (.iconst 0, 1) := by decide +kernel
theorem dX8_keep_2 : decode cX8_keep 2 = .ok (.iconst 2, 1) := by decide +kernel
theorem dX8_keep_3 : decode cX8_keep 3 = .ok (.invokestatic 133, 3) := by decide +kernel
theorem dX8_keep_6 : decode cX8_keep 6 = .ok (.ifCond .ne 5, 3) := by decide +kernel
theorem dX8_keep_9 : decode cX8_keep 9 = .ok (.iconst (-1), 1) := by decide +kernel
theorem dX8_keep_10 : decode cX8_keep 10 = .ok (.ireturn, 1) := by decide +kernel
theorem dX8_keep_11 : decode cX8_keep 11 = .ok (.aload_n 0, 1) := by decide +kernel
theorem dX8_keep_12 : decode cX8_keep 12 = .ok (.getfield 221, 3) := by decide +kernel
theorem dX8_keep_15 : decode cX8_keep 15 = .ok (.ifCond .ne 6, 3) := by decide +kernel
theorem dX8_keep_18 : decode cX8_keep 18 = .ok (.bipush (-4), 2) := by decide +kernel
theorem dX8_keep_20 : decode cX8_keep 20 = .ok (.ireturn, 1) := by decide +kernel
theorem dX8_keep_21 : decode cX8_keep 21 = .ok (.aload_n 0, 1) := by decide +kernel
theorem dX8_keep_22 : decode cX8_keep 22 = .ok (.getfield 65, 3) := by decide +kernel
theorem dX8_keep_25 : decode cX8_keep 25 = .ok (.iload_n 1, 1) := by decide +kernel
theorem dX8_keep_26 : decode cX8_keep 26 = .ok (.iconst 1, 1) := by decide +kernel
theorem dX8_keep_27 : decode cX8_keep 27 = .ok (.bastore, 1) := by decide +kernel
theorem dX8_keep_28 : decode cX8_keep 28 = .ok (.aload_n 0, 1) := by decide +kernel
theorem dX8_keep_29 : decode cX8_keep 29 = .ok (.getfield 69, 3) := by decide +kernel
theorem dX8_keep_32 : decode cX8_keep 32 = .ok (.iload_n 1, 1) := by decide +kernel
theorem dX8_keep_33 : decode cX8_keep 33 = .ok (.aload_n 0, 1) := by decide +kernel
theorem dX8_keep_34 : decode cX8_keep 34 = .ok (.getfield 233, 3) := by decide +kernel
theorem dX8_keep_37 : decode cX8_keep 37 = .ok (.iastore, 1) := by decide +kernel
theorem dX8_keep_38 : decode cX8_keep 38 = .ok (.aload_n 0, 1) := by decide +kernel
theorem dX8_keep_39 : decode cX8_keep 39 = .ok (.getfield 72, 3) := by decide +kernel
theorem dX8_keep_42 : decode cX8_keep 42 = .ok (.iload_n 1, 1) := by decide +kernel
theorem dX8_keep_43 : decode cX8_keep 43 = .ok (.aload_n 0, 1) := by decide +kernel
theorem dX8_keep_44 : decode cX8_keep 44 = .ok (.getfield 230, 3) := by decide +kernel
theorem dX8_keep_47 : decode cX8_keep 47 = .ok (.iastore, 1) := by decide +kernel
theorem dX8_keep_48 : decode cX8_keep 48 = .ok (.iconst 0, 1) := by decide +kernel
theorem dX8_keep_49 : decode cX8_keep 49 = .ok (.istore_n 2, 1) := by decide +kernel
theorem dX8_keep_50 : decode cX8_keep 50 = .ok (.iload_n 2, 1) := by decide +kernel
theorem dX8_keep_51 : decode cX8_keep 51 = .ok (.iconst 4, 1) := by decide +kernel
theorem dX8_keep_52 : decode cX8_keep 52 = .ok (.if_icmp .ge 41, 3) := by decide +kernel
theorem dX8_keep_55 : decode cX8_keep 55 = .ok (.aload_n 0, 1) := by decide +kernel
theorem dX8_keep_56 : decode cX8_keep 56 = .ok (.getfield 75, 3) := by decide +kernel
theorem dX8_keep_59 : decode cX8_keep 59 = .ok (.iconst 4, 1) := by decide +kernel
theorem dX8_keep_60 : decode cX8_keep 60 = .ok (.iload_n 1, 1) := by decide +kernel
theorem dX8_keep_61 : decode cX8_keep 61 = .ok (.imul, 1) := by decide +kernel
theorem dX8_keep_62 : decode cX8_keep 62 = .ok (.iload_n 2, 1) := by decide +kernel
theorem dX8_keep_63 : decode cX8_keep 63 = .ok (.iadd, 1) := by decide +kernel
theorem dX8_keep_64 : decode cX8_keep 64 = .ok (.aload_n 0, 1) := by decide +kernel
theorem dX8_keep_65 : decode cX8_keep 65 = .ok (.getfield 35, 3) := by decide +kernel
theorem dX8_keep_68 : decode cX8_keep 68 = .ok (.iload_n 2, 1) := by decide +kernel
theorem dX8_keep_69 : decode cX8_keep 69 = .ok (.iaload, 1) := by decide +kernel
theorem dX8_keep_70 : decode cX8_keep 70 = .ok (.iastore, 1) := by decide +kernel
theorem dX8_keep_71 : decode cX8_keep 71 = .ok (.aload_n 0, 1) := by decide +kernel
theorem dX8_keep_72 : decode cX8_keep 72 = .ok (.getfield 78, 3) := by decide +kernel
theorem dX8_keep_75 : decode cX8_keep 75 = .ok (.iconst 4, 1) := by decide +kernel
theorem dX8_keep_76 : decode cX8_keep 76 = .ok (.iload_n 1, 1) := by decide +kernel
theorem dX8_keep_77 : decode cX8_keep 77 = .ok (.imul, 1) := by decide +kernel
theorem dX8_keep_78 : decode cX8_keep 78 = .ok (.iload_n 2, 1) := by decide +kernel
theorem dX8_keep_79 : decode cX8_keep 79 = .ok (.iadd, 1) := by decide +kernel
theorem dX8_keep_80 : decode cX8_keep 80 = .ok (.aload_n 0, 1) := by decide +kernel
theorem dX8_keep_81 : decode cX8_keep 81 = .ok (.getfield 41, 3) := by decide +kernel
theorem dX8_keep_84 : decode cX8_keep 84 = .ok (.iload_n 2, 1) := by decide +kernel
theorem dX8_keep_85 : decode cX8_keep 85 = .ok (.iaload, 1) := by decide +kernel
theorem dX8_keep_86 : decode cX8_keep 86 = .ok (.iastore, 1) := by decide +kernel
theorem dX8_keep_87 : decode cX8_keep 87 = .ok (.iinc 2 1, 3) := by decide +kernel
theorem dX8_keep_90 : decode cX8_keep 90 = .ok (.goto (-40), 3) := by decide +kernel
theorem dX8_keep_93 : decode cX8_keep 93 = .ok (.iconst 0, 1) := by decide +kernel
theorem dX8_keep_94 : decode cX8_keep 94 = .ok (.istore_n 2, 1) := by decide +kernel
theorem dX8_keep_95 : decode cX8_keep 95 = .ok (.iload_n 2, 1) := by decide +kernel
theorem dX8_keep_96 : decode cX8_keep 96 = .ok (.aload_n 0, 1) := by decide +kernel
theorem dX8_keep_97 : decode cX8_keep 97 = .ok (.getfield 233, 3) := by decide +kernel
theorem dX8_keep_100 : decode cX8_keep 100 = .ok (.if_icmp .ge 26, 3) := by decide +kernel
theorem dX8_keep_103 : decode cX8_keep 103 = .ok (.aload_n 0, 1) := by decide +kernel
theorem dX8_keep_104 : decode cX8_keep 104 = .ok (.getfield 81, 3) := by decide +kernel
theorem dX8_keep_107 : decode cX8_keep 107 = .ok (.bipush 60, 2) := by decide +kernel
theorem dX8_keep_109 : decode cX8_keep 109 = .ok (.iload_n 1, 1) := by decide +kernel
theorem dX8_keep_110 : decode cX8_keep 110 = .ok (.imul, 1) := by decide +kernel
theorem dX8_keep_111 : decode cX8_keep 111 = .ok (.iload_n 2, 1) := by decide +kernel
theorem dX8_keep_112 : decode cX8_keep 112 = .ok (.iadd, 1) := by decide +kernel
theorem dX8_keep_113 : decode cX8_keep 113 = .ok (.aload_n 0, 1) := by decide +kernel
theorem dX8_keep_114 : decode cX8_keep 114 = .ok (.getfield 59, 3) := by decide +kernel
theorem dX8_keep_117 : decode cX8_keep 117 = .ok (.iload_n 2, 1) := by decide +kernel
theorem dX8_keep_118 : decode cX8_keep 118 = .ok (.iaload, 1) := by decide +kernel
theorem dX8_keep_119 : decode cX8_keep 119 = .ok (.iastore, 1) := by decide +kernel
theorem dX8_keep_120 : decode cX8_keep 120 = .ok (.iinc 2 1, 3) := by decide +kernel
theorem dX8_keep_123 : decode cX8_keep 123 = .ok (.goto (-28), 3) := by decide +kernel
theorem dX8_keep_126 : decode cX8_keep 126 = .ok (.iconst 0, 1) := by decide +kernel
theorem dX8_keep_127 : decode cX8_keep 127 = .ok (.istore_n 2, 1) := by decide +kernel
theorem dX8_keep_128 : decode cX8_keep 128 = .ok (.iload_n 2, 1) := by decide +kernel
theorem dX8_keep_129 : decode cX8_keep 129 = .ok (.iconst 4, 1) := by decide +kernel
theorem dX8_keep_130 : decode cX8_keep 130 = .ok (.aload_n 0, 1) := by decide +kernel
theorem dX8_keep_131 : decode cX8_keep 131 = .ok (.getfield 233, 3) := by decide +kernel
theorem dX8_keep_134 : decode cX8_keep 134 = .ok (.imul, 1) := by decide +kernel
theorem dX8_keep_135 : decode cX8_keep 135 = .ok (.if_icmp .ge 27, 3) := by decide +kernel
theorem dX8_keep_138 : decode cX8_keep 138 = .ok (.aload_n 0, 1) := by decide +kernel
theorem dX8_keep_139 : decode cX8_keep 139 = .ok (.getfield 84, 3) := by decide +kernel
theorem dX8_keep_142 : decode cX8_keep 142 = .ok (.sipush 240, 3) := by decide +kernel
theorem dX8_keep_145 : decode cX8_keep 145 = .ok (.iload_n 1, 1) := by decide +kernel
theorem dX8_keep_146 : decode cX8_keep 146 = .ok (.imul, 1) := by decide +kernel
theorem dX8_keep_147 : decode cX8_keep 147 = .ok (.iload_n 2, 1) := by decide +kernel
theorem dX8_keep_148 : decode cX8_keep 148 = .ok (.iadd, 1) := by decide +kernel
theorem dX8_keep_149 : decode cX8_keep 149 = .ok (.aload_n 0, 1) := by decide +kernel
theorem dX8_keep_150 : decode cX8_keep 150 = .ok (.getfield 62, 3) := by decide +kernel
theorem dX8_keep_153 : decode cX8_keep 153 = .ok (.iload_n 2, 1) := by decide +kernel
theorem dX8_keep_154 : decode cX8_keep 154 = .ok (.iaload, 1) := by decide +kernel
theorem dX8_keep_155 : decode cX8_keep 155 = .ok (.iastore, 1) := by decide +kernel
theorem dX8_keep_156 : decode cX8_keep 156 = .ok (.iinc 2 1, 3) := by decide +kernel
theorem dX8_keep_159 : decode cX8_keep 159 = .ok (.goto (-31), 3) := by decide +kernel
theorem dX8_keep_162 : decode cX8_keep 162 = .ok (.aload_n 0, 1) := by decide +kernel
theorem dX8_keep_163 : decode cX8_keep 163 = .ok (.getfield 233, 3) := by decide +kernel
theorem dX8_keep_166 : decode cX8_keep 166 = .ok (.ireturn, 1) := by decide +kernel
theorem dX8_on_0 : decode cX8_on 0 = .ok (.iload_n 1, 1) := by decide +kernel
theorem dX8_on_1 : decode cX8_on 1 = .ok (.iconst 0, 1) := by decide +kernel
theorem dX8_on_2 : decode cX8_on 2 = .ok (.iconst 2, 1) := by decide +kernel
theorem dX8_on_3 : decode cX8_on 3 = .ok (.invokestatic 133, 3) := by decide +kernel
theorem dX8_on_6 : decode cX8_on 6 = .ok (.ifCond .ne 5, 3) := by decide +kernel
theorem dX8_on_9 : decode cX8_on 9 = .ok (.iconst (-1), 1) := by decide +kernel
theorem dX8_on_10 : decode cX8_on 10 = .ok (.ireturn, 1) := by decide +kernel
theorem dX8_on_11 : decode cX8_on 11 = .ok (.aload_n 0, 1) := by decide +kernel
theorem dX8_on_12 : decode cX8_on 12 = .ok (.getfield 65, 3) := by decide +kernel
theorem dX8_on_15 : decode cX8_on 15 = .ok (.iload_n 1, 1) := by decide +kernel
theorem dX8_on_16 : decode cX8_on 16 = .ok (.baload, 1) := by decide +kernel
theorem dX8_on_17 : decode cX8_on 17 = .ok (.ifCond .ne 9, 3) := by decide +kernel
theorem dX8_on_20 : decode cX8_on 20 = .ok (.aload_n 0, 1) := by decide +kernel
theorem dX8_on_21 : decode cX8_on 21 = .ok (.iconst 1, 1) := by decide +kernel
theorem dX8_on_22 : decode cX8_on 22 = .ok (.invokevirtual 144, 3) := by decide +kernel
theorem dX8_on_25 : decode cX8_on 25 = .ok (.ireturn, 1) := by decide +kernel
theorem dX8_on_26 : decode cX8_on 26 = .ok (.aload_n 0, 1) := by decide +kernel
theorem dX8_on_27 : decode cX8_on 27 = .ok (.aload_n 0, 1) := by decide +kernel
theorem dX8_on_28 : decode cX8_on 28 = .ok (.getfield 69, 3) := by decide +kernel
theorem dX8_on_31 : decode cX8_on 31 = .ok (.iload_n 1, 1) := by decide +kernel
theorem dX8_on_32 : decode cX8_on 32 = .ok (.iaload, 1) := by decide +kernel
theorem dX8_on_33 : decode cX8_on 33 = .ok (.putfield 233, 3) := by decide +kernel
theorem dX8_on_36 : decode cX8_on 36 = .ok (.aload_n 0, 1) := by decide +kernel
theorem dX8_on_37 : decode cX8_on 37 = .ok (.aload_n 0, 1) := by decide +kernel
theorem dX8_on_38 : decode cX8_on 38 = .ok (.getfield 72, 3) := by decide +kernel
theorem dX8_on_41 : decode cX8_on 41 = .ok (.iload_n 1, 1) := by decide +kernel
theorem dX8_on_42 : decode cX8_on 42 = .ok (.iaload, 1) := by decide +kernel
theorem dX8_on_43 : decode cX8_on 43 = .ok (.putfield 230, 3) := by decide +kernel
theorem dX8_on_46 : decode cX8_on 46 = .ok (.iconst 0, 1) := by decide +kernel
theorem dX8_on_47 : decode cX8_on 47 = .ok (.istore_n 2, 1) := by decide +kernel
theorem dX8_on_48 : decode cX8_on 48 = .ok (.iload_n 2, 1) := by decide +kernel
theorem dX8_on_49 : decode cX8_on 49 = .ok (.iconst 4, 1) := by decide +kernel
theorem dX8_on_50 : decode cX8_on 50 = .ok (.if_icmp .ge 41, 3) := by decide +kernel
theorem dX8_on_53 : decode cX8_on 53 = .ok (.aload_n 0, 1) := by decide +kernel
theorem dX8_on_54 : decode cX8_on 54 = .ok (.getfield 35, 3) := by decide +kernel
theorem dX8_on_57 : decode cX8_on 57 = .ok (.iload_n 2, 1) := by decide +kernel
theorem dX8_on_58 : decode cX8_on 58 = .ok (.aload_n 0, 1) := by decide +kernel
theorem dX8_on_59 : decode cX8_on 59 = .ok (.getfield 75, 3) := by decide +kernel
theorem dX8_on_62 : decode cX8_on 62 = .ok (.iconst 4, 1) := by decide +kernel
theorem dX8_on_63 : decode cX8_on 63 = .ok (.iload_n 1, 1) := by decide +kernel
theorem dX8_on_64 : decode cX8_on 64 = .ok (.imul, 1) := by decide +kernel
theorem dX8_on_65 : decode cX8_on 65 = .ok (.iload_n 2, 1) := by decide +kernel
theorem dX8_on_66 : decode cX8_on 66 = .ok (.iadd, 1) := by decide +kernel
theorem dX8_on_67 : decode cX8_on 67 = .ok (.iaload, 1) := by decide +kernel
theorem dX8_on_68 : decode cX8_on 68 = .ok (.iastore, 1) := by decide +kernel
theorem dX8_on_69 : decode cX8_on 69 = .ok (.aload_n 0, 1) := by decide +kernel
theorem dX8_on_70 : decode cX8_on 70 = .ok (.getfield 41, 3) := by decide +kernel
theorem dX8_on_73 : decode cX8_on 73 = .ok (.iload_n 2, 1) := by decide +kernel
theorem dX8_on_74 : decode cX8_on 74 = .ok (.aload_n 0, 1) := by decide +kernel
theorem dX8_on_75 : decode cX8_on 75 = .ok (.getfield 78, 3) := by decide +kernel
theorem dX8_on_78 : decode cX8_on 78 = .ok (.iconst 4, 1) := by decide +kernel
theorem dX8_on_79 : decode cX8_on 79 = .ok (.iload_n 1, 1) := by decide +kernel
theorem dX8_on_80 : decode cX8_on 80 = .ok (.imul, 1) := by decide +kernel
theorem dX8_on_81 : decode cX8_on 81 = .ok (.iload_n 2, 1) := by decide +kernel
theorem dX8_on_82 : decode cX8_on 82 = .ok (.iadd, 1) := by decide +kernel
theorem dX8_on_83 : decode cX8_on 83 = .ok (.iaload, 1) := by decide +kernel
theorem dX8_on_84 : decode cX8_on 84 = .ok (.iastore, 1) := by decide +kernel
theorem dX8_on_85 : decode cX8_on 85 = .ok (.iinc 2 1, 3) := by decide +kernel
theorem dX8_on_88 : decode cX8_on 88 = .ok (.goto (-40), 3) := by decide +kernel
theorem dX8_on_91 : decode cX8_on 91 = .ok (.iconst 0, 1) := by decide +kernel
theorem dX8_on_92 : decode cX8_on 92 = .ok (.istore_n 2, 1) := by decide +kernel
theorem dX8_on_93 : decode cX8_on 93 = .ok (.iload_n 2, 1) := by decide +kernel
theorem dX8_on_94 : decode cX8_on 94 = .ok (.aload_n 0, 1) := by decide +kernel
theorem dX8_on_95 : decode cX8_on 95 = .ok (.getfield 233, 3) := by decide +kernel
theorem dX8_on_98 : decode cX8_on 98 = .ok (.if_icmp .ge 26, 3) := by decide +kernel
theorem dX8_on_101 : decode cX8_on 101 = .ok (.aload_n 0, 1) := by decide +kernel
theorem dX8_on_102 : decode cX8_on 102 = .ok (.getfield 59, 3) := by decide +kernel
theorem dX8_on_105 : decode cX8_on 105 = .ok (.iload_n 2, 1) := by decide +kernel
theorem dX8_on_106 : decode cX8_on 106 = .ok (.aload_n 0, 1) := by decide +kernel
theorem dX8_on_107 : decode cX8_on 107 = .ok (.getfield 81, 3) := by decide +kernel
theorem dX8_on_110 : decode cX8_on 110 = .ok (.bipush 60, 2) := by decide +kernel
theorem dX8_on_112 : decode cX8_on 112 = .ok (.iload_n 1, 1) := by decide +kernel
theorem dX8_on_113 : decode cX8_on 113 = .ok (.imul, 1) := by decide +kernel
theorem dX8_on_114 : decode cX8_on 114 = .ok (.iload_n 2, 1) := by decide +kernel
theorem dX8_on_115 : decode cX8_on 115 = .ok (.iadd, 1) := by decide +kernel
theorem dX8_on_116 : decode cX8_on 116 = .ok (.iaload, 1) := by decide +kernel
theorem dX8_on_117 : decode cX8_on 117 = .ok (.iastore, 1) := by decide +kernel
theorem dX8_on_118 : decode cX8_on 118 = .ok (.iinc 2 1, 3) := by decide +kernel
theorem dX8_on_121 : decode cX8_on 121 = .ok (.goto (-28), 3) := by decide +kernel
theorem dX8_on_124 : decode cX8_on 124 = .ok (.iconst 0, 1) := by decide +kernel
theorem dX8_on_125 : decode cX8_on 125 = .ok (.istore_n 2, 1) := by decide +kernel
theorem dX8_on_126 : decode cX8_on 126 = .ok (.iload_n 2, 1) := by decide +kernel
theorem dX8_on_127 : decode cX8_on 127 = .ok (.iconst 4, 1) := by decide +kernel
theorem dX8_on_128 : decode cX8_on 128 = .ok (.aload_n 0, 1) := by decide +kernel
theorem dX8_on_129 : decode cX8_on 129 = .ok (.getfield 233, 3) := by decide +kernel
theorem dX8_on_132 : decode cX8_on 132 = .ok (.imul, 1) := by decide +kernel
theorem dX8_on_133 : decode cX8_on 133 = .ok (.if_icmp .ge 27, 3) := by decide +kernel
theorem dX8_on_136 : decode cX8_on 136 = .ok (.aload_n 0, 1) := by decide +kernel
theorem dX8_on_137 : decode cX8_on 137 = .ok (.getfield 62, 3) := by decide +kernel
theorem dX8_on_140 : decode cX8_on 140 = .ok (.iload_n 2, 1) := by decide +kernel
theorem dX8_on_141 : decode cX8_on 141 = .ok (.aload_n 0, 1) := by decide +kernel
theorem dX8_on_142 : decode cX8_on 142 = .ok (.getfield 84, 3) := by decide +kernel
theorem dX8_on_145 : decode cX8_on 145 = .ok (.sipush 240, 3) := by decide +kernel
theorem dX8_on_148 : decode cX8_on 148 = .ok (.iload_n 1, 1) := by decide +kernel
theorem dX8_on_149 : decode cX8_on 149 = .ok (.imul, 1) := by decide +kernel
theorem dX8_on_150 : decode cX8_on 150 = .ok (.iload_n 2, 1) := by decide +kernel
theorem dX8_on_151 : decode cX8_on 151 = .ok (.iadd, 1) := by decide +kernel
theorem dX8_on_152 : decode cX8_on 152 = .ok (.iaload, 1) := by decide +kernel
theorem dX8_on_153 : decode cX8_on 153 = .ok (.iastore, 1) := by decide +kernel
theorem dX8_on_154 : decode cX8_on 154 = .ok (.iinc 2 1, 3) := by decide +kernel
theorem dX8_on_157 : decode cX8_on 157 = .ok (.goto (-31), 3) := by decide +kernel
theorem dX8_on_160 : decode cX8_on 160 = .ok (.aload_n 0, 1) := by decide +kernel
theorem dX8_on_161 : decode cX8_on 161 = .ok (.getfield 233, 3) := by decide +kernel
theorem dX8_on_164 : decode cX8_on 164 = .ok (.ireturn, 1) := by decide +kernel
theorem dX8_codeOf_0 : decode cX8_codeOf 0 = .ok (.iconst 0, 1) := by decide +kernel
theorem dX8_codeOf_1 : decode cX8_codeOf 1 = .ok (.istore_n 1, 1) := by decide +kernel
theorem dX8_codeOf_2 : decode cX8_codeOf 2 = .ok (.iconst 0, 1) := by decide +kernel
theorem dX8_codeOf_3 : decode cX8_codeOf 3 = .ok (.istore_n 2, 1) := by decide +kernel
theorem dX8_codeOf_4 : decode cX8_codeOf 4 = .ok (.iload_n 2, 1) := by decide +kernel
theorem dX8_codeOf_5 : decode cX8_codeOf 5 = .ok (.aload_n 0, 1) := by decide +kernel
theorem dX8_codeOf_6 : decode cX8_codeOf 6 = .ok (.getfield 221, 3) := by decide +kernel
theorem dX8_codeOf_9 : decode cX8_codeOf 9 = .ok (.if_icmp .ge 21, 3) := by decide +kernel
theorem dX8_codeOf_12 : decode cX8_codeOf 12 = .ok (.bipush 12, 2) := by decide +kernel
theorem dX8_codeOf_14 : decode cX8_codeOf 14 = .ok (.iload_n 1, 1) := by decide +kernel
theorem dX8_codeOf_15 : decode cX8_codeOf 15 = .ok (.imul, 1) := by decide +kernel
theorem dX8_codeOf_16 : decode cX8_codeOf 16 = .ok (.aload_n 0, 1) := by decide +kernel
theorem dX8_codeOf_17 : decode cX8_codeOf 17 = .ok (.getfield 56, 3) := by decide +kernel
theorem dX8_codeOf_20 : decode cX8_codeOf 20 = .ok (.iload_n 2, 1) := by decide +kernel
theorem dX8_codeOf_21 : decode cX8_codeOf 21 = .ok (.iaload, 1) := by decide +kernel
theorem dX8_codeOf_22 : decode cX8_codeOf 22 = .ok (.iadd, 1) := by decide +kernel
theorem dX8_codeOf_23 : decode cX8_codeOf 23 = .ok (.istore_n 1, 1) := by decide +kernel
theorem dX8_codeOf_24 : decode cX8_codeOf 24 = .ok (.iinc 2 1, 3) := by decide +kernel
theorem dX8_codeOf_27 : decode cX8_codeOf 27 = .ok (.goto (-23), 3) := by decide +kernel
theorem dX8_codeOf_30 : decode cX8_codeOf 30 = .ok (.iload_n 1, 1) := by decide +kernel
theorem dX8_codeOf_31 : decode cX8_codeOf 31 = .ok (.ireturn, 1) := by decide +kernel
theorem dX8_lookAt_0 : decode cX8_lookAt 0 = .ok (.iload_n 1, 1) := by decide +kernel
theorem dX8_lookAt_1 : decode cX8_lookAt 1 = .ok (.istore_n 2, 1) := by decide +kernel
theorem dX8_lookAt_2 : decode cX8_lookAt 2 = .ok (.aload_n 0, 1) := by decide +kernel
theorem dX8_lookAt_3 : decode cX8_lookAt 3 = .ok (.getfield 221, 3) := by decide +kernel
theorem dX8_lookAt_6 : decode cX8_lookAt 6 = .ok (.iconst 1, 1) := by decide +kernel
theorem dX8_lookAt_7 : decode cX8_lookAt 7 = .ok (.isub, 1) := by decide +kernel
theorem dX8_lookAt_8 : decode cX8_lookAt 8 = .ok (.istore_n 3, 1) := by decide +kernel
theorem dX8_lookAt_9 : decode cX8_lookAt 9 = .ok (.iload_n 3, 1) := by decide +kernel
theorem dX8_lookAt_10 : decode cX8_lookAt 10 = .ok (.ifCond .lt 24, 3) := by decide +kernel
theorem dX8_lookAt_13 : decode cX8_lookAt 13 = .ok (.aload_n 0, 1) := by decide +kernel
theorem dX8_lookAt_14 : decode cX8_lookAt 14 = .ok (.getfield 56, 3) := by decide +kernel
theorem dX8_lookAt_17 : decode cX8_lookAt 17 = .ok (.iload_n 3, 1) := by decide +kernel
theorem dX8_lookAt_18 : decode cX8_lookAt 18 = .ok (.iload_n 2, 1) := by decide +kernel
theorem dX8_lookAt_19 : decode cX8_lookAt 19 = .ok (.bipush 12, 2) := by decide +kernel
theorem dX8_lookAt_21 : decode cX8_lookAt 21 = .ok (.irem, 1) := by decide +kernel
theorem dX8_lookAt_22 : decode cX8_lookAt 22 = .ok (.iastore, 1) := by decide +kernel
theorem dX8_lookAt_23 : decode cX8_lookAt 23 = .ok (.iload_n 2, 1) := by decide +kernel
theorem dX8_lookAt_24 : decode cX8_lookAt 24 = .ok (.bipush 12, 2) := by decide +kernel
theorem dX8_lookAt_26 : decode cX8_lookAt 26 = .ok (.idiv, 1) := by decide +kernel
theorem dX8_lookAt_27 : decode cX8_lookAt 27 = .ok (.istore_n 2, 1) := by decide +kernel
theorem dX8_lookAt_28 : decode cX8_lookAt 28 = .ok (.iinc 3 (-1), 3) := by decide +kernel
theorem dX8_lookAt_31 : decode cX8_lookAt 31 = .ok (.goto (-22), 3) := by decide +kernel
theorem dX8_lookAt_34 : decode cX8_lookAt 34 = .ok (.return_, 1) := by decide +kernel
theorem dX8_layStands_0 : decode cX8_layStands 0 = .ok (.iconst 0, 1) := by decide +kernel
theorem dX8_layStands_1 : decode cX8_layStands 1 = .ok (.istore_n 2, 1) := by decide +kernel
theorem dX8_layStands_2 : decode cX8_layStands 2 = .ok (.iload_n 2, 1) := by decide +kernel
theorem dX8_layStands_3 : decode cX8_layStands 3 = .ok (.sipush 20736, 3) := by decide +kernel
theorem dX8_layStands_6 : decode cX8_layStands 6 = .ok (.if_icmp .ge 17, 3) := by decide +kernel
theorem dX8_layStands_9 : decode cX8_layStands 9 = .ok (.aload_n 0, 1) := by decide +kernel
theorem dX8_layStands_10 : decode cX8_layStands 10 = .ok (.getfield 90, 3) := by decide +kernel
theorem dX8_layStands_13 : decode cX8_layStands 13 = .ok (.iload_n 2, 1) := by decide +kernel
theorem dX8_layStands_14 : decode cX8_layStands 14 = .ok (.bipush (-9), 2) := by decide +kernel
theorem dX8_layStands_16 : decode cX8_layStands 16 = .ok (.iastore, 1) := by decide +kernel
theorem dX8_layStands_17 : decode cX8_layStands 17 = .ok (.iinc 2 1, 3) := by decide +kernel
theorem dX8_layStands_20 : decode cX8_layStands 20 = .ok (.goto (-18), 3) := by decide +kernel
theorem dX8_layStands_23 : decode cX8_layStands 23 = .ok (.aload_n 0, 1) := by decide +kernel
theorem dX8_layStands_24 : decode cX8_layStands 24 = .ok (.getfield 87, 3) := by decide +kernel
theorem dX8_layStands_27 : decode cX8_layStands 27 = .ok (.iconst 0, 1) := by decide +kernel
theorem dX8_layStands_28 : decode cX8_layStands 28 = .ok (.iload_n 1, 1) := by decide +kernel
theorem dX8_layStands_29 : decode cX8_layStands 29 = .ok (.iastore, 1) := by decide +kernel
theorem dX8_layStands_30 : decode cX8_layStands 30 = .ok (.aload_n 0, 1) := by decide +kernel
theorem dX8_layStands_31 : decode cX8_layStands 31 = .ok (.getfield 90, 3) := by decide +kernel
theorem dX8_layStands_34 : decode cX8_layStands 34 = .ok (.iload_n 1, 1) := by decide +kernel
theorem dX8_layStands_35 : decode cX8_layStands 35 = .ok (.iconst 0, 1) := by decide +kernel
theorem dX8_layStands_36 : decode cX8_layStands 36 = .ok (.iastore, 1) := by decide +kernel
theorem dX8_layStands_37 : decode cX8_layStands 37 = .ok (.aload_n 0, 1) := by decide +kernel
theorem dX8_layStands_38 : decode cX8_layStands 38 = .ok (.iconst 1, 1) := by decide +kernel
theorem dX8_layStands_39 : decode cX8_layStands 39 = .ok (.putfield 326, 3) := by decide +kernel
theorem dX8_layStands_42 : decode cX8_layStands 42 = .ok (.iconst 0, 1) := by decide +kernel
theorem dX8_layStands_43 : decode cX8_layStands 43 = .ok (.istore_n 2, 1) := by decide +kernel
theorem dX8_layStands_44 : decode cX8_layStands 44 = .ok (.iload_n 2, 1) := by decide +kernel
theorem dX8_layStands_45 : decode cX8_layStands 45 = .ok (.aload_n 0, 1) := by decide +kernel
theorem dX8_layStands_46 : decode cX8_layStands 46 = .ok (.getfield 326, 3) := by decide +kernel
theorem dX8_layStands_49 : decode cX8_layStands 49 = .ok (.if_icmp .ge 77, 3) := by decide +kernel
theorem dX8_layStands_52 : decode cX8_layStands 52 = .ok (.iconst 0, 1) := by decide +kernel
theorem dX8_layStands_53 : decode cX8_layStands 53 = .ok (.istore_n 3, 1) := by decide +kernel
theorem dX8_layStands_54 : decode cX8_layStands 54 = .ok (.iload_n 3, 1) := by decide +kernel
theorem dX8_layStands_55 : decode cX8_layStands 55 = .ok (.aload_n 0, 1) := by decide +kernel
theorem dX8_layStands_56 : decode cX8_layStands 56 = .ok (.getfield 221, 3) := by decide +kernel
theorem dX8_layStands_59 : decode cX8_layStands 59 = .ok (.if_icmp .ge 61, 3) := by decide +kernel
theorem dX8_layStands_62 : decode cX8_layStands 62 = .ok (.iconst 0, 1) := by decide +kernel
theorem dX8_layStands_63 : decode cX8_layStands 63 = .ok (.istore 4, 2) := by decide +kernel
theorem dX8_layStands_65 : decode cX8_layStands 65 = .ok (.iload 4, 2) := by decide +kernel
theorem dX8_layStands_67 : decode cX8_layStands 67 = .ok (.iconst 4, 1) := by decide +kernel
theorem dX8_layStands_68 : decode cX8_layStands 68 = .ok (.if_icmp .ge 46, 3) := by decide +kernel
theorem dX8_layStands_71 : decode cX8_layStands 71 = .ok (.aload_n 0, 1) := by decide +kernel
theorem dX8_layStands_72 : decode cX8_layStands 72 = .ok (.aload_n 0, 1) := by decide +kernel
theorem dX8_layStands_73 : decode cX8_layStands 73 = .ok (.getfield 87, 3) := by decide +kernel
theorem dX8_layStands_76 : decode cX8_layStands 76 = .ok (.iload_n 2, 1) := by decide +kernel
theorem dX8_layStands_77 : decode cX8_layStands 77 = .ok (.iaload, 1) := by decide +kernel
theorem dX8_layStands_78 : decode cX8_layStands 78 = .ok (.invokevirtual 329, 3) := by decide +kernel
theorem dX8_layStands_81 : decode cX8_layStands 81 = .ok (.aload_n 0, 1) := by decide +kernel
theorem dX8_layStands_82 : decode cX8_layStands 82 = .ok (.iload_n 3, 1) := by decide +kernel
theorem dX8_layStands_83 : decode cX8_layStands 83 = .ok (.iload 4, 2) := by decide +kernel
theorem dX8_layStands_85 : decode cX8_layStands 85 = .ok (.invokevirtual 317, 3) := by decide +kernel
theorem dX8_layStands_88 : decode cX8_layStands 88 = .ok (.ifCond .eq 20, 3) := by decide +kernel
theorem dX8_layStands_91 : decode cX8_layStands 91 = .ok (.aload_n 0, 1) := by decide +kernel
theorem dX8_layStands_92 : decode cX8_layStands 92 = .ok (.aload_n 0, 1) := by decide +kernel
theorem dX8_layStands_93 : decode cX8_layStands 93 = .ok (.getfield 87, 3) := by decide +kernel
theorem dX8_layStands_96 : decode cX8_layStands 96 = .ok (.iload_n 2, 1) := by decide +kernel
theorem dX8_layStands_97 : decode cX8_layStands 97 = .ok (.iaload, 1) := by decide +kernel
theorem dX8_layStands_98 : decode cX8_layStands 98 = .ok (.bipush 10, 2) := by decide +kernel
theorem dX8_layStands_100 : decode cX8_layStands 100 = .ok (.iload_n 3, 1) := by decide +kernel
theorem dX8_layStands_101 : decode cX8_layStands 101 = .ok (.imul, 1) := by decide +kernel
theorem dX8_layStands_102 : decode cX8_layStands 102 = .ok (.iload 4, 2) := by decide +kernel
theorem dX8_layStands_104 : decode cX8_layStands 104 = .ok (.iadd, 1) := by decide +kernel
theorem dX8_layStands_105 : decode cX8_layStands 105 = .ok (.invokevirtual 332, 3) := by decide +kernel
theorem dX8_layStands_108 : decode cX8_layStands 108 = .ok (.iinc 4 1, 3) := by decide +kernel
theorem dX8_layStands_111 : decode cX8_layStands 111 = .ok (.goto (-46), 3) := by decide +kernel
theorem dX8_layStands_114 : decode cX8_layStands 114 = .ok (.iinc 3 1, 3) := by decide +kernel
theorem dX8_layStands_117 : decode cX8_layStands 117 = .ok (.goto (-63), 3) := by decide +kernel
theorem dX8_layStands_120 : decode cX8_layStands 120 = .ok (.iinc 2 1, 3) := by decide +kernel
theorem dX8_layStands_123 : decode cX8_layStands 123 = .ok (.goto (-79), 3) := by decide +kernel
theorem dX8_layStands_126 : decode cX8_layStands 126 = .ok (.return_, 1) := by decide +kernel
theorem dX8_meetsStand_0 : decode cX8_meetsStand 0 = .ok (.aload_n 0, 1) := by decide +kernel
theorem dX8_meetsStand_1 : decode cX8_meetsStand 1 = .ok (.invokevirtual 336, 3) := by decide +kernel
theorem dX8_meetsStand_4 : decode cX8_meetsStand 4 = .ok (.istore_n 3, 1) := by decide +kernel
theorem dX8_meetsStand_5 : decode cX8_meetsStand 5 = .ok (.aload_n 0, 1) := by decide +kernel
theorem dX8_meetsStand_6 : decode cX8_meetsStand 6 = .ok (.getfield 90, 3) := by decide +kernel
theorem dX8_meetsStand_9 : decode cX8_meetsStand 9 = .ok (.iload_n 3, 1) := by decide +kernel
theorem dX8_meetsStand_10 : decode cX8_meetsStand 10 = .ok (.iaload, 1) := by decide +kernel
theorem dX8_meetsStand_11 : decode cX8_meetsStand 11 = .ok (.bipush (-9), 2) := by decide +kernel
theorem dX8_meetsStand_13 : decode cX8_meetsStand 13 = .ok (.if_icmp .ne 51, 3) := by decide +kernel
theorem dX8_meetsStand_16 : decode cX8_meetsStand 16 = .ok (.aload_n 0, 1) := by decide +kernel
theorem dX8_meetsStand_17 : decode cX8_meetsStand 17 = .ok (.getfield 90, 3) := by decide +kernel
theorem dX8_meetsStand_20 : decode cX8_meetsStand 20 = .ok (.iload_n 3, 1) := by decide +kernel
theorem dX8_meetsStand_21 : decode cX8_meetsStand 21 = .ok (.aload_n 0, 1) := by decide +kernel
theorem dX8_meetsStand_22 : decode cX8_meetsStand 22 = .ok (.getfield 90, 3) := by decide +kernel
theorem dX8_meetsStand_25 : decode cX8_meetsStand 25 = .ok (.iload_n 1, 1) := by decide +kernel
theorem dX8_meetsStand_26 : decode cX8_meetsStand 26 = .ok (.iaload, 1) := by decide +kernel
theorem dX8_meetsStand_27 : decode cX8_meetsStand 27 = .ok (.iconst 1, 1) := by decide +kernel
theorem dX8_meetsStand_28 : decode cX8_meetsStand 28 = .ok (.iadd, 1) := by decide +kernel
theorem dX8_meetsStand_29 : decode cX8_meetsStand 29 = .ok (.iastore, 1) := by decide +kernel
theorem dX8_meetsStand_30 : decode cX8_meetsStand 30 = .ok (.aload_n 0, 1) := by decide +kernel
theorem dX8_meetsStand_31 : decode cX8_meetsStand 31 = .ok (.getfield 93, 3) := by decide +kernel
theorem dX8_meetsStand_34 : decode cX8_meetsStand 34 = .ok (.iload_n 3, 1) := by decide +kernel
theorem dX8_meetsStand_35 : decode cX8_meetsStand 35 = .ok (.iload_n 1, 1) := by decide +kernel
theorem dX8_meetsStand_36 : decode cX8_meetsStand 36 = .ok (.iastore, 1) := by decide +kernel
theorem dX8_meetsStand_37 : decode cX8_meetsStand 37 = .ok (.aload_n 0, 1) := by decide +kernel
theorem dX8_meetsStand_38 : decode cX8_meetsStand 38 = .ok (.getfield 96, 3) := by decide +kernel
theorem dX8_meetsStand_41 : decode cX8_meetsStand 41 = .ok (.iload_n 3, 1) := by decide +kernel
theorem dX8_meetsStand_42 : decode cX8_meetsStand 42 = .ok (.iload_n 2, 1) := by decide +kernel
theorem dX8_meetsStand_43 : decode cX8_meetsStand 43 = .ok (.iastore, 1) := by decide +kernel
theorem dX8_meetsStand_44 : decode cX8_meetsStand 44 = .ok (.aload_n 0, 1) := by decide +kernel
theorem dX8_meetsStand_45 : decode cX8_meetsStand 45 = .ok (.getfield 87, 3) := by decide +kernel
theorem dX8_meetsStand_48 : decode cX8_meetsStand 48 = .ok (.aload_n 0, 1) := by decide +kernel
theorem dX8_meetsStand_49 : decode cX8_meetsStand 49 = .ok (.getfield 326, 3) := by decide +kernel
theorem dX8_meetsStand_52 : decode cX8_meetsStand 52 = .ok (.iload_n 3, 1) := by decide +kernel
theorem dX8_meetsStand_53 : decode cX8_meetsStand 53 = .ok (.iastore, 1) := by decide +kernel
theorem dX8_meetsStand_54 : decode cX8_meetsStand 54 = .ok (.aload_n 0, 1) := by decide +kernel
theorem dX8_meetsStand_55 : decode cX8_meetsStand 55 = .ok (.dup, 1) := by decide +kernel
theorem dX8_meetsStand_56 : decode cX8_meetsStand 56 = .ok (.getfield 326, 3) := by decide +kernel
theorem dX8_meetsStand_59 : decode cX8_meetsStand 59 = .ok (.iconst 1, 1) := by decide +kernel
theorem dX8_meetsStand_60 : decode cX8_meetsStand 60 = .ok (.iadd, 1) := by decide +kernel
theorem dX8_meetsStand_61 : decode cX8_meetsStand 61 = .ok (.putfield 326, 3) := by decide +kernel
theorem dX8_meetsStand_64 : decode cX8_meetsStand 64 = .ok (.return_, 1) := by decide +kernel
theorem dX8_layFromNow_0 : decode cX8_layFromNow 0 = .ok (.aload_n 0, 1) := by decide +kernel
theorem dX8_layFromNow_1 : decode cX8_layFromNow 1 = .ok (.invokevirtual 293, 3) := by decide +kernel
theorem dX8_layFromNow_4 : decode cX8_layFromNow 4 = .ok (.aload_n 0, 1) := by decide +kernel
theorem dX8_layFromNow_5 : decode cX8_layFromNow 5 = .ok (.aload_n 0, 1) := by decide +kernel
theorem dX8_layFromNow_6 : decode cX8_layFromNow 6 = .ok (.invokevirtual 336, 3) := by decide +kernel
theorem dX8_layFromNow_9 : decode cX8_layFromNow 9 = .ok (.invokevirtual 339, 3) := by decide +kernel
theorem dX8_layFromNow_12 : decode cX8_layFromNow 12 = .ok (.return_, 1) := by decide +kernel
theorem dX8_isWanted_0 : decode cX8_isWanted 0 = .ok (.iconst 1, 1) := by decide +kernel
theorem dX8_isWanted_1 : decode cX8_isWanted 1 = .ok (.istore_n 1, 1) := by decide +kernel
theorem dX8_isWanted_2 : decode cX8_isWanted 2 = .ok (.iconst 0, 1) := by decide +kernel
theorem dX8_isWanted_3 : decode cX8_isWanted 3 = .ok (.istore_n 2, 1) := by decide +kernel
theorem dX8_isWanted_4 : decode cX8_isWanted 4 = .ok (.iload_n 2, 1) := by decide +kernel
theorem dX8_isWanted_5 : decode cX8_isWanted 5 = .ok (.aload_n 0, 1) := by decide +kernel
theorem dX8_isWanted_6 : decode cX8_isWanted 6 = .ok (.getfield 221, 3) := by decide +kernel
theorem dX8_isWanted_9 : decode cX8_isWanted 9 = .ok (.if_icmp .ge 45, 3) := by decide +kernel
theorem dX8_isWanted_12 : decode cX8_isWanted 12 = .ok (.iload_n 1, 1) := by decide +kernel
theorem dX8_isWanted_13 : decode cX8_isWanted 13 = .ok (.ifCond .eq 33, 3) := by decide +kernel
theorem dX8_isWanted_16 : decode cX8_isWanted 16 = .ok (.aload_n 0, 1) := by decide +kernel
theorem dX8_isWanted_17 : decode cX8_isWanted 17 = .ok (.getfield 99, 3) := by decide +kernel
theorem dX8_isWanted_20 : decode cX8_isWanted 20 = .ok (.iload_n 2, 1) := by decide +kernel
theorem dX8_isWanted_21 : decode cX8_isWanted 21 = .ok (.iaload, 1) := by decide +kernel
theorem dX8_isWanted_22 : decode cX8_isWanted 22 = .ok (.bipush (-9), 2) := by decide +kernel
theorem dX8_isWanted_24 : decode cX8_isWanted 24 = .ok (.if_icmp .eq 18, 3) := by decide +kernel
theorem dX8_isWanted_27 : decode cX8_isWanted 27 = .ok (.aload_n 0, 1) := by decide +kernel
theorem dX8_isWanted_28 : decode cX8_isWanted 28 = .ok (.getfield 99, 3) := by decide +kernel
theorem dX8_isWanted_31 : decode cX8_isWanted 31 = .ok (.iload_n 2, 1) := by decide +kernel
theorem dX8_isWanted_32 : decode cX8_isWanted 32 = .ok (.iaload, 1) := by decide +kernel
theorem dX8_isWanted_33 : decode cX8_isWanted 33 = .ok (.aload_n 0, 1) := by decide +kernel
theorem dX8_isWanted_34 : decode cX8_isWanted 34 = .ok (.getfield 56, 3) := by decide +kernel
theorem dX8_isWanted_37 : decode cX8_isWanted 37 = .ok (.iload_n 2, 1) := by decide +kernel
theorem dX8_isWanted_38 : decode cX8_isWanted 38 = .ok (.iaload, 1) := by decide +kernel
theorem dX8_isWanted_39 : decode cX8_isWanted 39 = .ok (.if_icmp .ne 7, 3) := by decide +kernel
theorem dX8_isWanted_42 : decode cX8_isWanted 42 = .ok (.iconst 1, 1) := by decide +kernel
theorem dX8_isWanted_43 : decode cX8_isWanted 43 = .ok (.goto 4, 3) := by decide +kernel
theorem dX8_isWanted_46 : decode cX8_isWanted 46 = .ok (.iconst 0, 1) := by decide +kernel
theorem dX8_isWanted_47 : decode cX8_isWanted 47 = .ok (.istore_n 1, 1) := by decide +kernel
theorem dX8_isWanted_48 : decode cX8_isWanted 48 = .ok (.iinc 2 1, 3) := by decide +kernel
theorem dX8_isWanted_51 : decode cX8_isWanted 51 = .ok (.goto (-47), 3) := by decide +kernel
theorem dX8_isWanted_54 : decode cX8_isWanted 54 = .ok (.iload_n 1, 1) := by decide +kernel
theorem dX8_isWanted_55 : decode cX8_isWanted 55 = .ok (.ireturn, 1) := by decide +kernel
theorem dX8_firstWanted_0 : decode cX8_firstWanted 0 = .ok (.iconst 0, 1) := by decide +kernel
theorem dX8_firstWanted_1 : decode cX8_firstWanted 1 = .ok (.istore_n 1, 1) := by decide +kernel
theorem dX8_firstWanted_2 : decode cX8_firstWanted 2 = .ok (.iload_n 1, 1) := by decide +kernel
theorem dX8_firstWanted_3 : decode cX8_firstWanted 3 = .ok (.aload_n 0, 1) := by decide +kernel
theorem dX8_firstWanted_4 : decode cX8_firstWanted 4 = .ok (.getfield 326, 3) := by decide +kernel
theorem dX8_firstWanted_7 : decode cX8_firstWanted 7 = .ok (.if_icmp .ge 33, 3) := by decide +kernel
theorem dX8_firstWanted_10 : decode cX8_firstWanted 10 = .ok (.aload_n 0, 1) := by decide +kernel
theorem dX8_firstWanted_11 : decode cX8_firstWanted 11 = .ok (.aload_n 0, 1) := by decide +kernel
theorem dX8_firstWanted_12 : decode cX8_firstWanted 12 = .ok (.getfield 87, 3) := by decide +kernel
theorem dX8_firstWanted_15 : decode cX8_firstWanted 15 = .ok (.iload_n 1, 1) := by decide +kernel
theorem dX8_firstWanted_16 : decode cX8_firstWanted 16 = .ok (.iaload, 1) := by decide +kernel
theorem dX8_firstWanted_17 : decode cX8_firstWanted 17 = .ok (.invokevirtual 329, 3) := by decide +kernel
theorem dX8_firstWanted_20 : decode cX8_firstWanted 20 = .ok (.aload_n 0, 1) := by decide +kernel
theorem dX8_firstWanted_21 : decode cX8_firstWanted 21 = .ok (.invokevirtual 342, 3) := by decide +kernel
theorem dX8_firstWanted_24 : decode cX8_firstWanted 24 = .ok (.ifCond .eq 10, 3) := by decide +kernel
theorem dX8_firstWanted_27 : decode cX8_firstWanted 27 = .ok (.aload_n 0, 1) := by decide +kernel
theorem dX8_firstWanted_28 : decode cX8_firstWanted 28 = .ok (.getfield 87, 3) := by decide +kernel
theorem dX8_firstWanted_31 : decode cX8_firstWanted 31 = .ok (.iload_n 1, 1) := by decide +kernel
theorem dX8_firstWanted_32 : decode cX8_firstWanted 32 = .ok (.iaload, 1) := by decide +kernel
theorem dX8_firstWanted_33 : decode cX8_firstWanted 33 = .ok (.ireturn, 1) := by decide +kernel
theorem dX8_firstWanted_34 : decode cX8_firstWanted 34 = .ok (.iinc 1 1, 3) := by decide +kernel
theorem dX8_firstWanted_37 : decode cX8_firstWanted 37 = .ok (.goto (-35), 3) := by decide +kernel
theorem dX8_firstWanted_40 : decode cX8_firstWanted 40 = .ok (.bipush (-9), 2) := by decide +kernel
theorem dX8_firstWanted_42 : decode cX8_firstWanted 42 = .ok (.ireturn, 1) := by decide +kernel
theorem dX8_needWanted_0 : decode cX8_needWanted 0 = .ok (.iload_n 1, 1) := by decide +kernel
theorem dX8_needWanted_1 : decode cX8_needWanted 1 = .ok (.ifCond .eq 10, 3) := by decide +kernel
theorem dX8_needWanted_4 : decode cX8_needWanted 4 = .ok (.iload_n 2, 1) := by decide +kernel
theorem dX8_needWanted_5 : decode cX8_needWanted 5 = .ok (.invokestatic 140, 3) := by decide +kernel
theorem dX8_needWanted_8 : decode cX8_needWanted 8 = .ok (.ifCond .ne 5, 3) := by decide +kernel
theorem dX8_needWanted_11 : decode cX8_needWanted 11 = .ok (.iconst (-1), 1) := by decide +kernel
theorem dX8_needWanted_12 : decode cX8_needWanted 12 = .ok (.ireturn, 1) := by decide +kernel
theorem dX8_needWanted_13 : decode cX8_needWanted 13 = .ok (.aload_n 0, 1) := by decide +kernel
theorem dX8_needWanted_14 : decode cX8_needWanted 14 = .ok (.getfield 221, 3) := by decide +kernel
theorem dX8_needWanted_17 : decode cX8_needWanted 17 = .ok (.ifCond .ne 6, 3) := by decide +kernel
theorem dX8_needWanted_20 : decode cX8_needWanted 20 = .ok (.bipush (-4), 2) := by decide +kernel
theorem dX8_needWanted_22 : decode cX8_needWanted 22 = .ok (.ireturn, 1) := by decide +kernel
theorem dX8_needWanted_23 : decode cX8_needWanted 23 = .ok (.aload_n 0, 1) := by decide +kernel
theorem dX8_needWanted_24 : decode cX8_needWanted 24 = .ok (.getfield 13, 3) := by decide +kernel
theorem dX8_needWanted_27 : decode cX8_needWanted 27 = .ok (.iload_n 2, 1) := by decide +kernel
theorem dX8_needWanted_28 : decode cX8_needWanted 28 = .ok (.iaload, 1) := by decide +kernel
theorem dX8_needWanted_29 : decode cX8_needWanted 29 = .ok (.ifCond .ge 9, 3) := by decide +kernel
theorem dX8_needWanted_32 : decode cX8_needWanted 32 = .ok (.aload_n 0, 1) := by decide +kernel
theorem dX8_needWanted_33 : decode cX8_needWanted 33 = .ok (.iconst 1, 1) := by decide +kernel
theorem dX8_needWanted_34 : decode cX8_needWanted 34 = .ok (.invokevirtual 144, 3) := by decide +kernel
theorem dX8_needWanted_37 : decode cX8_needWanted 37 = .ok (.ireturn, 1) := by decide +kernel
theorem dX8_needWanted_38 : decode cX8_needWanted 38 = .ok (.aload_n 0, 1) := by decide +kernel
theorem dX8_needWanted_39 : decode cX8_needWanted 39 = .ok (.getfield 13, 3) := by decide +kernel
theorem dX8_needWanted_42 : decode cX8_needWanted 42 = .ok (.iload_n 2, 1) := by decide +kernel
theorem dX8_needWanted_43 : decode cX8_needWanted 43 = .ok (.iaload, 1) := by decide +kernel
theorem dX8_needWanted_44 : decode cX8_needWanted 44 = .ok (.aload_n 0, 1) := by decide +kernel
theorem dX8_needWanted_45 : decode cX8_needWanted 45 = .ok (.getfield 221, 3) := by decide +kernel
theorem dX8_needWanted_48 : decode cX8_needWanted 48 = .ok (.if_icmp .eq 9, 3) := by decide +kernel
theorem dX8_needWanted_51 : decode cX8_needWanted 51 = .ok (.aload_n 0, 1) := by decide +kernel
theorem dX8_needWanted_52 : decode cX8_needWanted 52 = .ok (.iconst 5, 1) := by decide +kernel
theorem dX8_needWanted_53 : decode cX8_needWanted 53 = .ok (.invokevirtual 144, 3) := by decide +kernel
theorem dX8_needWanted_56 : decode cX8_needWanted 56 = .ok (.ireturn, 1) := by decide +kernel
theorem dX8_needWanted_57 : decode cX8_needWanted 57 = .ok (.iconst 1, 1) := by decide +kernel
theorem dX8_needWanted_58 : decode cX8_needWanted 58 = .ok (.istore_n 3, 1) := by decide +kernel
theorem dX8_needWanted_59 : decode cX8_needWanted 59 = .ok (.iconst 0, 1) := by decide +kernel
theorem dX8_needWanted_60 : decode cX8_needWanted 60 = .ok (.istore 4, 2) := by decide +kernel
theorem dX8_needWanted_62 : decode cX8_needWanted 62 = .ok (.iload 4, 2) := by decide +kernel
theorem dX8_needWanted_64 : decode cX8_needWanted 64 = .ok (.aload_n 0, 1) := by decide +kernel
theorem dX8_needWanted_65 : decode cX8_needWanted 65 = .ok (.getfield 221, 3) := by decide +kernel
theorem dX8_needWanted_68 : decode cX8_needWanted 68 = .ok (.if_icmp .ge 45, 3) := by decide +kernel
theorem dX8_needWanted_71 : decode cX8_needWanted 71 = .ok (.iload_n 3, 1) := by decide +kernel
theorem dX8_needWanted_72 : decode cX8_needWanted 72 = .ok (.ifCond .eq 33, 3) := by decide +kernel
theorem dX8_needWanted_75 : decode cX8_needWanted 75 = .ok (.aload_n 0, 1) := by decide +kernel
theorem dX8_needWanted_76 : decode cX8_needWanted 76 = .ok (.iload_n 2, 1) := by decide +kernel
theorem dX8_needWanted_77 : decode cX8_needWanted 77 = .ok (.iload 4, 2) := by decide +kernel
theorem dX8_needWanted_79 : decode cX8_needWanted 79 = .ok (.invokevirtual 148, 3) := by decide +kernel
theorem dX8_needWanted_82 : decode cX8_needWanted 82 = .ok (.bipush (-9), 2) := by decide +kernel
theorem dX8_needWanted_84 : decode cX8_needWanted 84 = .ok (.if_icmp .eq 17, 3) := by decide +kernel
theorem dX8_needWanted_87 : decode cX8_needWanted 87 = .ok (.aload_n 0, 1) := by decide +kernel
theorem dX8_needWanted_88 : decode cX8_needWanted 88 = .ok (.aload_n 0, 1) := by decide +kernel
theorem dX8_needWanted_89 : decode cX8_needWanted 89 = .ok (.iload_n 2, 1) := by decide +kernel
theorem dX8_needWanted_90 : decode cX8_needWanted 90 = .ok (.iload 4, 2) := by decide +kernel
theorem dX8_needWanted_92 : decode cX8_needWanted 92 = .ok (.invokevirtual 148, 3) := by decide +kernel
theorem dX8_needWanted_95 : decode cX8_needWanted 95 = .ok (.invokevirtual 323, 3) := by decide +kernel
theorem dX8_needWanted_98 : decode cX8_needWanted 98 = .ok (.ifCond .eq 7, 3) := by decide +kernel
theorem dX8_needWanted_101 : decode cX8_needWanted 101 = .ok (.iconst 1, 1) := by decide +kernel
theorem dX8_needWanted_102 : decode cX8_needWanted 102 = .ok (.goto 4, 3) := by decide +kernel
theorem dX8_needWanted_105 : decode cX8_needWanted 105 = .ok (.iconst 0, 1) := by decide +kernel
theorem dX8_needWanted_106 : decode cX8_needWanted 106 = .ok (.istore_n 3, 1) := by decide +kernel
theorem dX8_needWanted_107 : decode cX8_needWanted 107 = .ok (.iinc 4 1, 3) := by decide +kernel
theorem dX8_needWanted_110 : decode cX8_needWanted 110 = .ok (.goto (-48), 3) := by decide +kernel
theorem dX8_needWanted_113 : decode cX8_needWanted 113 = .ok (.iload_n 3, 1) := by decide +kernel
theorem dX8_needWanted_114 : decode cX8_needWanted 114 = .ok (.ifCond .ne 9, 3) := by decide +kernel
theorem dX8_needWanted_117 : decode cX8_needWanted 117 = .ok (.aload_n 0, 1) := by decide +kernel
theorem dX8_needWanted_118 : decode cX8_needWanted 118 = .ok (.iconst 3, 1) := by decide +kernel
theorem dX8_needWanted_119 : decode cX8_needWanted 119 = .ok (.invokevirtual 144, 3) := by decide +kernel
theorem dX8_needWanted_122 : decode cX8_needWanted 122 = .ok (.ireturn, 1) := by decide +kernel
theorem dX8_needWanted_123 : decode cX8_needWanted 123 = .ok (.iconst 0, 1) := by decide +kernel
theorem dX8_needWanted_124 : decode cX8_needWanted 124 = .ok (.istore 4, 2) := by decide +kernel
theorem dX8_needWanted_126 : decode cX8_needWanted 126 = .ok (.iload 4, 2) := by decide +kernel
theorem dX8_needWanted_128 : decode cX8_needWanted 128 = .ok (.aload_n 0, 1) := by decide +kernel
theorem dX8_needWanted_129 : decode cX8_needWanted 129 = .ok (.getfield 221, 3) := by decide +kernel
theorem dX8_needWanted_132 : decode cX8_needWanted 132 = .ok (.if_icmp .ge 23, 3) := by decide +kernel
theorem dX8_needWanted_135 : decode cX8_needWanted 135 = .ok (.aload_n 0, 1) := by decide +kernel
theorem dX8_needWanted_136 : decode cX8_needWanted 136 = .ok (.getfield 99, 3) := by decide +kernel
theorem dX8_needWanted_139 : decode cX8_needWanted 139 = .ok (.iload 4, 2) := by decide +kernel
theorem dX8_needWanted_141 : decode cX8_needWanted 141 = .ok (.aload_n 0, 1) := by decide +kernel
theorem dX8_needWanted_142 : decode cX8_needWanted 142 = .ok (.iload_n 2, 1) := by decide +kernel
theorem dX8_needWanted_143 : decode cX8_needWanted 143 = .ok (.iload 4, 2) := by decide +kernel
theorem dX8_needWanted_145 : decode cX8_needWanted 145 = .ok (.invokevirtual 148, 3) := by decide +kernel
theorem dX8_needWanted_148 : decode cX8_needWanted 148 = .ok (.iastore, 1) := by decide +kernel
theorem dX8_needWanted_149 : decode cX8_needWanted 149 = .ok (.iinc 4 1, 3) := by decide +kernel
theorem dX8_needWanted_152 : decode cX8_needWanted 152 = .ok (.goto (-26), 3) := by decide +kernel
theorem dX8_needWanted_155 : decode cX8_needWanted 155 = .ok (.aload_n 0, 1) := by decide +kernel
theorem dX8_needWanted_156 : decode cX8_needWanted 156 = .ok (.invokevirtual 345, 3) := by decide +kernel
theorem dX8_needWanted_159 : decode cX8_needWanted 159 = .ok (.iconst 0, 1) := by decide +kernel
theorem dX8_needWanted_160 : decode cX8_needWanted 160 = .ok (.ireturn, 1) := by decide +kernel
theorem dX8_firstStep_0 : decode cX8_firstStep 0 = .ok (.iload_n 1, 1) := by decide +kernel
theorem dX8_firstStep_1 : decode cX8_firstStep 1 = .ok (.istore_n 2, 1) := by decide +kernel
theorem dX8_firstStep_2 : decode cX8_firstStep 2 = .ok (.bipush (-9), 2) := by decide +kernel
theorem dX8_firstStep_4 : decode cX8_firstStep 4 = .ok (.istore_n 3, 1) := by decide +kernel
theorem dX8_firstStep_5 : decode cX8_firstStep 5 = .ok (.aload_n 0, 1) := by decide +kernel
theorem dX8_firstStep_6 : decode cX8_firstStep 6 = .ok (.getfield 90, 3) := by decide +kernel
theorem dX8_firstStep_9 : decode cX8_firstStep 9 = .ok (.iload_n 2, 1) := by decide +kernel
theorem dX8_firstStep_10 : decode cX8_firstStep 10 = .ok (.iaload, 1) := by decide +kernel
theorem dX8_firstStep_11 : decode cX8_firstStep 11 = .ok (.ifCond .le 20, 3) := by decide +kernel
theorem dX8_firstStep_14 : decode cX8_firstStep 14 = .ok (.aload_n 0, 1) := by decide +kernel
theorem dX8_firstStep_15 : decode cX8_firstStep 15 = .ok (.getfield 96, 3) := by decide +kernel
theorem dX8_firstStep_18 : decode cX8_firstStep 18 = .ok (.iload_n 2, 1) := by decide +kernel
theorem dX8_firstStep_19 : decode cX8_firstStep 19 = .ok (.iaload, 1) := by decide +kernel
theorem dX8_firstStep_20 : decode cX8_firstStep 20 = .ok (.istore_n 3, 1) := by decide +kernel
theorem dX8_firstStep_21 : decode cX8_firstStep 21 = .ok (.aload_n 0, 1) := by decide +kernel
theorem dX8_firstStep_22 : decode cX8_firstStep 22 = .ok (.getfield 93, 3) := by decide +kernel
theorem dX8_firstStep_25 : decode cX8_firstStep 25 = .ok (.iload_n 2, 1) := by decide +kernel
theorem dX8_firstStep_26 : decode cX8_firstStep 26 = .ok (.iaload, 1) := by decide +kernel
theorem dX8_firstStep_27 : decode cX8_firstStep 27 = .ok (.istore_n 2, 1) := by decide +kernel
theorem dX8_firstStep_28 : decode cX8_firstStep 28 = .ok (.goto (-23), 3) := by decide +kernel
theorem dX8_firstStep_31 : decode cX8_firstStep 31 = .ok (.iload_n 3, 1) := by decide +kernel
theorem dX8_firstStep_32 : decode cX8_firstStep 32 = .ok (.ireturn, 1) := by decide +kernel
theorem dX8_near_0 : decode cX8_near 0 = .ok (.aload_n 0, 1) := by decide +kernel
theorem dX8_near_1 : decode cX8_near 1 = .ok (.iconst 1, 1) := by decide +kernel
theorem dX8_near_2 : decode cX8_near 2 = .ok (.iload_n 1, 1) := by decide +kernel
theorem dX8_near_3 : decode cX8_near 3 = .ok (.invokevirtual 348, 3) := by decide +kernel
theorem dX8_near_6 : decode cX8_near 6 = .ok (.istore_n 2, 1) := by decide +kernel
theorem dX8_near_7 : decode cX8_near 7 = .ok (.iload_n 2, 1) := by decide +kernel
theorem dX8_near_8 : decode cX8_near 8 = .ok (.ifCond .ge 5, 3) := by decide +kernel
theorem dX8_near_11 : decode cX8_near 11 = .ok (.iload_n 2, 1) := by decide +kernel
theorem dX8_near_12 : decode cX8_near 12 = .ok (.ireturn, 1) := by decide +kernel
theorem dX8_near_13 : decode cX8_near 13 = .ok (.aload_n 0, 1) := by decide +kernel
theorem dX8_near_14 : decode cX8_near 14 = .ok (.invokevirtual 352, 3) := by decide +kernel
theorem dX8_near_17 : decode cX8_near 17 = .ok (.istore_n 3, 1) := by decide +kernel
theorem dX8_near_18 : decode cX8_near 18 = .ok (.iload_n 3, 1) := by decide +kernel
theorem dX8_near_19 : decode cX8_near 19 = .ok (.bipush (-9), 2) := by decide +kernel
theorem dX8_near_21 : decode cX8_near 21 = .ok (.if_icmp .ne 8, 3) := by decide +kernel
theorem dX8_near_24 : decode cX8_near 24 = .ok (.bipush (-9), 2) := by decide +kernel
theorem dX8_near_26 : decode cX8_near 26 = .ok (.goto 18, 3) := by decide +kernel
theorem dX8_near_29 : decode cX8_near 29 = .ok (.aload_n 0, 1) := by decide +kernel
theorem dX8_near_30 : decode cX8_near 30 = .ok (.aload_n 0, 1) := by decide +kernel
theorem dX8_near_31 : decode cX8_near 31 = .ok (.iload_n 3, 1) := by decide +kernel
theorem dX8_near_32 : decode cX8_near 32 = .ok (.invokevirtual 355, 3) := by decide +kernel
theorem dX8_near_35 : decode cX8_near 35 = .ok (.aload_n 0, 1) := by decide +kernel
theorem dX8_near_36 : decode cX8_near 36 = .ok (.getfield 90, 3) := by decide +kernel
theorem dX8_near_39 : decode cX8_near 39 = .ok (.iload_n 3, 1) := by decide +kernel
theorem dX8_near_40 : decode cX8_near 40 = .ok (.iaload, 1) := by decide +kernel
theorem dX8_near_41 : decode cX8_near 41 = .ok (.invokevirtual 152, 3) := by decide +kernel
theorem dX8_near_44 : decode cX8_near 44 = .ok (.ireturn, 1) := by decide +kernel
theorem dX8_path_0 : decode cX8_path 0 = .ok (.aload_n 0, 1) := by decide +kernel
theorem dX8_path_1 : decode cX8_path 1 = .ok (.iload_n 2, 1) := by decide +kernel
theorem dX8_path_2 : decode cX8_path 2 = .ok (.invokestatic 140, 3) := by decide +kernel
theorem dX8_path_5 : decode cX8_path 5 = .ok (.iload_n 1, 1) := by decide +kernel
theorem dX8_path_6 : decode cX8_path 6 = .ok (.invokevirtual 348, 3) := by decide +kernel
theorem dX8_path_9 : decode cX8_path 9 = .ok (.istore_n 3, 1) := by decide +kernel
theorem dX8_path_10 : decode cX8_path 10 = .ok (.iload_n 3, 1) := by decide +kernel
theorem dX8_path_11 : decode cX8_path 11 = .ok (.ifCond .ge 5, 3) := by decide +kernel
theorem dX8_path_14 : decode cX8_path 14 = .ok (.iload_n 3, 1) := by decide +kernel
theorem dX8_path_15 : decode cX8_path 15 = .ok (.ireturn, 1) := by decide +kernel
theorem dX8_path_16 : decode cX8_path 16 = .ok (.aload_n 0, 1) := by decide +kernel
theorem dX8_path_17 : decode cX8_path 17 = .ok (.invokevirtual 352, 3) := by decide +kernel
theorem dX8_path_20 : decode cX8_path 20 = .ok (.istore 4, 2) := by decide +kernel
theorem dX8_path_22 : decode cX8_path 22 = .ok (.iload 4, 2) := by decide +kernel
theorem dX8_path_24 : decode cX8_path 24 = .ok (.bipush (-9), 2) := by decide +kernel
theorem dX8_path_26 : decode cX8_path 26 = .ok (.if_icmp .eq 15, 3) := by decide +kernel
theorem dX8_path_29 : decode cX8_path 29 = .ok (.aload_n 0, 1) := by decide +kernel
theorem dX8_path_30 : decode cX8_path 30 = .ok (.getfield 90, 3) := by decide +kernel
theorem dX8_path_33 : decode cX8_path 33 = .ok (.iload 4, 2) := by decide +kernel
theorem dX8_path_35 : decode cX8_path 35 = .ok (.iaload, 1) := by decide +kernel
theorem dX8_path_36 : decode cX8_path 36 = .ok (.bipush 40, 2) := by decide +kernel
theorem dX8_path_38 : decode cX8_path 38 = .ok (.if_icmp .le 6, 3) := by decide +kernel
theorem dX8_path_41 : decode cX8_path 41 = .ok (.bipush (-9), 2) := by decide +kernel
theorem dX8_path_43 : decode cX8_path 43 = .ok (.ireturn, 1) := by decide +kernel
theorem dX8_path_44 : decode cX8_path 44 = .ok (.aload_n 0, 1) := by decide +kernel
theorem dX8_path_45 : decode cX8_path 45 = .ok (.getfield 90, 3) := by decide +kernel
theorem dX8_path_48 : decode cX8_path 48 = .ok (.iload 4, 2) := by decide +kernel
theorem dX8_path_50 : decode cX8_path 50 = .ok (.iaload, 1) := by decide +kernel
theorem dX8_path_51 : decode cX8_path 51 = .ok (.istore 5, 2) := by decide +kernel
theorem dX8_path_53 : decode cX8_path 53 = .ok (.aload_n 0, 1) := by decide +kernel
theorem dX8_path_54 : decode cX8_path 54 = .ok (.getfield 13, 3) := by decide +kernel
theorem dX8_path_57 : decode cX8_path 57 = .ok (.iload_n 2, 1) := by decide +kernel
theorem dX8_path_58 : decode cX8_path 58 = .ok (.iload 5, 2) := by decide +kernel
theorem dX8_path_60 : decode cX8_path 60 = .ok (.iastore, 1) := by decide +kernel
theorem dX8_path_61 : decode cX8_path 61 = .ok (.bipush 39, 2) := by decide +kernel
theorem dX8_path_63 : decode cX8_path 63 = .ok (.istore 6, 2) := by decide +kernel
theorem dX8_path_65 : decode cX8_path 65 = .ok (.iload 6, 2) := by decide +kernel
theorem dX8_path_67 : decode cX8_path 67 = .ok (.ifCond .lt 60, 3) := by decide +kernel
theorem dX8_path_70 : decode cX8_path 70 = .ok (.aload_n 0, 1) := by decide +kernel
theorem dX8_path_71 : decode cX8_path 71 = .ok (.getfield 16, 3) := by decide +kernel
theorem dX8_path_74 : decode cX8_path 74 = .ok (.bipush 40, 2) := by decide +kernel
theorem dX8_path_76 : decode cX8_path 76 = .ok (.iload_n 2, 1) := by decide +kernel
theorem dX8_path_77 : decode cX8_path 77 = .ok (.imul, 1) := by decide +kernel
theorem dX8_path_78 : decode cX8_path 78 = .ok (.iload 6, 2) := by decide +kernel
theorem dX8_path_80 : decode cX8_path 80 = .ok (.iadd, 1) := by decide +kernel
theorem dX8_path_81 : decode cX8_path 81 = .ok (.iload 6, 2) := by decide +kernel
theorem dX8_path_83 : decode cX8_path 83 = .ok (.iload 5, 2) := by decide +kernel
theorem dX8_path_85 : decode cX8_path 85 = .ok (.if_icmp .ge 13, 3) := by decide +kernel
theorem dX8_path_88 : decode cX8_path 88 = .ok (.aload_n 0, 1) := by decide +kernel
theorem dX8_path_89 : decode cX8_path 89 = .ok (.getfield 96, 3) := by decide +kernel
theorem dX8_path_92 : decode cX8_path 92 = .ok (.iload 4, 2) := by decide +kernel
theorem dX8_path_94 : decode cX8_path 94 = .ok (.iaload, 1) := by decide +kernel
theorem dX8_path_95 : decode cX8_path 95 = .ok (.goto 4, 3) := by decide +kernel
theorem dX8_path_98 : decode cX8_path 98 = .ok (.iconst 0, 1) := by decide +kernel
theorem dX8_path_99 : decode cX8_path 99 = .ok (.iastore, 1) := by decide +kernel
theorem dX8_path_100 : decode cX8_path 100 = .ok (.iload 6, 2) := by decide +kernel
theorem dX8_path_102 : decode cX8_path 102 = .ok (.iload 5, 2) := by decide +kernel
theorem dX8_path_104 : decode cX8_path 104 = .ok (.if_icmp .ge 13, 3) := by decide +kernel
theorem dX8_path_107 : decode cX8_path 107 = .ok (.aload_n 0, 1) := by decide +kernel
theorem dX8_path_108 : decode cX8_path 108 = .ok (.getfield 93, 3) := by decide +kernel
theorem dX8_path_111 : decode cX8_path 111 = .ok (.iload 4, 2) := by decide +kernel
theorem dX8_path_113 : decode cX8_path 113 = .ok (.iaload, 1) := by decide +kernel
theorem dX8_path_114 : decode cX8_path 114 = .ok (.goto 5, 3) := by decide +kernel
theorem dX8_path_117 : decode cX8_path 117 = .ok (.iload 4, 2) := by decide +kernel
theorem dX8_path_119 : decode cX8_path 119 = .ok (.istore 4, 2) := by decide +kernel
theorem dX8_path_121 : decode cX8_path 121 = .ok (.iinc 6 (-1), 3) := by decide +kernel
theorem dX8_path_124 : decode cX8_path 124 = .ok (.goto (-59), 3) := by decide +kernel
theorem dX8_path_127 : decode cX8_path 127 = .ok (.iload 5, 2) := by decide +kernel
theorem dX8_path_129 : decode cX8_path 129 = .ok (.ireturn, 1) := by decide +kernel
theorem dX8_reach_0 : decode cX8_reach 0 = .ok (.aload_n 0, 1) := by decide +kernel
theorem dX8_reach_1 : decode cX8_reach 1 = .ok (.getfield 221, 3) := by decide +kernel
theorem dX8_reach_4 : decode cX8_reach 4 = .ok (.ifCond .ne 6, 3) := by decide +kernel
theorem dX8_reach_7 : decode cX8_reach 7 = .ok (.bipush (-4), 2) := by decide +kernel
theorem dX8_reach_9 : decode cX8_reach 9 = .ok (.ireturn, 1) := by decide +kernel
theorem dX8_reach_10 : decode cX8_reach 10 = .ok (.aload_n 0, 1) := by decide +kernel
theorem dX8_reach_11 : decode cX8_reach 11 = .ok (.invokevirtual 345, 3) := by decide +kernel
theorem dX8_reach_14 : decode cX8_reach 14 = .ok (.aload_n 0, 1) := by decide +kernel
theorem dX8_reach_15 : decode cX8_reach 15 = .ok (.aload_n 0, 1) := by decide +kernel
theorem dX8_reach_16 : decode cX8_reach 16 = .ok (.getfield 90, 3) := by decide +kernel
theorem dX8_reach_19 : decode cX8_reach 19 = .ok (.aload_n 0, 1) := by decide +kernel
theorem dX8_reach_20 : decode cX8_reach 20 = .ok (.getfield 87, 3) := by decide +kernel
theorem dX8_reach_23 : decode cX8_reach 23 = .ok (.aload_n 0, 1) := by decide +kernel
theorem dX8_reach_24 : decode cX8_reach 24 = .ok (.getfield 326, 3) := by decide +kernel
theorem dX8_reach_27 : decode cX8_reach 27 = .ok (.iconst 1, 1) := by decide +kernel
theorem dX8_reach_28 : decode cX8_reach 28 = .ok (.isub, 1) := by decide +kernel
theorem dX8_reach_29 : decode cX8_reach 29 = .ok (.iaload, 1) := by decide +kernel
theorem dX8_reach_30 : decode cX8_reach 30 = .ok (.iaload, 1) := by decide +kernel
theorem dX8_reach_31 : decode cX8_reach 31 = .ok (.aload_n 0, 1) := by decide +kernel
theorem dX8_reach_32 : decode cX8_reach 32 = .ok (.getfield 326, 3) := by decide +kernel
theorem dX8_reach_35 : decode cX8_reach 35 = .ok (.invokevirtual 152, 3) := by decide +kernel
theorem dX8_reach_38 : decode cX8_reach 38 = .ok (.ireturn, 1) := by decide +kernel
theorem dX8_where_0 : decode cX8_where 0 = .ok (.aload_n 0, 1) := by decide +kernel
theorem dX8_where_1 : decode cX8_where 1 = .ok (.iload_n 1, 1) := by decide +kernel
theorem dX8_where_2 : decode cX8_where 2 = .ok (.invokevirtual 287, 3) := by decide +kernel
theorem dX8_where_5 : decode cX8_where 5 = .ok (.ifCond .ne 5, 3) := by decide +kernel
theorem dX8_where_8 : decode cX8_where 8 = .ok (.iconst (-1), 1) := by decide +kernel
theorem dX8_where_9 : decode cX8_where 9 = .ok (.ireturn, 1) := by decide +kernel
theorem dX8_where_10 : decode cX8_where 10 = .ok (.aload_n 0, 1) := by decide +kernel
theorem dX8_where_11 : decode cX8_where 11 = .ok (.invokevirtual 345, 3) := by decide +kernel
theorem dX8_where_14 : decode cX8_where 14 = .ok (.iconst 0, 1) := by decide +kernel
theorem dX8_where_15 : decode cX8_where 15 = .ok (.istore_n 2, 1) := by decide +kernel
theorem dX8_where_16 : decode cX8_where 16 = .ok (.iconst 0, 1) := by decide +kernel
theorem dX8_where_17 : decode cX8_where 17 = .ok (.istore_n 3, 1) := by decide +kernel
theorem dX8_where_18 : decode cX8_where 18 = .ok (.iconst 0, 1) := by decide +kernel
theorem dX8_where_19 : decode cX8_where 19 = .ok (.istore 4, 2) := by decide +kernel
theorem dX8_where_21 : decode cX8_where 21 = .ok (.iload 4, 2) := by decide +kernel
theorem dX8_where_23 : decode cX8_where 23 = .ok (.aload_n 0, 1) := by decide +kernel
theorem dX8_where_24 : decode cX8_where 24 = .ok (.getfield 326, 3) := by decide +kernel
theorem dX8_where_27 : decode cX8_where 27 = .ok (.if_icmp .ge 61, 3) := by decide +kernel
theorem dX8_where_30 : decode cX8_where 30 = .ok (.aload_n 0, 1) := by decide +kernel
theorem dX8_where_31 : decode cX8_where 31 = .ok (.aload_n 0, 1) := by decide +kernel
theorem dX8_where_32 : decode cX8_where 32 = .ok (.getfield 87, 3) := by decide +kernel
theorem dX8_where_35 : decode cX8_where 35 = .ok (.iload 4, 2) := by decide +kernel
theorem dX8_where_37 : decode cX8_where 37 = .ok (.iaload, 1) := by decide +kernel
theorem dX8_where_38 : decode cX8_where 38 = .ok (.invokevirtual 329, 3) := by decide +kernel
theorem dX8_where_41 : decode cX8_where 41 = .ok (.iload_n 2, 1) := by decide +kernel
theorem dX8_where_42 : decode cX8_where 42 = .ok (.aload_n 0, 1) := by decide +kernel
theorem dX8_where_43 : decode cX8_where 43 = .ok (.getfield 56, 3) := by decide +kernel
theorem dX8_where_46 : decode cX8_where 46 = .ok (.iload_n 1, 1) := by decide +kernel
theorem dX8_where_47 : decode cX8_where 47 = .ok (.iaload, 1) := by decide +kernel
theorem dX8_where_48 : decode cX8_where 48 = .ok (.invokestatic 358, 3) := by decide +kernel
theorem dX8_where_51 : decode cX8_where 51 = .ok (.ifCond .eq 7, 3) := by decide +kernel
theorem dX8_where_54 : decode cX8_where 54 = .ok (.iload_n 3, 1) := by decide +kernel
theorem dX8_where_55 : decode cX8_where 55 = .ok (.goto 15, 3) := by decide +kernel
theorem dX8_where_58 : decode cX8_where 58 = .ok (.aload_n 0, 1) := by decide +kernel
theorem dX8_where_59 : decode cX8_where 59 = .ok (.getfield 90, 3) := by decide +kernel
theorem dX8_where_62 : decode cX8_where 62 = .ok (.aload_n 0, 1) := by decide +kernel
theorem dX8_where_63 : decode cX8_where 63 = .ok (.getfield 87, 3) := by decide +kernel
theorem dX8_where_66 : decode cX8_where 66 = .ok (.iload 4, 2) := by decide +kernel
theorem dX8_where_68 : decode cX8_where 68 = .ok (.iaload, 1) := by decide +kernel
theorem dX8_where_69 : decode cX8_where 69 = .ok (.iaload, 1) := by decide +kernel
theorem dX8_where_70 : decode cX8_where 70 = .ok (.istore_n 3, 1) := by decide +kernel
theorem dX8_where_71 : decode cX8_where 71 = .ok (.iload_n 2, 1) := by decide +kernel
theorem dX8_where_72 : decode cX8_where 72 = .ok (.iconst 1, 1) := by decide +kernel
theorem dX8_where_73 : decode cX8_where 73 = .ok (.aload_n 0, 1) := by decide +kernel
theorem dX8_where_74 : decode cX8_where 74 = .ok (.getfield 56, 3) := by decide +kernel
theorem dX8_where_77 : decode cX8_where 77 = .ok (.iload_n 1, 1) := by decide +kernel
theorem dX8_where_78 : decode cX8_where 78 = .ok (.iaload, 1) := by decide +kernel
theorem dX8_where_79 : decode cX8_where 79 = .ok (.ishl, 1) := by decide +kernel
theorem dX8_where_80 : decode cX8_where 80 = .ok (.ior, 1) := by decide +kernel
theorem dX8_where_81 : decode cX8_where 81 = .ok (.istore_n 2, 1) := by decide +kernel
theorem dX8_where_82 : decode cX8_where 82 = .ok (.iinc 4 1, 3) := by decide +kernel
theorem dX8_where_85 : decode cX8_where 85 = .ok (.goto (-64), 3) := by decide +kernel
theorem dX8_where_88 : decode cX8_where 88 = .ok (.aload_n 0, 1) := by decide +kernel
theorem dX8_where_89 : decode cX8_where 89 = .ok (.iload_n 3, 1) := by decide +kernel
theorem dX8_where_90 : decode cX8_where 90 = .ok (.iload_n 2, 1) := by decide +kernel
theorem dX8_where_91 : decode cX8_where 91 = .ok (.invokevirtual 152, 3) := by decide +kernel
theorem dX8_where_94 : decode cX8_where 94 = .ok (.ireturn, 1) := by decide +kernel
theorem dX8_meet_0 : decode cX8_meet 0 = .ok (.aload_n 0, 1) := by decide +kernel
theorem dX8_meet_1 : decode cX8_meet 1 = .ok (.iload_n 1, 1) := by decide +kernel
theorem dX8_meet_2 : decode cX8_meet 2 = .ok (.invokevirtual 287, 3) := by decide +kernel
theorem dX8_meet_5 : decode cX8_meet 5 = .ok (.ifCond .eq 16, 3) := by decide +kernel
theorem dX8_meet_8 : decode cX8_meet 8 = .ok (.aload_n 0, 1) := by decide +kernel
theorem dX8_meet_9 : decode cX8_meet 9 = .ok (.iload_n 2, 1) := by decide +kernel
theorem dX8_meet_10 : decode cX8_meet 10 = .ok (.invokevirtual 287, 3) := by decide +kernel
theorem dX8_meet_13 : decode cX8_meet 13 = .ok (.ifCond .eq 8, 3) := by decide +kernel
theorem dX8_meet_16 : decode cX8_meet 16 = .ok (.iload_n 1, 1) := by decide +kernel
theorem dX8_meet_17 : decode cX8_meet 17 = .ok (.iload_n 2, 1) := by decide +kernel
theorem dX8_meet_18 : decode cX8_meet 18 = .ok (.if_icmp .ne 5, 3) := by decide +kernel
theorem dX8_meet_21 : decode cX8_meet 21 = .ok (.iconst (-1), 1) := by decide +kernel
theorem dX8_meet_22 : decode cX8_meet 22 = .ok (.ireturn, 1) := by decide +kernel
theorem dX8_meet_23 : decode cX8_meet 23 = .ok (.aload_n 0, 1) := by decide +kernel
theorem dX8_meet_24 : decode cX8_meet 24 = .ok (.invokevirtual 345, 3) := by decide +kernel
theorem dX8_meet_27 : decode cX8_meet 27 = .ok (.iconst 0, 1) := by decide +kernel
theorem dX8_meet_28 : decode cX8_meet 28 = .ok (.istore_n 3, 1) := by decide +kernel
theorem dX8_meet_29 : decode cX8_meet 29 = .ok (.iload_n 3, 1) := by decide +kernel
theorem dX8_meet_30 : decode cX8_meet 30 = .ok (.aload_n 0, 1) := by decide +kernel
theorem dX8_meet_31 : decode cX8_meet 31 = .ok (.getfield 326, 3) := by decide +kernel
theorem dX8_meet_34 : decode cX8_meet 34 = .ok (.if_icmp .ge 54, 3) := by decide +kernel
theorem dX8_meet_37 : decode cX8_meet 37 = .ok (.aload_n 0, 1) := by decide +kernel
theorem dX8_meet_38 : decode cX8_meet 38 = .ok (.aload_n 0, 1) := by decide +kernel
theorem dX8_meet_39 : decode cX8_meet 39 = .ok (.getfield 87, 3) := by decide +kernel
theorem dX8_meet_42 : decode cX8_meet 42 = .ok (.iload_n 3, 1) := by decide +kernel
theorem dX8_meet_43 : decode cX8_meet 43 = .ok (.iaload, 1) := by decide +kernel
theorem dX8_meet_44 : decode cX8_meet 44 = .ok (.invokevirtual 329, 3) := by decide +kernel
theorem dX8_meet_47 : decode cX8_meet 47 = .ok (.aload_n 0, 1) := by decide +kernel
theorem dX8_meet_48 : decode cX8_meet 48 = .ok (.getfield 56, 3) := by decide +kernel
theorem dX8_meet_51 : decode cX8_meet 51 = .ok (.iload_n 1, 1) := by decide +kernel
theorem dX8_meet_52 : decode cX8_meet 52 = .ok (.iaload, 1) := by decide +kernel
theorem dX8_meet_53 : decode cX8_meet 53 = .ok (.aload_n 0, 1) := by decide +kernel
theorem dX8_meet_54 : decode cX8_meet 54 = .ok (.getfield 56, 3) := by decide +kernel
theorem dX8_meet_57 : decode cX8_meet 57 = .ok (.iload_n 2, 1) := by decide +kernel
theorem dX8_meet_58 : decode cX8_meet 58 = .ok (.iaload, 1) := by decide +kernel
theorem dX8_meet_59 : decode cX8_meet 59 = .ok (.aload_n 0, 1) := by decide +kernel
theorem dX8_meet_60 : decode cX8_meet 60 = .ok (.getfield 218, 3) := by decide +kernel
theorem dX8_meet_63 : decode cX8_meet 63 = .ok (.invokestatic 199, 3) := by decide +kernel
theorem dX8_meet_66 : decode cX8_meet 66 = .ok (.iconst 1, 1) := by decide +kernel
theorem dX8_meet_67 : decode cX8_meet 67 = .ok (.if_icmp .ne 15, 3) := by decide +kernel
theorem dX8_meet_70 : decode cX8_meet 70 = .ok (.aload_n 0, 1) := by decide +kernel
theorem dX8_meet_71 : decode cX8_meet 71 = .ok (.getfield 90, 3) := by decide +kernel
theorem dX8_meet_74 : decode cX8_meet 74 = .ok (.aload_n 0, 1) := by decide +kernel
theorem dX8_meet_75 : decode cX8_meet 75 = .ok (.getfield 87, 3) := by decide +kernel
theorem dX8_meet_78 : decode cX8_meet 78 = .ok (.iload_n 3, 1) := by decide +kernel
theorem dX8_meet_79 : decode cX8_meet 79 = .ok (.iaload, 1) := by decide +kernel
theorem dX8_meet_80 : decode cX8_meet 80 = .ok (.iaload, 1) := by decide +kernel
theorem dX8_meet_81 : decode cX8_meet 81 = .ok (.ireturn, 1) := by decide +kernel
theorem dX8_meet_82 : decode cX8_meet 82 = .ok (.iinc 3 1, 3) := by decide +kernel
theorem dX8_meet_85 : decode cX8_meet 85 = .ok (.goto (-56), 3) := by decide +kernel
theorem dX8_meet_88 : decode cX8_meet 88 = .ok (.bipush (-9), 2) := by decide +kernel
theorem dX8_meet_90 : decode cX8_meet 90 = .ok (.ireturn, 1) := by decide +kernel
theorem dX8_window_0 : decode cX8_window 0 = .ok (.iload_n 1, 1) := by decide +kernel
theorem dX8_window_1 : decode cX8_window 1 = .ok (.iconst 0, 1) := by decide +kernel
theorem dX8_window_2 : decode cX8_window 2 = .ok (.aload_n 0, 1) := by decide +kernel
theorem dX8_window_3 : decode cX8_window 3 = .ok (.getfield 218, 3) := by decide +kernel
theorem dX8_window_6 : decode cX8_window 6 = .ok (.iconst 1, 1) := by decide +kernel
theorem dX8_window_7 : decode cX8_window 7 = .ok (.isub, 1) := by decide +kernel
theorem dX8_window_8 : decode cX8_window 8 = .ok (.invokestatic 133, 3) := by decide +kernel
theorem dX8_window_11 : decode cX8_window 11 = .ok (.ifCond .ne 5, 3) := by decide +kernel
theorem dX8_window_14 : decode cX8_window 14 = .ok (.iconst (-1), 1) := by decide +kernel
theorem dX8_window_15 : decode cX8_window 15 = .ok (.ireturn, 1) := by decide +kernel
theorem dX8_window_16 : decode cX8_window 16 = .ok (.aload_n 0, 1) := by decide +kernel
theorem dX8_window_17 : decode cX8_window 17 = .ok (.getfield 221, 3) := by decide +kernel
theorem dX8_window_20 : decode cX8_window 20 = .ok (.ifCond .ne 6, 3) := by decide +kernel
theorem dX8_window_23 : decode cX8_window 23 = .ok (.bipush (-4), 2) := by decide +kernel
theorem dX8_window_25 : decode cX8_window 25 = .ok (.ireturn, 1) := by decide +kernel
theorem dX8_window_26 : decode cX8_window 26 = .ok (.aload_n 0, 1) := by decide +kernel
theorem dX8_window_27 : decode cX8_window 27 = .ok (.invokevirtual 345, 3) := by decide +kernel
theorem dX8_window_30 : decode cX8_window 30 = .ok (.iconst 0, 1) := by decide +kernel
theorem dX8_window_31 : decode cX8_window 31 = .ok (.istore_n 2, 1) := by decide +kernel
theorem dX8_window_32 : decode cX8_window 32 = .ok (.iload_n 2, 1) := by decide +kernel
theorem dX8_window_33 : decode cX8_window 33 = .ok (.aload_n 0, 1) := by decide +kernel
theorem dX8_window_34 : decode cX8_window 34 = .ok (.getfield 326, 3) := by decide +kernel
theorem dX8_window_37 : decode cX8_window 37 = .ok (.if_icmp .ge 81, 3) := by decide +kernel
theorem dX8_window_40 : decode cX8_window 40 = .ok (.aload_n 0, 1) := by decide +kernel
theorem dX8_window_41 : decode cX8_window 41 = .ok (.aload_n 0, 1) := by decide +kernel
theorem dX8_window_42 : decode cX8_window 42 = .ok (.getfield 87, 3) := by decide +kernel
theorem dX8_window_45 : decode cX8_window 45 = .ok (.iload_n 2, 1) := by decide +kernel
theorem dX8_window_46 : decode cX8_window 46 = .ok (.iaload, 1) := by decide +kernel
theorem dX8_window_47 : decode cX8_window 47 = .ok (.invokevirtual 329, 3) := by decide +kernel
theorem dX8_window_50 : decode cX8_window 50 = .ok (.iconst 1, 1) := by decide +kernel
theorem dX8_window_51 : decode cX8_window 51 = .ok (.istore_n 3, 1) := by decide +kernel
theorem dX8_window_52 : decode cX8_window 52 = .ok (.iconst 0, 1) := by decide +kernel
theorem dX8_window_53 : decode cX8_window 53 = .ok (.istore 4, 2) := by decide +kernel
theorem dX8_window_55 : decode cX8_window 55 = .ok (.iload 4, 2) := by decide +kernel
theorem dX8_window_57 : decode cX8_window 57 = .ok (.aload_n 0, 1) := by decide +kernel
theorem dX8_window_58 : decode cX8_window 58 = .ok (.getfield 221, 3) := by decide +kernel
theorem dX8_window_61 : decode cX8_window 61 = .ok (.if_icmp .ge 35, 3) := by decide +kernel
theorem dX8_window_64 : decode cX8_window 64 = .ok (.iload_n 3, 1) := by decide +kernel
theorem dX8_window_65 : decode cX8_window 65 = .ok (.ifCond .eq 23, 3) := by decide +kernel
theorem dX8_window_68 : decode cX8_window 68 = .ok (.aload_n 0, 1) := by decide +kernel
theorem dX8_window_69 : decode cX8_window 69 = .ok (.getfield 56, 3) := by decide +kernel
theorem dX8_window_72 : decode cX8_window 72 = .ok (.iload 4, 2) := by decide +kernel
theorem dX8_window_74 : decode cX8_window 74 = .ok (.iaload, 1) := by decide +kernel
theorem dX8_window_75 : decode cX8_window 75 = .ok (.aload_n 0, 1) := by decide +kernel
theorem dX8_window_76 : decode cX8_window 76 = .ok (.getfield 218, 3) := by decide +kernel
theorem dX8_window_79 : decode cX8_window 79 = .ok (.irem, 1) := by decide +kernel
theorem dX8_window_80 : decode cX8_window 80 = .ok (.iload_n 1, 1) := by decide +kernel
theorem dX8_window_81 : decode cX8_window 81 = .ok (.if_icmp .ne 7, 3) := by decide +kernel
theorem dX8_window_84 : decode cX8_window 84 = .ok (.iconst 1, 1) := by decide +kernel
theorem dX8_window_85 : decode cX8_window 85 = .ok (.goto 4, 3) := by decide +kernel
theorem dX8_window_88 : decode cX8_window 88 = .ok (.iconst 0, 1) := by decide +kernel
theorem dX8_window_89 : decode cX8_window 89 = .ok (.istore_n 3, 1) := by decide +kernel
theorem dX8_window_90 : decode cX8_window 90 = .ok (.iinc 4 1, 3) := by decide +kernel
theorem dX8_window_93 : decode cX8_window 93 = .ok (.goto (-38), 3) := by decide +kernel
theorem dX8_window_96 : decode cX8_window 96 = .ok (.iload_n 3, 1) := by decide +kernel
theorem dX8_window_97 : decode cX8_window 97 = .ok (.ifCond .eq 15, 3) := by decide +kernel
theorem dX8_window_100 : decode cX8_window 100 = .ok (.aload_n 0, 1) := by decide +kernel
theorem dX8_window_101 : decode cX8_window 101 = .ok (.getfield 90, 3) := by decide +kernel
theorem dX8_window_104 : decode cX8_window 104 = .ok (.aload_n 0, 1) := by decide +kernel
theorem dX8_window_105 : decode cX8_window 105 = .ok (.getfield 87, 3) := by decide +kernel
theorem dX8_window_108 : decode cX8_window 108 = .ok (.iload_n 2, 1) := by decide +kernel
theorem dX8_window_109 : decode cX8_window 109 = .ok (.iaload, 1) := by decide +kernel
theorem dX8_window_110 : decode cX8_window 110 = .ok (.iaload, 1) := by decide +kernel
theorem dX8_window_111 : decode cX8_window 111 = .ok (.ireturn, 1) := by decide +kernel
theorem dX8_window_112 : decode cX8_window 112 = .ok (.iinc 2 1, 3) := by decide +kernel
theorem dX8_window_115 : decode cX8_window 115 = .ok (.goto (-83), 3) := by decide +kernel
theorem dX8_window_118 : decode cX8_window 118 = .ok (.bipush (-9), 2) := by decide +kernel
theorem dX8_window_120 : decode cX8_window 120 = .ok (.ireturn, 1) := by decide +kernel
theorem dX8_isStand_0 : decode cX8_isStand 0 = .ok (.iconst 1, 1) := by decide +kernel
theorem dX8_isStand_1 : decode cX8_isStand 1 = .ok (.istore_n 2, 1) := by decide +kernel
theorem dX8_isStand_2 : decode cX8_isStand 2 = .ok (.iconst 0, 1) := by decide +kernel
theorem dX8_isStand_3 : decode cX8_isStand 3 = .ok (.istore_n 3, 1) := by decide +kernel
theorem dX8_isStand_4 : decode cX8_isStand 4 = .ok (.iload_n 3, 1) := by decide +kernel
theorem dX8_isStand_5 : decode cX8_isStand 5 = .ok (.aload_n 0, 1) := by decide +kernel
theorem dX8_isStand_6 : decode cX8_isStand 6 = .ok (.getfield 221, 3) := by decide +kernel
theorem dX8_isStand_9 : decode cX8_isStand 9 = .ok (.if_icmp .ge 101, 3) := by decide +kernel
theorem dX8_isStand_12 : decode cX8_isStand 12 = .ok (.aload_n 0, 1) := by decide +kernel
theorem dX8_isStand_13 : decode cX8_isStand 13 = .ok (.iload_n 1, 1) := by decide +kernel
theorem dX8_isStand_14 : decode cX8_isStand 14 = .ok (.iload_n 3, 1) := by decide +kernel
theorem dX8_isStand_15 : decode cX8_isStand 15 = .ok (.invokevirtual 148, 3) := by decide +kernel
theorem dX8_isStand_18 : decode cX8_isStand 18 = .ok (.istore 4, 2) := by decide +kernel
theorem dX8_isStand_20 : decode cX8_isStand 20 = .ok (.iload_n 2, 1) := by decide +kernel
theorem dX8_isStand_21 : decode cX8_isStand 21 = .ok (.ifCond .eq 16, 3) := by decide +kernel
theorem dX8_isStand_24 : decode cX8_isStand 24 = .ok (.aload_n 0, 1) := by decide +kernel
theorem dX8_isStand_25 : decode cX8_isStand 25 = .ok (.iload 4, 2) := by decide +kernel
theorem dX8_isStand_27 : decode cX8_isStand 27 = .ok (.invokevirtual 323, 3) := by decide +kernel
theorem dX8_isStand_30 : decode cX8_isStand 30 = .ok (.ifCond .eq 7, 3) := by decide +kernel
theorem dX8_isStand_33 : decode cX8_isStand 33 = .ok (.iconst 1, 1) := by decide +kernel
theorem dX8_isStand_34 : decode cX8_isStand 34 = .ok (.goto 4, 3) := by decide +kernel
theorem dX8_isStand_37 : decode cX8_isStand 37 = .ok (.iconst 0, 1) := by decide +kernel
theorem dX8_isStand_38 : decode cX8_isStand 38 = .ok (.istore_n 2, 1) := by decide +kernel
theorem dX8_isStand_39 : decode cX8_isStand 39 = .ok (.iload_n 2, 1) := by decide +kernel
theorem dX8_isStand_40 : decode cX8_isStand 40 = .ok (.ifCond .eq 17, 3) := by decide +kernel
theorem dX8_isStand_43 : decode cX8_isStand 43 = .ok (.aload_n 0, 1) := by decide +kernel
theorem dX8_isStand_44 : decode cX8_isStand 44 = .ok (.getfield 29, 3) := by decide +kernel
theorem dX8_isStand_47 : decode cX8_isStand 47 = .ok (.iload 4, 2) := by decide +kernel
theorem dX8_isStand_49 : decode cX8_isStand 49 = .ok (.iaload, 1) := by decide +kernel
theorem dX8_isStand_50 : decode cX8_isStand 50 = .ok (.ifCond .ne 7, 3) := by decide +kernel
theorem dX8_isStand_53 : decode cX8_isStand 53 = .ok (.iconst 1, 1) := by decide +kernel
theorem dX8_isStand_54 : decode cX8_isStand 54 = .ok (.goto 4, 3) := by decide +kernel
theorem dX8_isStand_57 : decode cX8_isStand 57 = .ok (.iconst 0, 1) := by decide +kernel
theorem dX8_isStand_58 : decode cX8_isStand 58 = .ok (.istore_n 2, 1) := by decide +kernel
theorem dX8_isStand_59 : decode cX8_isStand 59 = .ok (.iconst 0, 1) := by decide +kernel
theorem dX8_isStand_60 : decode cX8_isStand 60 = .ok (.istore 5, 2) := by decide +kernel
theorem dX8_isStand_62 : decode cX8_isStand 62 = .ok (.iload 5, 2) := by decide +kernel
theorem dX8_isStand_64 : decode cX8_isStand 64 = .ok (.iload_n 3, 1) := by decide +kernel
theorem dX8_isStand_65 : decode cX8_isStand 65 = .ok (.if_icmp .ge 31, 3) := by decide +kernel
theorem dX8_isStand_68 : decode cX8_isStand 68 = .ok (.iload_n 2, 1) := by decide +kernel
theorem dX8_isStand_69 : decode cX8_isStand 69 = .ok (.ifCond .eq 19, 3) := by decide +kernel
theorem dX8_isStand_72 : decode cX8_isStand 72 = .ok (.aload_n 0, 1) := by decide +kernel
theorem dX8_isStand_73 : decode cX8_isStand 73 = .ok (.iload_n 1, 1) := by decide +kernel
theorem dX8_isStand_74 : decode cX8_isStand 74 = .ok (.iload 5, 2) := by decide +kernel
theorem dX8_isStand_76 : decode cX8_isStand 76 = .ok (.invokevirtual 148, 3) := by decide +kernel
theorem dX8_isStand_79 : decode cX8_isStand 79 = .ok (.iload 4, 2) := by decide +kernel
theorem dX8_isStand_81 : decode cX8_isStand 81 = .ok (.if_icmp .eq 7, 3) := by decide +kernel
theorem dX8_isStand_84 : decode cX8_isStand 84 = .ok (.iconst 1, 1) := by decide +kernel
theorem dX8_isStand_85 : decode cX8_isStand 85 = .ok (.goto 4, 3) := by decide +kernel
theorem dX8_isStand_88 : decode cX8_isStand 88 = .ok (.iconst 0, 1) := by decide +kernel
theorem dX8_isStand_89 : decode cX8_isStand 89 = .ok (.istore_n 2, 1) := by decide +kernel
theorem dX8_isStand_90 : decode cX8_isStand 90 = .ok (.iinc 5 1, 3) := by decide +kernel
theorem dX8_isStand_93 : decode cX8_isStand 93 = .ok (.goto (-31), 3) := by decide +kernel
theorem dX8_isStand_96 : decode cX8_isStand 96 = .ok (.aload_n 0, 1) := by decide +kernel
theorem dX8_isStand_97 : decode cX8_isStand 97 = .ok (.getfield 56, 3) := by decide +kernel
theorem dX8_isStand_100 : decode cX8_isStand 100 = .ok (.iload_n 3, 1) := by decide +kernel
theorem dX8_isStand_101 : decode cX8_isStand 101 = .ok (.iload 4, 2) := by decide +kernel
theorem dX8_isStand_103 : decode cX8_isStand 103 = .ok (.iastore, 1) := by decide +kernel
theorem dX8_isStand_104 : decode cX8_isStand 104 = .ok (.iinc 3 1, 3) := by decide +kernel
theorem dX8_isStand_107 : decode cX8_isStand 107 = .ok (.goto (-103), 3) := by decide +kernel
theorem dX8_isStand_110 : decode cX8_isStand 110 = .ok (.iload_n 2, 1) := by decide +kernel
theorem dX8_isStand_111 : decode cX8_isStand 111 = .ok (.ifCond .eq 14, 3) := by decide +kernel
theorem dX8_isStand_114 : decode cX8_isStand 114 = .ok (.aload_n 0, 1) := by decide +kernel
theorem dX8_isStand_115 : decode cX8_isStand 115 = .ok (.invokevirtual 278, 3) := by decide +kernel
theorem dX8_isStand_118 : decode cX8_isStand 118 = .ok (.ifCond .eq 7, 3) := by decide +kernel
theorem dX8_isStand_121 : decode cX8_isStand 121 = .ok (.iconst 1, 1) := by decide +kernel
theorem dX8_isStand_122 : decode cX8_isStand 122 = .ok (.goto 4, 3) := by decide +kernel
theorem dX8_isStand_125 : decode cX8_isStand 125 = .ok (.iconst 0, 1) := by decide +kernel
theorem dX8_isStand_126 : decode cX8_isStand 126 = .ok (.ireturn, 1) := by decide +kernel
theorem dX8_comes_0 : decode cX8_comes 0 = .ok (.iload_n 1, 1) := by decide +kernel
theorem dX8_comes_1 : decode cX8_comes 1 = .ok (.invokestatic 140, 3) := by decide +kernel
theorem dX8_comes_4 : decode cX8_comes 4 = .ok (.ifCond .eq 10, 3) := by decide +kernel
theorem dX8_comes_7 : decode cX8_comes 7 = .ok (.iload_n 2, 1) := by decide +kernel
theorem dX8_comes_8 : decode cX8_comes 8 = .ok (.invokestatic 140, 3) := by decide +kernel
theorem dX8_comes_11 : decode cX8_comes 11 = .ok (.ifCond .ne 5, 3) := by decide +kernel
theorem dX8_comes_14 : decode cX8_comes 14 = .ok (.iconst (-1), 1) := by decide +kernel
theorem dX8_comes_15 : decode cX8_comes 15 = .ok (.ireturn, 1) := by decide +kernel
theorem dX8_comes_16 : decode cX8_comes 16 = .ok (.aload_n 0, 1) := by decide +kernel
theorem dX8_comes_17 : decode cX8_comes 17 = .ok (.getfield 221, 3) := by decide +kernel
theorem dX8_comes_20 : decode cX8_comes 20 = .ok (.ifCond .ne 6, 3) := by decide +kernel
theorem dX8_comes_23 : decode cX8_comes 23 = .ok (.bipush (-4), 2) := by decide +kernel
theorem dX8_comes_25 : decode cX8_comes 25 = .ok (.ireturn, 1) := by decide +kernel
theorem dX8_comes_26 : decode cX8_comes 26 = .ok (.aload_n 0, 1) := by decide +kernel
theorem dX8_comes_27 : decode cX8_comes 27 = .ok (.getfield 13, 3) := by decide +kernel
theorem dX8_comes_30 : decode cX8_comes 30 = .ok (.iload_n 1, 1) := by decide +kernel
theorem dX8_comes_31 : decode cX8_comes 31 = .ok (.iaload, 1) := by decide +kernel
theorem dX8_comes_32 : decode cX8_comes 32 = .ok (.ifCond .lt 12, 3) := by decide +kernel
theorem dX8_comes_35 : decode cX8_comes 35 = .ok (.aload_n 0, 1) := by decide +kernel
theorem dX8_comes_36 : decode cX8_comes 36 = .ok (.getfield 13, 3) := by decide +kernel
theorem dX8_comes_39 : decode cX8_comes 39 = .ok (.iload_n 2, 1) := by decide +kernel
theorem dX8_comes_40 : decode cX8_comes 40 = .ok (.iaload, 1) := by decide +kernel
theorem dX8_comes_41 : decode cX8_comes 41 = .ok (.ifCond .ge 9, 3) := by decide +kernel
theorem dX8_comes_44 : decode cX8_comes 44 = .ok (.aload_n 0, 1) := by decide +kernel
theorem dX8_comes_45 : decode cX8_comes 45 = .ok (.iconst 1, 1) := by decide +kernel
theorem dX8_comes_46 : decode cX8_comes 46 = .ok (.invokevirtual 144, 3) := by decide +kernel
theorem dX8_comes_49 : decode cX8_comes 49 = .ok (.ireturn, 1) := by decide +kernel
theorem dX8_comes_50 : decode cX8_comes 50 = .ok (.aload_n 0, 1) := by decide +kernel
theorem dX8_comes_51 : decode cX8_comes 51 = .ok (.getfield 13, 3) := by decide +kernel
theorem dX8_comes_54 : decode cX8_comes 54 = .ok (.iload_n 1, 1) := by decide +kernel
theorem dX8_comes_55 : decode cX8_comes 55 = .ok (.iaload, 1) := by decide +kernel
theorem dX8_comes_56 : decode cX8_comes 56 = .ok (.aload_n 0, 1) := by decide +kernel
theorem dX8_comes_57 : decode cX8_comes 57 = .ok (.getfield 221, 3) := by decide +kernel
theorem dX8_comes_60 : decode cX8_comes 60 = .ok (.if_icmp .ne 16, 3) := by decide +kernel
theorem dX8_comes_63 : decode cX8_comes 63 = .ok (.aload_n 0, 1) := by decide +kernel
theorem dX8_comes_64 : decode cX8_comes 64 = .ok (.getfield 13, 3) := by decide +kernel
theorem dX8_comes_67 : decode cX8_comes 67 = .ok (.iload_n 2, 1) := by decide +kernel
theorem dX8_comes_68 : decode cX8_comes 68 = .ok (.iaload, 1) := by decide +kernel
theorem dX8_comes_69 : decode cX8_comes 69 = .ok (.aload_n 0, 1) := by decide +kernel
theorem dX8_comes_70 : decode cX8_comes 70 = .ok (.getfield 221, 3) := by decide +kernel
theorem dX8_comes_73 : decode cX8_comes 73 = .ok (.if_icmp .eq 9, 3) := by decide +kernel
theorem dX8_comes_76 : decode cX8_comes 76 = .ok (.aload_n 0, 1) := by decide +kernel
theorem dX8_comes_77 : decode cX8_comes 77 = .ok (.iconst 5, 1) := by decide +kernel
theorem dX8_comes_78 : decode cX8_comes 78 = .ok (.invokevirtual 144, 3) := by decide +kernel
theorem dX8_comes_81 : decode cX8_comes 81 = .ok (.ireturn, 1) := by decide +kernel
theorem dX8_comes_82 : decode cX8_comes 82 = .ok (.aload_n 0, 1) := by decide +kernel
theorem dX8_comes_83 : decode cX8_comes 83 = .ok (.iload_n 1, 1) := by decide +kernel
theorem dX8_comes_84 : decode cX8_comes 84 = .ok (.invokevirtual 361, 3) := by decide +kernel
theorem dX8_comes_87 : decode cX8_comes 87 = .ok (.ifCond .eq 11, 3) := by decide +kernel
theorem dX8_comes_90 : decode cX8_comes 90 = .ok (.aload_n 0, 1) := by decide +kernel
theorem dX8_comes_91 : decode cX8_comes 91 = .ok (.iload_n 2, 1) := by decide +kernel
theorem dX8_comes_92 : decode cX8_comes 92 = .ok (.invokevirtual 361, 3) := by decide +kernel
theorem dX8_comes_95 : decode cX8_comes 95 = .ok (.ifCond .ne 9, 3) := by decide +kernel
theorem dX8_comes_98 : decode cX8_comes 98 = .ok (.aload_n 0, 1) := by decide +kernel
theorem dX8_comes_99 : decode cX8_comes 99 = .ok (.iconst 3, 1) := by decide +kernel
theorem dX8_comes_100 : decode cX8_comes 100 = .ok (.invokevirtual 144, 3) := by decide +kernel
theorem dX8_comes_103 : decode cX8_comes 103 = .ok (.ireturn, 1) := by decide +kernel
theorem dX8_comes_104 : decode cX8_comes 104 = .ok (.aload_n 0, 1) := by decide +kernel
theorem dX8_comes_105 : decode cX8_comes 105 = .ok (.invokevirtual 336, 3) := by decide +kernel
theorem dX8_comes_108 : decode cX8_comes 108 = .ok (.istore_n 3, 1) := by decide +kernel
theorem dX8_comes_109 : decode cX8_comes 109 = .ok (.aload_n 0, 1) := by decide +kernel
theorem dX8_comes_110 : decode cX8_comes 110 = .ok (.iload_n 1, 1) := by decide +kernel
theorem dX8_comes_111 : decode cX8_comes 111 = .ok (.invokevirtual 361, 3) := by decide +kernel
theorem dX8_comes_114 : decode cX8_comes 114 = .ok (.pop, 1) := by decide +kernel
theorem dX8_comes_115 : decode cX8_comes 115 = .ok (.aload_n 0, 1) := by decide +kernel
theorem dX8_comes_116 : decode cX8_comes 116 = .ok (.aload_n 0, 1) := by decide +kernel
theorem dX8_comes_117 : decode cX8_comes 117 = .ok (.invokevirtual 336, 3) := by decide +kernel
theorem dX8_comes_120 : decode cX8_comes 120 = .ok (.invokevirtual 339, 3) := by decide +kernel
theorem dX8_comes_123 : decode cX8_comes 123 = .ok (.aload_n 0, 1) := by decide +kernel
theorem dX8_comes_124 : decode cX8_comes 124 = .ok (.getfield 90, 3) := by decide +kernel
theorem dX8_comes_127 : decode cX8_comes 127 = .ok (.iload_n 3, 1) := by decide +kernel
theorem dX8_comes_128 : decode cX8_comes 128 = .ok (.iaload, 1) := by decide +kernel
theorem dX8_comes_129 : decode cX8_comes 129 = .ok (.bipush (-9), 2) := by decide +kernel
theorem dX8_comes_131 : decode cX8_comes 131 = .ok (.if_icmp .ne 7, 3) := by decide +kernel
theorem dX8_comes_134 : decode cX8_comes 134 = .ok (.iconst 0, 1) := by decide +kernel
theorem dX8_comes_135 : decode cX8_comes 135 = .ok (.goto 4, 3) := by decide +kernel
theorem dX8_comes_138 : decode cX8_comes 138 = .ok (.iconst 1, 1) := by decide +kernel
theorem dX8_comes_139 : decode cX8_comes 139 = .ok (.ireturn, 1) := by decide +kernel
theorem dX8_meetsWant_0 : decode cX8_meetsWant 0 = .ok (.aload_n 0, 1) := by decide +kernel
theorem dX8_meetsWant_1 : decode cX8_meetsWant 1 = .ok (.aload_n 0, 1) := by decide +kernel
theorem dX8_meetsWant_2 : decode cX8_meetsWant 2 = .ok (.getfield 105, 3) := by decide +kernel
theorem dX8_meetsWant_5 : decode cX8_meetsWant 5 = .ok (.iload_n 1, 1) := by decide +kernel
theorem dX8_meetsWant_6 : decode cX8_meetsWant 6 = .ok (.iaload, 1) := by decide +kernel
theorem dX8_meetsWant_7 : decode cX8_meetsWant 7 = .ok (.invokevirtual 339, 3) := by decide +kernel
theorem dX8_meetsWant_10 : decode cX8_meetsWant 10 = .ok (.bipush (-9), 2) := by decide +kernel
theorem dX8_meetsWant_12 : decode cX8_meetsWant 12 = .ok (.istore_n 3, 1) := by decide +kernel
theorem dX8_meetsWant_13 : decode cX8_meetsWant 13 = .ok (.iconst 0, 1) := by decide +kernel
theorem dX8_meetsWant_14 : decode cX8_meetsWant 14 = .ok (.istore 4, 2) := by decide +kernel
theorem dX8_meetsWant_16 : decode cX8_meetsWant 16 = .ok (.iload 4, 2) := by decide +kernel
theorem dX8_meetsWant_18 : decode cX8_meetsWant 18 = .ok (.aload_n 0, 1) := by decide +kernel
theorem dX8_meetsWant_19 : decode cX8_meetsWant 19 = .ok (.getfield 326, 3) := by decide +kernel
theorem dX8_meetsWant_22 : decode cX8_meetsWant 22 = .ok (.if_icmp .ge 110, 3) := by decide +kernel
theorem dX8_meetsWant_25 : decode cX8_meetsWant 25 = .ok (.aload_n 0, 1) := by decide +kernel
theorem dX8_meetsWant_26 : decode cX8_meetsWant 26 = .ok (.aload_n 0, 1) := by decide +kernel
theorem dX8_meetsWant_27 : decode cX8_meetsWant 27 = .ok (.getfield 87, 3) := by decide +kernel
theorem dX8_meetsWant_30 : decode cX8_meetsWant 30 = .ok (.iload 4, 2) := by decide +kernel
theorem dX8_meetsWant_32 : decode cX8_meetsWant 32 = .ok (.iaload, 1) := by decide +kernel
theorem dX8_meetsWant_33 : decode cX8_meetsWant 33 = .ok (.invokevirtual 329, 3) := by decide +kernel
theorem dX8_meetsWant_36 : decode cX8_meetsWant 36 = .ok (.aload_n 0, 1) := by decide +kernel
theorem dX8_meetsWant_37 : decode cX8_meetsWant 37 = .ok (.getfield 56, 3) := by decide +kernel
theorem dX8_meetsWant_40 : decode cX8_meetsWant 40 = .ok (.iload_n 2, 1) := by decide +kernel
theorem dX8_meetsWant_41 : decode cX8_meetsWant 41 = .ok (.bipush 100, 2) := by decide +kernel
theorem dX8_meetsWant_43 : decode cX8_meetsWant 43 = .ok (.idiv, 1) := by decide +kernel
theorem dX8_meetsWant_44 : decode cX8_meetsWant 44 = .ok (.iaload, 1) := by decide +kernel
theorem dX8_meetsWant_45 : decode cX8_meetsWant 45 = .ok (.iload_n 2, 1) := by decide +kernel
theorem dX8_meetsWant_46 : decode cX8_meetsWant 46 = .ok (.bipush 100, 2) := by decide +kernel
