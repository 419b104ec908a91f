theorem dX8_meetsWant_48 : decode cX8_meetsWant 48 = .ok (.irem, 1) := by decide +kernel
theorem dX8_meetsWant_49 : decode cX8_meetsWant 49 = .ok (.if_icmp .ne 7, 3) := by decide +kernel
theorem dX8_meetsWant_52 : decode cX8_meetsWant 52 = .ok (.iconst 1, 1) := by decide +kernel
theorem dX8_meetsWant_53 : decode cX8_meetsWant 53 = .ok (.goto 4, 3) := by decide +kernel
theorem dX8_meetsWant_56 : decode cX8_meetsWant 56 = .ok (.iconst 0, 1) := by decide +kernel
theorem dX8_meetsWant_57 : decode cX8_meetsWant 57 = .ok (.istore 5, 2) := by decide +kernel
theorem dX8_meetsWant_59 : decode cX8_meetsWant 59 = .ok (.iload 5, 2) := by decide +kernel
theorem dX8_meetsWant_61 : decode cX8_meetsWant 61 = .ok (.ifCond .eq 45, 3) := by decide +kernel
theorem dX8_meetsWant_64 : decode cX8_meetsWant 64 = .ok (.iload_n 3, 1) := by decide +kernel
theorem dX8_meetsWant_65 : decode cX8_meetsWant 65 = .ok (.bipush (-9), 2) := by decide +kernel
theorem dX8_meetsWant_67 : decode cX8_meetsWant 67 = .ok (.if_icmp .eq 35, 3) := by decide +kernel
theorem dX8_meetsWant_70 : decode cX8_meetsWant 70 = .ok (.aload_n 0, 1) := by decide +kernel
theorem dX8_meetsWant_71 : decode cX8_meetsWant 71 = .ok (.getfield 90, 3) := by decide +kernel
theorem dX8_meetsWant_74 : decode cX8_meetsWant 74 = .ok (.aload_n 0, 1) := by decide +kernel
theorem dX8_meetsWant_75 : decode cX8_meetsWant 75 = .ok (.getfield 87, 3) := by decide +kernel
theorem dX8_meetsWant_78 : decode cX8_meetsWant 78 = .ok (.iload 4, 2) := by decide +kernel
theorem dX8_meetsWant_80 : decode cX8_meetsWant 80 = .ok (.iaload, 1) := by decide +kernel
theorem dX8_meetsWant_81 : decode cX8_meetsWant 81 = .ok (.iaload, 1) := by decide +kernel
theorem dX8_meetsWant_82 : decode cX8_meetsWant 82 = .ok (.aload_n 0, 1) := by decide +kernel
theorem dX8_meetsWant_83 : decode cX8_meetsWant 83 = .ok (.getfield 90, 3) := by decide +kernel
theorem dX8_meetsWant_86 : decode cX8_meetsWant 86 = .ok (.iload_n 3, 1) := by decide +kernel
theorem dX8_meetsWant_87 : decode cX8_meetsWant 87 = .ok (.iaload, 1) := by decide +kernel
theorem dX8_meetsWant_88 : decode cX8_meetsWant 88 = .ok (.if_icmp .ne 18, 3) := by decide +kernel
theorem dX8_meetsWant_91 : decode cX8_meetsWant 91 = .ok (.aload_n 0, 1) := by decide +kernel
theorem dX8_meetsWant_92 : decode cX8_meetsWant 92 = .ok (.getfield 87, 3) := by decide +kernel
theorem dX8_meetsWant_95 : decode cX8_meetsWant 95 = .ok (.iload 4, 2) := by decide +kernel
theorem dX8_meetsWant_97 : decode cX8_meetsWant 97 = .ok (.iaload, 1) := by decide +kernel
theorem dX8_meetsWant_98 : decode cX8_meetsWant 98 = .ok (.iload_n 3, 1) := by decide +kernel
theorem dX8_meetsWant_99 : decode cX8_meetsWant 99 = .ok (.if_icmp .ge 7, 3) := by decide +kernel
theorem dX8_meetsWant_102 : decode cX8_meetsWant 102 = .ok (.iconst 1, 1) := by decide +kernel
theorem dX8_meetsWant_103 : decode cX8_meetsWant 103 = .ok (.goto 4, 3) := by decide +kernel
theorem dX8_meetsWant_106 : decode cX8_meetsWant 106 = .ok (.iconst 0, 1) := by decide +kernel
theorem dX8_meetsWant_107 : decode cX8_meetsWant 107 = .ok (.istore 6, 2) := by decide +kernel
theorem dX8_meetsWant_109 : decode cX8_meetsWant 109 = .ok (.iload 6, 2) := by decide +kernel
theorem dX8_meetsWant_111 : decode cX8_meetsWant 111 = .ok (.ifCond .eq 13, 3) := by decide +kernel
theorem dX8_meetsWant_114 : decode cX8_meetsWant 114 = .ok (.aload_n 0, 1) := by decide +kernel
theorem dX8_meetsWant_115 : decode cX8_meetsWant 115 = .ok (.getfield 87, 3) := by decide +kernel
theorem dX8_meetsWant_118 : decode cX8_meetsWant 118 = .ok (.iload 4, 2) := by decide +kernel
theorem dX8_meetsWant_120 : decode cX8_meetsWant 120 = .ok (.iaload, 1) := by decide +kernel
theorem dX8_meetsWant_121 : decode cX8_meetsWant 121 = .ok (.goto 4, 3) := by decide +kernel
theorem dX8_meetsWant_124 : decode cX8_meetsWant 124 = .ok (.iload_n 3, 1) := by decide +kernel
theorem dX8_meetsWant_125 : decode cX8_meetsWant 125 = .ok (.istore_n 3, 1) := by decide +kernel
theorem dX8_meetsWant_126 : decode cX8_meetsWant 126 = .ok (.iinc 4 1, 3) := by decide +kernel
theorem dX8_meetsWant_129 : decode cX8_meetsWant 129 = .ok (.goto (-113), 3) := by decide +kernel
theorem dX8_meetsWant_132 : decode cX8_meetsWant 132 = .ok (.iload_n 3, 1) := by decide +kernel
theorem dX8_meetsWant_133 : decode cX8_meetsWant 133 = .ok (.bipush (-9), 2) := by decide +kernel
theorem dX8_meetsWant_135 : decode cX8_meetsWant 135 = .ok (.if_icmp .ne 5, 3) := by decide +kernel
theorem dX8_meetsWant_138 : decode cX8_meetsWant 138 = .ok (.iconst 0, 1) := by decide +kernel
theorem dX8_meetsWant_139 : decode cX8_meetsWant 139 = .ok (.ireturn, 1) := by decide +kernel
theorem dX8_meetsWant_140 : decode cX8_meetsWant 140 = .ok (.aload_n 0, 1) := by decide +kernel
theorem dX8_meetsWant_141 : decode cX8_meetsWant 141 = .ok (.getfield 105, 3) := by decide +kernel
theorem dX8_meetsWant_144 : decode cX8_meetsWant 144 = .ok (.iload_n 1, 1) := by decide +kernel
theorem dX8_meetsWant_145 : decode cX8_meetsWant 145 = .ok (.iconst 1, 1) := by decide +kernel
theorem dX8_meetsWant_146 : decode cX8_meetsWant 146 = .ok (.iadd, 1) := by decide +kernel
theorem dX8_meetsWant_147 : decode cX8_meetsWant 147 = .ok (.iload_n 3, 1) := by decide +kernel
theorem dX8_meetsWant_148 : decode cX8_meetsWant 148 = .ok (.iastore, 1) := by decide +kernel
theorem dX8_meetsWant_149 : decode cX8_meetsWant 149 = .ok (.aload_n 0, 1) := by decide +kernel
theorem dX8_meetsWant_150 : decode cX8_meetsWant 150 = .ok (.getfield 108, 3) := by decide +kernel
theorem dX8_meetsWant_153 : decode cX8_meetsWant 153 = .ok (.iload_n 1, 1) := by decide +kernel
theorem dX8_meetsWant_154 : decode cX8_meetsWant 154 = .ok (.iconst 1, 1) := by decide +kernel
theorem dX8_meetsWant_155 : decode cX8_meetsWant 155 = .ok (.iadd, 1) := by decide +kernel
theorem dX8_meetsWant_156 : decode cX8_meetsWant 156 = .ok (.aload_n 0, 1) := by decide +kernel
theorem dX8_meetsWant_157 : decode cX8_meetsWant 157 = .ok (.getfield 108, 3) := by decide +kernel
theorem dX8_meetsWant_160 : decode cX8_meetsWant 160 = .ok (.iload_n 1, 1) := by decide +kernel
theorem dX8_meetsWant_161 : decode cX8_meetsWant 161 = .ok (.iaload, 1) := by decide +kernel
theorem dX8_meetsWant_162 : decode cX8_meetsWant 162 = .ok (.aload_n 0, 1) := by decide +kernel
theorem dX8_meetsWant_163 : decode cX8_meetsWant 163 = .ok (.getfield 90, 3) := by decide +kernel
theorem dX8_meetsWant_166 : decode cX8_meetsWant 166 = .ok (.iload_n 3, 1) := by decide +kernel
theorem dX8_meetsWant_167 : decode cX8_meetsWant 167 = .ok (.iaload, 1) := by decide +kernel
theorem dX8_meetsWant_168 : decode cX8_meetsWant 168 = .ok (.iadd, 1) := by decide +kernel
theorem dX8_meetsWant_169 : decode cX8_meetsWant 169 = .ok (.iastore, 1) := by decide +kernel
theorem dX8_meetsWant_170 : decode cX8_meetsWant 170 = .ok (.iconst 1, 1) := by decide +kernel
theorem dX8_meetsWant_171 : decode cX8_meetsWant 171 = .ok (.ireturn, 1) := by decide +kernel
theorem dX8_needWants_0 : decode cX8_needWants 0 = .ok (.iload_n 1, 1) := by decide +kernel
theorem dX8_needWants_1 : decode cX8_needWants 1 = .ok (.ifCond .eq 10, 3) := by decide +kernel
theorem dX8_needWants_4 : decode cX8_needWants 4 = .ok (.iload_n 2, 1) := by decide +kernel
theorem dX8_needWants_5 : decode cX8_needWants 5 = .ok (.invokestatic 140, 3) := by decide +kernel
theorem dX8_needWants_8 : decode cX8_needWants 8 = .ok (.ifCond .ne 5, 3) := by decide +kernel
theorem dX8_needWants_11 : decode cX8_needWants 11 = .ok (.iconst (-1), 1) := by decide +kernel
theorem dX8_needWants_12 : decode cX8_needWants 12 = .ok (.ireturn, 1) := by decide +kernel
theorem dX8_needWants_13 : decode cX8_needWants 13 = .ok (.aload_n 0, 1) := by decide +kernel
theorem dX8_needWants_14 : decode cX8_needWants 14 = .ok (.getfield 221, 3) := by decide +kernel
theorem dX8_needWants_17 : decode cX8_needWants 17 = .ok (.ifCond .ne 6, 3) := by decide +kernel
theorem dX8_needWants_20 : decode cX8_needWants 20 = .ok (.bipush (-4), 2) := by decide +kernel
theorem dX8_needWants_22 : decode cX8_needWants 22 = .ok (.ireturn, 1) := by decide +kernel
theorem dX8_needWants_23 : decode cX8_needWants 23 = .ok (.aload_n 0, 1) := by decide +kernel
theorem dX8_needWants_24 : decode cX8_needWants 24 = .ok (.getfield 13, 3) := by decide +kernel
theorem dX8_needWants_27 : decode cX8_needWants 27 = .ok (.iload_n 2, 1) := by decide +kernel
theorem dX8_needWants_28 : decode cX8_needWants 28 = .ok (.iaload, 1) := by decide +kernel
theorem dX8_needWants_29 : decode cX8_needWants 29 = .ok (.ifCond .ge 9, 3) := by decide +kernel
theorem dX8_needWants_32 : decode cX8_needWants 32 = .ok (.aload_n 0, 1) := by decide +kernel
theorem dX8_needWants_33 : decode cX8_needWants 33 = .ok (.iconst 1, 1) := by decide +kernel
theorem dX8_needWants_34 : decode cX8_needWants 34 = .ok (.invokevirtual 144, 3) := by decide +kernel
theorem dX8_needWants_37 : decode cX8_needWants 37 = .ok (.ireturn, 1) := by decide +kernel
theorem dX8_needWants_38 : decode cX8_needWants 38 = .ok (.aload_n 0, 1) := by decide +kernel
theorem dX8_needWants_39 : decode cX8_needWants 39 = .ok (.getfield 13, 3) := by decide +kernel
theorem dX8_needWants_42 : decode cX8_needWants 42 = .ok (.iload_n 2, 1) := by decide +kernel
theorem dX8_needWants_43 : decode cX8_needWants 43 = .ok (.iaload, 1) := by decide +kernel
theorem dX8_needWants_44 : decode cX8_needWants 44 = .ok (.iconst 5, 1) := by decide +kernel
theorem dX8_needWants_45 : decode cX8_needWants 45 = .ok (.if_icmp .le 9, 3) := by decide +kernel
theorem dX8_needWants_48 : decode cX8_needWants 48 = .ok (.aload_n 0, 1) := by decide +kernel
theorem dX8_needWants_49 : decode cX8_needWants 49 = .ok (.iconst 5, 1) := by decide +kernel
theorem dX8_needWants_50 : decode cX8_needWants 50 = .ok (.invokevirtual 144, 3) := by decide +kernel
theorem dX8_needWants_53 : decode cX8_needWants 53 = .ok (.ireturn, 1) := by decide +kernel
theorem dX8_needWants_54 : decode cX8_needWants 54 = .ok (.iconst 1, 1) := by decide +kernel
theorem dX8_needWants_55 : decode cX8_needWants 55 = .ok (.istore_n 3, 1) := by decide +kernel
theorem dX8_needWants_56 : decode cX8_needWants 56 = .ok (.iconst 0, 1) := by decide +kernel
theorem dX8_needWants_57 : decode cX8_needWants 57 = .ok (.istore 4, 2) := by decide +kernel
theorem dX8_needWants_59 : decode cX8_needWants 59 = .ok (.iload 4, 2) := by decide +kernel
theorem dX8_needWants_61 : decode cX8_needWants 61 = .ok (.aload_n 0, 1) := by decide +kernel
theorem dX8_needWants_62 : decode cX8_needWants 62 = .ok (.getfield 13, 3) := by decide +kernel
theorem dX8_needWants_65 : decode cX8_needWants 65 = .ok (.iload_n 2, 1) := by decide +kernel
theorem dX8_needWants_66 : decode cX8_needWants 66 = .ok (.iaload, 1) := by decide +kernel
theorem dX8_needWants_67 : decode cX8_needWants 67 = .ok (.if_icmp .ge 57, 3) := by decide +kernel
theorem dX8_needWants_70 : decode cX8_needWants 70 = .ok (.aload_n 0, 1) := by decide +kernel
theorem dX8_needWants_71 : decode cX8_needWants 71 = .ok (.iload_n 2, 1) := by decide +kernel
theorem dX8_needWants_72 : decode cX8_needWants 72 = .ok (.iload 4, 2) := by decide +kernel
theorem dX8_needWants_74 : decode cX8_needWants 74 = .ok (.invokevirtual 148, 3) := by decide +kernel
theorem dX8_needWants_77 : decode cX8_needWants 77 = .ok (.istore 5, 2) := by decide +kernel
theorem dX8_needWants_79 : decode cX8_needWants 79 = .ok (.iload_n 3, 1) := by decide +kernel
theorem dX8_needWants_80 : decode cX8_needWants 80 = .ok (.ifCond .eq 36, 3) := by decide +kernel
theorem dX8_needWants_83 : decode cX8_needWants 83 = .ok (.iload 5, 2) := by decide +kernel
theorem dX8_needWants_85 : decode cX8_needWants 85 = .ok (.ifCond .lt 31, 3) := by decide +kernel
theorem dX8_needWants_88 : decode cX8_needWants 88 = .ok (.aload_n 0, 1) := by decide +kernel
theorem dX8_needWants_89 : decode cX8_needWants 89 = .ok (.iload 5, 2) := by decide +kernel
theorem dX8_needWants_91 : decode cX8_needWants 91 = .ok (.bipush 100, 2) := by decide +kernel
theorem dX8_needWants_93 : decode cX8_needWants 93 = .ok (.idiv, 1) := by decide +kernel
theorem dX8_needWants_94 : decode cX8_needWants 94 = .ok (.invokevirtual 287, 3) := by decide +kernel
theorem dX8_needWants_97 : decode cX8_needWants 97 = .ok (.ifCond .eq 19, 3) := by decide +kernel
theorem dX8_needWants_100 : decode cX8_needWants 100 = .ok (.aload_n 0, 1) := by decide +kernel
theorem dX8_needWants_101 : decode cX8_needWants 101 = .ok (.iload 5, 2) := by decide +kernel
theorem dX8_needWants_103 : decode cX8_needWants 103 = .ok (.bipush 100, 2) := by decide +kernel
theorem dX8_needWants_105 : decode cX8_needWants 105 = .ok (.irem, 1) := by decide +kernel
theorem dX8_needWants_106 : decode cX8_needWants 106 = .ok (.invokevirtual 323, 3) := by decide +kernel
theorem dX8_needWants_109 : decode cX8_needWants 109 = .ok (.ifCond .eq 7, 3) := by decide +kernel
theorem dX8_needWants_112 : decode cX8_needWants 112 = .ok (.iconst 1, 1) := by decide +kernel
theorem dX8_needWants_113 : decode cX8_needWants 113 = .ok (.goto 4, 3) := by decide +kernel
theorem dX8_needWants_116 : decode cX8_needWants 116 = .ok (.iconst 0, 1) := by decide +kernel
theorem dX8_needWants_117 : decode cX8_needWants 117 = .ok (.istore_n 3, 1) := by decide +kernel
theorem dX8_needWants_118 : decode cX8_needWants 118 = .ok (.iinc 4 1, 3) := by decide +kernel
theorem dX8_needWants_121 : decode cX8_needWants 121 = .ok (.goto (-62), 3) := by decide +kernel
theorem dX8_needWants_124 : decode cX8_needWants 124 = .ok (.iload_n 3, 1) := by decide +kernel
theorem dX8_needWants_125 : decode cX8_needWants 125 = .ok (.ifCond .ne 9, 3) := by decide +kernel
theorem dX8_needWants_128 : decode cX8_needWants 128 = .ok (.aload_n 0, 1) := by decide +kernel
theorem dX8_needWants_129 : decode cX8_needWants 129 = .ok (.iconst 3, 1) := by decide +kernel
theorem dX8_needWants_130 : decode cX8_needWants 130 = .ok (.invokevirtual 144, 3) := by decide +kernel
theorem dX8_needWants_133 : decode cX8_needWants 133 = .ok (.ireturn, 1) := by decide +kernel
theorem dX8_needWants_134 : decode cX8_needWants 134 = .ok (.aload_n 0, 1) := by decide +kernel
theorem dX8_needWants_135 : decode cX8_needWants 135 = .ok (.aload_n 0, 1) := by decide +kernel
theorem dX8_needWants_136 : decode cX8_needWants 136 = .ok (.getfield 13, 3) := by decide +kernel
theorem dX8_needWants_139 : decode cX8_needWants 139 = .ok (.iload_n 2, 1) := by decide +kernel
theorem dX8_needWants_140 : decode cX8_needWants 140 = .ok (.iaload, 1) := by decide +kernel
theorem dX8_needWants_141 : decode cX8_needWants 141 = .ok (.putfield 364, 3) := by decide +kernel
theorem dX8_needWants_144 : decode cX8_needWants 144 = .ok (.iconst 0, 1) := by decide +kernel
theorem dX8_needWants_145 : decode cX8_needWants 145 = .ok (.istore 4, 2) := by decide +kernel
theorem dX8_needWants_147 : decode cX8_needWants 147 = .ok (.iload 4, 2) := by decide +kernel
theorem dX8_needWants_149 : decode cX8_needWants 149 = .ok (.aload_n 0, 1) := by decide +kernel
theorem dX8_needWants_150 : decode cX8_needWants 150 = .ok (.getfield 364, 3) := by decide +kernel
theorem dX8_needWants_153 : decode cX8_needWants 153 = .ok (.if_icmp .ge 23, 3) := by decide +kernel
theorem dX8_needWants_156 : decode cX8_needWants 156 = .ok (.aload_n 0, 1) := by decide +kernel
theorem dX8_needWants_157 : decode cX8_needWants 157 = .ok (.getfield 102, 3) := by decide +kernel
theorem dX8_needWants_160 : decode cX8_needWants 160 = .ok (.iload 4, 2) := by decide +kernel
theorem dX8_needWants_162 : decode cX8_needWants 162 = .ok (.aload_n 0, 1) := by decide +kernel
theorem dX8_needWants_163 : decode cX8_needWants 163 = .ok (.iload_n 2, 1) := by decide +kernel
theorem dX8_needWants_164 : decode cX8_needWants 164 = .ok (.iload 4, 2) := by decide +kernel
theorem dX8_needWants_166 : decode cX8_needWants 166 = .ok (.invokevirtual 148, 3) := by decide +kernel
theorem dX8_needWants_169 : decode cX8_needWants 169 = .ok (.iastore, 1) := by decide +kernel
theorem dX8_needWants_170 : decode cX8_needWants 170 = .ok (.iinc 4 1, 3) := by decide +kernel
theorem dX8_needWants_173 : decode cX8_needWants 173 = .ok (.goto (-26), 3) := by decide +kernel
theorem dX8_needWants_176 : decode cX8_needWants 176 = .ok (.aload_n 0, 1) := by decide +kernel
theorem dX8_needWants_177 : decode cX8_needWants 177 = .ok (.invokevirtual 293, 3) := by decide +kernel
theorem dX8_needWants_180 : decode cX8_needWants 180 = .ok (.aload_n 0, 1) := by decide +kernel
theorem dX8_needWants_181 : decode cX8_needWants 181 = .ok (.getfield 105, 3) := by decide +kernel
theorem dX8_needWants_184 : decode cX8_needWants 184 = .ok (.iconst 0, 1) := by decide +kernel
theorem dX8_needWants_185 : decode cX8_needWants 185 = .ok (.aload_n 0, 1) := by decide +kernel
theorem dX8_needWants_186 : decode cX8_needWants 186 = .ok (.invokevirtual 336, 3) := by decide +kernel
theorem dX8_needWants_189 : decode cX8_needWants 189 = .ok (.iastore, 1) := by decide +kernel
theorem dX8_needWants_190 : decode cX8_needWants 190 = .ok (.aload_n 0, 1) := by decide +kernel
theorem dX8_needWants_191 : decode cX8_needWants 191 = .ok (.getfield 108, 3) := by decide +kernel
theorem dX8_needWants_194 : decode cX8_needWants 194 = .ok (.iconst 0, 1) := by decide +kernel
theorem dX8_needWants_195 : decode cX8_needWants 195 = .ok (.iconst 0, 1) := by decide +kernel
theorem dX8_needWants_196 : decode cX8_needWants 196 = .ok (.iastore, 1) := by decide +kernel
theorem dX8_needWants_197 : decode cX8_needWants 197 = .ok (.iconst 0, 1) := by decide +kernel
theorem dX8_needWants_198 : decode cX8_needWants 198 = .ok (.ireturn, 1) := by decide +kernel
theorem dX8_fetch_0 : decode cX8_fetch 0 = .ok (.aload_n 0, 1) := by decide +kernel
theorem dX8_fetch_1 : decode cX8_fetch 1 = .ok (.iconst 1, 1) := by decide +kernel
theorem dX8_fetch_2 : decode cX8_fetch 2 = .ok (.iload_n 1, 1) := by decide +kernel
theorem dX8_fetch_3 : decode cX8_fetch 3 = .ok (.invokevirtual 367, 3) := by decide +kernel
theorem dX8_fetch_6 : decode cX8_fetch 6 = .ok (.istore_n 2, 1) := by decide +kernel
theorem dX8_fetch_7 : decode cX8_fetch 7 = .ok (.iload_n 2, 1) := by decide +kernel
theorem dX8_fetch_8 : decode cX8_fetch 8 = .ok (.ifCond .ge 5, 3) := by decide +kernel
theorem dX8_fetch_11 : decode cX8_fetch 11 = .ok (.iload_n 2, 1) := by decide +kernel
theorem dX8_fetch_12 : decode cX8_fetch 12 = .ok (.ireturn, 1) := by decide +kernel
theorem dX8_fetch_13 : decode cX8_fetch 13 = .ok (.iconst 0, 1) := by decide +kernel
theorem dX8_fetch_14 : decode cX8_fetch 14 = .ok (.istore_n 3, 1) := by decide +kernel
theorem dX8_fetch_15 : decode cX8_fetch 15 = .ok (.iload_n 3, 1) := by decide +kernel
theorem dX8_fetch_16 : decode cX8_fetch 16 = .ok (.aload_n 0, 1) := by decide +kernel
theorem dX8_fetch_17 : decode cX8_fetch 17 = .ok (.getfield 364, 3) := by decide +kernel
theorem dX8_fetch_20 : decode cX8_fetch 20 = .ok (.if_icmp .ge 23, 3) := by decide +kernel
theorem dX8_fetch_23 : decode cX8_fetch 23 = .ok (.aload_n 0, 1) := by decide +kernel
theorem dX8_fetch_24 : decode cX8_fetch 24 = .ok (.iload_n 3, 1) := by decide +kernel
theorem dX8_fetch_25 : decode cX8_fetch 25 = .ok (.aload_n 0, 1) := by decide +kernel
theorem dX8_fetch_26 : decode cX8_fetch 26 = .ok (.getfield 102, 3) := by decide +kernel
theorem dX8_fetch_29 : decode cX8_fetch 29 = .ok (.iload_n 3, 1) := by decide +kernel
theorem dX8_fetch_30 : decode cX8_fetch 30 = .ok (.iaload, 1) := by decide +kernel
theorem dX8_fetch_31 : decode cX8_fetch 31 = .ok (.invokevirtual 370, 3) := by decide +kernel
theorem dX8_fetch_34 : decode cX8_fetch 34 = .ok (.ifCond .eq 9, 3) := by decide +kernel
theorem dX8_fetch_37 : decode cX8_fetch 37 = .ok (.iinc 3 1, 3) := by decide +kernel
theorem dX8_fetch_40 : decode cX8_fetch 40 = .ok (.goto (-25), 3) := by decide +kernel
theorem dX8_fetch_43 : decode cX8_fetch 43 = .ok (.aload_n 0, 1) := by decide +kernel
theorem dX8_fetch_44 : decode cX8_fetch 44 = .ok (.aload_n 0, 1) := by decide +kernel
theorem dX8_fetch_45 : decode cX8_fetch 45 = .ok (.getfield 108, 3) := by decide +kernel
theorem dX8_fetch_48 : decode cX8_fetch 48 = .ok (.iload_n 3, 1) := by decide +kernel
theorem dX8_fetch_49 : decode cX8_fetch 49 = .ok (.iaload, 1) := by decide +kernel
theorem dX8_fetch_50 : decode cX8_fetch 50 = .ok (.iload_n 3, 1) := by decide +kernel
theorem dX8_fetch_51 : decode cX8_fetch 51 = .ok (.invokevirtual 152, 3) := by decide +kernel
theorem dX8_fetch_54 : decode cX8_fetch 54 = .ok (.ireturn, 1) := by decide +kernel
theorem dX8_layOrders_0 : decode cX8_layOrders 0 = .ok (.iload_n 1, 1) := by decide +kernel
theorem dX8_layOrders_1 : decode cX8_layOrders 1 = .ok (.aload_n 0, 1) := by decide +kernel
theorem dX8_layOrders_2 : decode cX8_layOrders 2 = .ok (.getfield 364, 3) := by decide +kernel
theorem dX8_layOrders_5 : decode cX8_layOrders 5 = .ok (.if_icmp .ne 80, 3) := by decide +kernel
theorem dX8_layOrders_8 : decode cX8_layOrders 8 = .ok (.iload_n 3, 1) := by decide +kernel
theorem dX8_layOrders_9 : decode cX8_layOrders 9 = .ok (.aload_n 0, 1) := by decide +kernel
theorem dX8_layOrders_10 : decode cX8_layOrders 10 = .ok (.getfield 373, 3) := by decide +kernel
theorem dX8_layOrders_13 : decode cX8_layOrders 13 = .ok (.if_icmp .gt 24, 3) := by decide +kernel
theorem dX8_layOrders_16 : decode cX8_layOrders 16 = .ok (.iload_n 3, 1) := by decide +kernel
theorem dX8_layOrders_17 : decode cX8_layOrders 17 = .ok (.aload_n 0, 1) := by decide +kernel
theorem dX8_layOrders_18 : decode cX8_layOrders 18 = .ok (.getfield 373, 3) := by decide +kernel
theorem dX8_layOrders_21 : decode cX8_layOrders 21 = .ok (.if_icmp .ne 63, 3) := by decide +kernel
theorem dX8_layOrders_24 : decode cX8_layOrders 24 = .ok (.aload_n 0, 1) := by decide +kernel
theorem dX8_layOrders_25 : decode cX8_layOrders 25 = .ok (.getfield 108, 3) := by decide +kernel
theorem dX8_layOrders_28 : decode cX8_layOrders 28 = .ok (.iload_n 3, 1) := by decide +kernel
theorem dX8_layOrders_29 : decode cX8_layOrders 29 = .ok (.iaload, 1) := by decide +kernel
theorem dX8_layOrders_30 : decode cX8_layOrders 30 = .ok (.aload_n 0, 1) := by decide +kernel
theorem dX8_layOrders_31 : decode cX8_layOrders 31 = .ok (.getfield 376, 3) := by decide +kernel
theorem dX8_layOrders_34 : decode cX8_layOrders 34 = .ok (.if_icmp .ge 50, 3) := by decide +kernel
theorem dX8_layOrders_37 : decode cX8_layOrders 37 = .ok (.aload_n 0, 1) := by decide +kernel
theorem dX8_layOrders_38 : decode cX8_layOrders 38 = .ok (.iload_n 3, 1) := by decide +kernel
theorem dX8_layOrders_39 : decode cX8_layOrders 39 = .ok (.putfield 373, 3) := by decide +kernel
theorem dX8_layOrders_42 : decode cX8_layOrders 42 = .ok (.aload_n 0, 1) := by decide +kernel
theorem dX8_layOrders_43 : decode cX8_layOrders 43 = .ok (.aload_n 0, 1) := by decide +kernel
theorem dX8_layOrders_44 : decode cX8_layOrders 44 = .ok (.getfield 108, 3) := by decide +kernel
theorem dX8_layOrders_47 : decode cX8_layOrders 47 = .ok (.iload_n 3, 1) := by decide +kernel
theorem dX8_layOrders_48 : decode cX8_layOrders 48 = .ok (.iaload, 1) := by decide +kernel
theorem dX8_layOrders_49 : decode cX8_layOrders 49 = .ok (.putfield 376, 3) := by decide +kernel
theorem dX8_layOrders_52 : decode cX8_layOrders 52 = .ok (.iconst 0, 1) := by decide +kernel
theorem dX8_layOrders_53 : decode cX8_layOrders 53 = .ok (.istore 4, 2) := by decide +kernel
theorem dX8_layOrders_55 : decode cX8_layOrders 55 = .ok (.iload 4, 2) := by decide +kernel
theorem dX8_layOrders_57 : decode cX8_layOrders 57 = .ok (.aload_n 0, 1) := by decide +kernel
theorem dX8_layOrders_58 : decode cX8_layOrders 58 = .ok (.getfield 364, 3) := by decide +kernel
theorem dX8_layOrders_61 : decode cX8_layOrders 61 = .ok (.if_icmp .ge 23, 3) := by decide +kernel
theorem dX8_layOrders_64 : decode cX8_layOrders 64 = .ok (.aload_n 0, 1) := by decide +kernel
theorem dX8_layOrders_65 : decode cX8_layOrders 65 = .ok (.getfield 114, 3) := by decide +kernel
theorem dX8_layOrders_68 : decode cX8_layOrders 68 = .ok (.iload 4, 2) := by decide +kernel
theorem dX8_layOrders_70 : decode cX8_layOrders 70 = .ok (.aload_n 0, 1) := by decide +kernel
theorem dX8_layOrders_71 : decode cX8_layOrders 71 = .ok (.getfield 111, 3) := by decide +kernel
theorem dX8_layOrders_74 : decode cX8_layOrders 74 = .ok (.iload 4, 2) := by decide +kernel
theorem dX8_layOrders_76 : decode cX8_layOrders 76 = .ok (.iaload, 1) := by decide +kernel
theorem dX8_layOrders_77 : decode cX8_layOrders 77 = .ok (.iastore, 1) := by decide +kernel
theorem dX8_layOrders_78 : decode cX8_layOrders 78 = .ok (.iinc 4 1, 3) := by decide +kernel
theorem dX8_layOrders_81 : decode cX8_layOrders 81 = .ok (.goto (-26), 3) := by decide +kernel
theorem dX8_layOrders_84 : decode cX8_layOrders 84 = .ok (.return_, 1) := by decide +kernel
theorem dX8_layOrders_85 : decode cX8_layOrders 85 = .ok (.iconst 0, 1) := by decide +kernel
theorem dX8_layOrders_86 : decode cX8_layOrders 86 = .ok (.istore 4, 2) := by decide +kernel
theorem dX8_layOrders_88 : decode cX8_layOrders 88 = .ok (.iload 4, 2) := by decide +kernel
theorem dX8_layOrders_90 : decode cX8_layOrders 90 = .ok (.aload_n 0, 1) := by decide +kernel
theorem dX8_layOrders_91 : decode cX8_layOrders 91 = .ok (.getfield 364, 3) := by decide +kernel
theorem dX8_layOrders_94 : decode cX8_layOrders 94 = .ok (.if_icmp .ge 78, 3) := by decide +kernel
theorem dX8_layOrders_97 : decode cX8_layOrders 97 = .ok (.iload_n 2, 1) := by decide +kernel
theorem dX8_layOrders_98 : decode cX8_layOrders 98 = .ok (.iload 4, 2) := by decide +kernel
theorem dX8_layOrders_100 : decode cX8_layOrders 100 = .ok (.invokestatic 358, 3) := by decide +kernel
theorem dX8_layOrders_103 : decode cX8_layOrders 103 = .ok (.ifCond .ne 63, 3) := by decide +kernel
theorem dX8_layOrders_106 : decode cX8_layOrders 106 = .ok (.aload_n 0, 1) := by decide +kernel
theorem dX8_layOrders_107 : decode cX8_layOrders 107 = .ok (.getfield 111, 3) := by decide +kernel
theorem dX8_layOrders_110 : decode cX8_layOrders 110 = .ok (.iload_n 1, 1) := by decide +kernel
theorem dX8_layOrders_111 : decode cX8_layOrders 111 = .ok (.iload 4, 2) := by decide +kernel
theorem dX8_layOrders_113 : decode cX8_layOrders 113 = .ok (.iastore, 1) := by decide +kernel
theorem dX8_layOrders_114 : decode cX8_layOrders 114 = .ok (.iload_n 3, 1) := by decide +kernel
theorem dX8_layOrders_115 : decode cX8_layOrders 115 = .ok (.iload_n 1, 1) := by decide +kernel
theorem dX8_layOrders_116 : decode cX8_layOrders 116 = .ok (.if_icmp .ne 22, 3) := by decide +kernel
theorem dX8_layOrders_119 : decode cX8_layOrders 119 = .ok (.aload_n 0, 1) := by decide +kernel
theorem dX8_layOrders_120 : decode cX8_layOrders 120 = .ok (.iload_n 1, 1) := by decide +kernel
theorem dX8_layOrders_121 : decode cX8_layOrders 121 = .ok (.aload_n 0, 1) := by decide +kernel
theorem dX8_layOrders_122 : decode cX8_layOrders 122 = .ok (.getfield 102, 3) := by decide +kernel
theorem dX8_layOrders_125 : decode cX8_layOrders 125 = .ok (.iload 4, 2) := by decide +kernel
theorem dX8_layOrders_127 : decode cX8_layOrders 127 = .ok (.iaload, 1) := by decide +kernel
theorem dX8_layOrders_128 : decode cX8_layOrders 128 = .ok (.invokevirtual 370, 3) := by decide +kernel
theorem dX8_layOrders_131 : decode cX8_layOrders 131 = .ok (.ifCond .eq 7, 3) := by decide +kernel
theorem dX8_layOrders_134 : decode cX8_layOrders 134 = .ok (.iconst 1, 1) := by decide +kernel
theorem dX8_layOrders_135 : decode cX8_layOrders 135 = .ok (.goto 4, 3) := by decide +kernel
theorem dX8_layOrders_138 : decode cX8_layOrders 138 = .ok (.iconst 0, 1) := by decide +kernel
theorem dX8_layOrders_139 : decode cX8_layOrders 139 = .ok (.istore 5, 2) := by decide +kernel
theorem dX8_layOrders_141 : decode cX8_layOrders 141 = .ok (.aload_n 0, 1) := by decide +kernel
theorem dX8_layOrders_142 : decode cX8_layOrders 142 = .ok (.iload_n 1, 1) := by decide +kernel
theorem dX8_layOrders_143 : decode cX8_layOrders 143 = .ok (.iconst 1, 1) := by decide +kernel
theorem dX8_layOrders_144 : decode cX8_layOrders 144 = .ok (.iadd, 1) := by decide +kernel
theorem dX8_layOrders_145 : decode cX8_layOrders 145 = .ok (.iload_n 2, 1) := by decide +kernel
theorem dX8_layOrders_146 : decode cX8_layOrders 146 = .ok (.iconst 1, 1) := by decide +kernel
theorem dX8_layOrders_147 : decode cX8_layOrders 147 = .ok (.iload 4, 2) := by decide +kernel
theorem dX8_layOrders_149 : decode cX8_layOrders 149 = .ok (.ishl, 1) := by decide +kernel
theorem dX8_layOrders_150 : decode cX8_layOrders 150 = .ok (.ior, 1) := by decide +kernel
theorem dX8_layOrders_151 : decode cX8_layOrders 151 = .ok (.iload 5, 2) := by decide +kernel
theorem dX8_layOrders_153 : decode cX8_layOrders 153 = .ok (.ifCond .eq 9, 3) := by decide +kernel
theorem dX8_layOrders_156 : decode cX8_layOrders 156 = .ok (.iload_n 3, 1) := by decide +kernel
theorem dX8_layOrders_157 : decode cX8_layOrders 157 = .ok (.iconst 1, 1) := by decide +kernel
theorem dX8_layOrders_158 : decode cX8_layOrders 158 = .ok (.iadd, 1) := by decide +kernel
theorem dX8_layOrders_159 : decode cX8_layOrders 159 = .ok (.goto 4, 3) := by decide +kernel
theorem dX8_layOrders_162 : decode cX8_layOrders 162 = .ok (.iload_n 3, 1) := by decide +kernel
theorem dX8_layOrders_163 : decode cX8_layOrders 163 = .ok (.invokevirtual 379, 3) := by decide +kernel
theorem dX8_layOrders_166 : decode cX8_layOrders 166 = .ok (.iinc 4 1, 3) := by decide +kernel
theorem dX8_layOrders_169 : decode cX8_layOrders 169 = .ok (.goto (-81), 3) := by decide +kernel
theorem dX8_layOrders_172 : decode cX8_layOrders 172 = .ok (.return_, 1) := by decide +kernel
theorem dX8_order_0 : decode cX8_order 0 = .ok (.aload_n 0, 1) := by decide +kernel
theorem dX8_order_1 : decode cX8_order 1 = .ok (.iload_n 2, 1) := by decide +kernel
theorem dX8_order_2 : decode cX8_order 2 = .ok (.invokestatic 140, 3) := by decide +kernel
theorem dX8_order_5 : decode cX8_order 5 = .ok (.iload_n 1, 1) := by decide +kernel
theorem dX8_order_6 : decode cX8_order 6 = .ok (.invokevirtual 367, 3) := by decide +kernel
theorem dX8_order_9 : decode cX8_order 9 = .ok (.istore_n 3, 1) := by decide +kernel
theorem dX8_order_10 : decode cX8_order 10 = .ok (.iload_n 3, 1) := by decide +kernel
theorem dX8_order_11 : decode cX8_order 11 = .ok (.ifCond .ge 5, 3) := by decide +kernel
theorem dX8_order_14 : decode cX8_order 14 = .ok (.iload_n 3, 1) := by decide +kernel
theorem dX8_order_15 : decode cX8_order 15 = .ok (.ireturn, 1) := by decide +kernel
theorem dX8_order_16 : decode cX8_order 16 = .ok (.aload_n 0, 1) := by decide +kernel
theorem dX8_order_17 : decode cX8_order 17 = .ok (.iconst (-1), 1) := by decide +kernel
theorem dX8_order_18 : decode cX8_order 18 = .ok (.putfield 373, 3) := by decide +kernel
theorem dX8_order_21 : decode cX8_order 21 = .ok (.aload_n 0, 1) := by decide +kernel
theorem dX8_order_22 : decode cX8_order 22 = .ok (.ldc_w 383, 3) := by decide +kernel
theorem dX8_order_25 : decode cX8_order 25 = .ok (.putfield 376, 3) := by decide +kernel
theorem dX8_order_28 : decode cX8_order 28 = .ok (.aload_n 0, 1) := by decide +kernel
theorem dX8_order_29 : decode cX8_order 29 = .ok (.iconst 0, 1) := by decide +kernel
theorem dX8_order_30 : decode cX8_order 30 = .ok (.iconst 0, 1) := by decide +kernel
theorem dX8_order_31 : decode cX8_order 31 = .ok (.iconst 0, 1) := by decide +kernel
theorem dX8_order_32 : decode cX8_order 32 = .ok (.invokevirtual 379, 3) := by decide +kernel
theorem dX8_order_35 : decode cX8_order 35 = .ok (.aload_n 0, 1) := by decide +kernel
theorem dX8_order_36 : decode cX8_order 36 = .ok (.getfield 13, 3) := by decide +kernel
theorem dX8_order_39 : decode cX8_order 39 = .ok (.iload_n 2, 1) := by decide +kernel
theorem dX8_order_40 : decode cX8_order 40 = .ok (.aload_n 0, 1) := by decide +kernel
theorem dX8_order_41 : decode cX8_order 41 = .ok (.getfield 364, 3) := by decide +kernel
theorem dX8_order_44 : decode cX8_order 44 = .ok (.iastore, 1) := by decide +kernel
theorem dX8_order_45 : decode cX8_order 45 = .ok (.iconst 0, 1) := by decide +kernel
theorem dX8_order_46 : decode cX8_order 46 = .ok (.istore 4, 2) := by decide +kernel
theorem dX8_order_48 : decode cX8_order 48 = .ok (.iload 4, 2) := by decide +kernel
theorem dX8_order_50 : decode cX8_order 50 = .ok (.bipush 40, 2) := by decide +kernel
theorem dX8_order_52 : decode cX8_order 52 = .ok (.if_icmp .ge 41, 3) := by decide +kernel
theorem dX8_order_55 : decode cX8_order 55 = .ok (.aload_n 0, 1) := by decide +kernel
theorem dX8_order_56 : decode cX8_order 56 = .ok (.getfield 16, 3) := by decide +kernel
theorem dX8_order_59 : decode cX8_order 59 = .ok (.bipush 40, 2) := by decide +kernel
theorem dX8_order_61 : decode cX8_order 61 = .ok (.iload_n 2, 1) := by decide +kernel
theorem dX8_order_62 : decode cX8_order 62 = .ok (.imul, 1) := by decide +kernel
theorem dX8_order_63 : decode cX8_order 63 = .ok (.iload 4, 2) := by decide +kernel
theorem dX8_order_65 : decode cX8_order 65 = .ok (.iadd, 1) := by decide +kernel
theorem dX8_order_66 : decode cX8_order 66 = .ok (.iload 4, 2) := by decide +kernel
theorem dX8_order_68 : decode cX8_order 68 = .ok (.aload_n 0, 1) := by decide +kernel
theorem dX8_order_69 : decode cX8_order 69 = .ok (.getfield 364, 3) := by decide +kernel
theorem dX8_order_72 : decode cX8_order 72 = .ok (.if_icmp .ge 13, 3) := by decide +kernel
theorem dX8_order_75 : decode cX8_order 75 = .ok (.aload_n 0, 1) := by decide +kernel
theorem dX8_order_76 : decode cX8_order 76 = .ok (.getfield 114, 3) := by decide +kernel
theorem dX8_order_79 : decode cX8_order 79 = .ok (.iload 4, 2) := by decide +kernel
theorem dX8_order_81 : decode cX8_order 81 = .ok (.iaload, 1) := by decide +kernel
theorem dX8_order_82 : decode cX8_order 82 = .ok (.goto 4, 3) := by decide +kernel
theorem dX8_order_85 : decode cX8_order 85 = .ok (.iconst 0, 1) := by decide +kernel
theorem dX8_order_86 : decode cX8_order 86 = .ok (.iastore, 1) := by decide +kernel
theorem dX8_order_87 : decode cX8_order 87 = .ok (.iinc 4 1, 3) := by decide +kernel
theorem dX8_order_90 : decode cX8_order 90 = .ok (.goto (-42), 3) := by decide +kernel
theorem dX8_order_93 : decode cX8_order 93 = .ok (.aload_n 0, 1) := by decide +kernel
theorem dX8_order_94 : decode cX8_order 94 = .ok (.getfield 373, 3) := by decide +kernel
theorem dX8_order_97 : decode cX8_order 97 = .ok (.ireturn, 1) := by decide +kernel
theorem dX8_needKeys_0 : decode cX8_needKeys 0 = .ok (.aload_n 0, 1) := by decide +kernel
theorem dX8_needKeys_1 : decode cX8_needKeys 1 = .ok (.getfield 13, 3) := by decide +kernel
theorem dX8_needKeys_4 : decode cX8_needKeys 4 = .ok (.iload_n 1, 1) := by decide +kernel
theorem dX8_needKeys_5 : decode cX8_needKeys 5 = .ok (.iaload, 1) := by decide +kernel
theorem dX8_needKeys_6 : decode cX8_needKeys 6 = .ok (.ifCond .ge 9, 3) := by decide +kernel
theorem dX8_needKeys_9 : decode cX8_needKeys 9 = .ok (.aload_n 0, 1) := by decide +kernel
theorem dX8_needKeys_10 : decode cX8_needKeys 10 = .ok (.iconst 1, 1) := by decide +kernel
theorem dX8_needKeys_11 : decode cX8_needKeys 11 = .ok (.invokevirtual 144, 3) := by decide +kernel
theorem dX8_needKeys_14 : decode cX8_needKeys 14 = .ok (.ireturn, 1) := by decide +kernel
theorem dX8_needKeys_15 : decode cX8_needKeys 15 = .ok (.aload_n 0, 1) := by decide +kernel
theorem dX8_needKeys_16 : decode cX8_needKeys 16 = .ok (.getfield 13, 3) := by decide +kernel
theorem dX8_needKeys_19 : decode cX8_needKeys 19 = .ok (.iload_n 1, 1) := by decide +kernel
theorem dX8_needKeys_20 : decode cX8_needKeys 20 = .ok (.iaload, 1) := by decide +kernel
theorem dX8_needKeys_21 : decode cX8_needKeys 21 = .ok (.bipush 8, 2) := by decide +kernel
theorem dX8_needKeys_23 : decode cX8_needKeys 23 = .ok (.if_icmp .le 9, 3) := by decide +kernel
theorem dX8_needKeys_26 : decode cX8_needKeys 26 = .ok (.aload_n 0, 1) := by decide +kernel
theorem dX8_needKeys_27 : decode cX8_needKeys 27 = .ok (.iconst 5, 1) := by decide +kernel
theorem dX8_needKeys_28 : decode cX8_needKeys 28 = .ok (.invokevirtual 144, 3) := by decide +kernel
theorem dX8_needKeys_31 : decode cX8_needKeys 31 = .ok (.ireturn, 1) := by decide +kernel
theorem dX8_needKeys_32 : decode cX8_needKeys 32 = .ok (.iconst 1, 1) := by decide +kernel
theorem dX8_needKeys_33 : decode cX8_needKeys 33 = .ok (.istore_n 2, 1) := by decide +kernel
theorem dX8_needKeys_34 : decode cX8_needKeys 34 = .ok (.iconst 0, 1) := by decide +kernel
theorem dX8_needKeys_35 : decode cX8_needKeys 35 = .ok (.istore_n 3, 1) := by decide +kernel
theorem dX8_needKeys_36 : decode cX8_needKeys 36 = .ok (.iload_n 3, 1) := by decide +kernel
theorem dX8_needKeys_37 : decode cX8_needKeys 37 = .ok (.aload_n 0, 1) := by decide +kernel
theorem dX8_needKeys_38 : decode cX8_needKeys 38 = .ok (.getfield 13, 3) := by decide +kernel
theorem dX8_needKeys_41 : decode cX8_needKeys 41 = .ok (.iload_n 1, 1) := by decide +kernel
theorem dX8_needKeys_42 : decode cX8_needKeys 42 = .ok (.iaload, 1) := by decide +kernel
theorem dX8_needKeys_43 : decode cX8_needKeys 43 = .ok (.if_icmp .ge 40, 3) := by decide +kernel
theorem dX8_needKeys_46 : decode cX8_needKeys 46 = .ok (.iload_n 2, 1) := by decide +kernel
theorem dX8_needKeys_47 : decode cX8_needKeys 47 = .ok (.ifCond .eq 28, 3) := by decide +kernel
theorem dX8_needKeys_50 : decode cX8_needKeys 50 = .ok (.aload_n 0, 1) := by decide +kernel
theorem dX8_needKeys_51 : decode cX8_needKeys 51 = .ok (.iload_n 1, 1) := by decide +kernel
theorem dX8_needKeys_52 : decode cX8_needKeys 52 = .ok (.iload_n 3, 1) := by decide +kernel
theorem dX8_needKeys_53 : decode cX8_needKeys 53 = .ok (.invokevirtual 148, 3) := by decide +kernel
theorem dX8_needKeys_56 : decode cX8_needKeys 56 = .ok (.iconst 0, 1) := by decide +kernel
theorem dX8_needKeys_57 : decode cX8_needKeys 57 = .ok (.iconst 1, 1) := by decide +kernel
theorem dX8_needKeys_58 : decode cX8_needKeys 58 = .ok (.aload_n 0, 1) := by decide +kernel
theorem dX8_needKeys_59 : decode cX8_needKeys 59 = .ok (.getfield 227, 3) := by decide +kernel
theorem dX8_needKeys_62 : decode cX8_needKeys 62 = .ok (.ishl, 1) := by decide +kernel
theorem dX8_needKeys_63 : decode cX8_needKeys 63 = .ok (.iconst 1, 1) := by decide +kernel
theorem dX8_needKeys_64 : decode cX8_needKeys 64 = .ok (.isub, 1) := by decide +kernel
theorem dX8_needKeys_65 : decode cX8_needKeys 65 = .ok (.invokestatic 133, 3) := by decide +kernel
theorem dX8_needKeys_68 : decode cX8_needKeys 68 = .ok (.ifCond .eq 7, 3) := by decide +kernel
theorem dX8_needKeys_71 : decode cX8_needKeys 71 = .ok (.iconst 1, 1) := by decide +kernel
theorem dX8_needKeys_72 : decode cX8_needKeys 72 = .ok (.goto 4, 3) := by decide +kernel
theorem dX8_needKeys_75 : decode cX8_needKeys 75 = .ok (.iconst 0, 1) := by decide +kernel
theorem dX8_needKeys_76 : decode cX8_needKeys 76 = .ok (.istore_n 2, 1) := by decide +kernel
theorem dX8_needKeys_77 : decode cX8_needKeys 77 = .ok (.iinc 3 1, 3) := by decide +kernel
theorem dX8_needKeys_80 : decode cX8_needKeys 80 = .ok (.goto (-44), 3) := by decide +kernel
theorem dX8_needKeys_83 : decode cX8_needKeys 83 = .ok (.iload_n 2, 1) := by decide +kernel
theorem dX8_needKeys_84 : decode cX8_needKeys 84 = .ok (.ifCond .eq 7, 3) := by decide +kernel
theorem dX8_needKeys_87 : decode cX8_needKeys 87 = .ok (.iconst 0, 1) := by decide +kernel
theorem dX8_needKeys_88 : decode cX8_needKeys 88 = .ok (.goto 8, 3) := by decide +kernel
theorem dX8_needKeys_91 : decode cX8_needKeys 91 = .ok (.aload_n 0, 1) := by decide +kernel
theorem dX8_needKeys_92 : decode cX8_needKeys 92 = .ok (.iconst 3, 1) := by decide +kernel
theorem dX8_needKeys_93 : decode cX8_needKeys 93 = .ok (.invokevirtual 144, 3) := by decide +kernel
theorem dX8_needKeys_96 : decode cX8_needKeys 96 = .ok (.ireturn, 1) := by decide +kernel
theorem dX8_keysFor_0 : decode cX8_keysFor 0 = .ok (.bipush (-9), 2) := by decide +kernel
theorem dX8_keysFor_2 : decode cX8_keysFor 2 = .ok (.istore_n 3, 1) := by decide +kernel
theorem dX8_keysFor_3 : decode cX8_keysFor 3 = .ok (.iconst 0, 1) := by decide +kernel
theorem dX8_keysFor_4 : decode cX8_keysFor 4 = .ok (.istore 4, 2) := by decide +kernel
theorem dX8_keysFor_6 : decode cX8_keysFor 6 = .ok (.iload 4, 2) := by decide +kernel
theorem dX8_keysFor_8 : decode cX8_keysFor 8 = .ok (.iconst 1, 1) := by decide +kernel
theorem dX8_keysFor_9 : decode cX8_keysFor 9 = .ok (.aload_n 0, 1) := by decide +kernel
theorem dX8_keysFor_10 : decode cX8_keysFor 10 = .ok (.getfield 13, 3) := by decide +kernel
theorem dX8_keysFor_13 : decode cX8_keysFor 13 = .ok (.iload_n 1, 1) := by decide +kernel
theorem dX8_keysFor_14 : decode cX8_keysFor 14 = .ok (.iaload, 1) := by decide +kernel
theorem dX8_keysFor_15 : decode cX8_keysFor 15 = .ok (.ishl, 1) := by decide +kernel
theorem dX8_keysFor_16 : decode cX8_keysFor 16 = .ok (.if_icmp .ge 92, 3) := by decide +kernel
theorem dX8_keysFor_19 : decode cX8_keysFor 19 = .ok (.iconst 0, 1) := by decide +kernel
theorem dX8_keysFor_20 : decode cX8_keysFor 20 = .ok (.istore 5, 2) := by decide +kernel
theorem dX8_keysFor_22 : decode cX8_keysFor 22 = .ok (.iconst 0, 1) := by decide +kernel
theorem dX8_keysFor_23 : decode cX8_keysFor 23 = .ok (.istore 6, 2) := by decide +kernel
theorem dX8_keysFor_25 : decode cX8_keysFor 25 = .ok (.iload 6, 2) := by decide +kernel
theorem dX8_keysFor_27 : decode cX8_keysFor 27 = .ok (.aload_n 0, 1) := by decide +kernel
theorem dX8_keysFor_28 : decode cX8_keysFor 28 = .ok (.getfield 13, 3) := by decide +kernel
theorem dX8_keysFor_31 : decode cX8_keysFor 31 = .ok (.iload_n 1, 1) := by decide +kernel
theorem dX8_keysFor_32 : decode cX8_keysFor 32 = .ok (.iaload, 1) := by decide +kernel
theorem dX8_keysFor_33 : decode cX8_keysFor 33 = .ok (.if_icmp .ge 35, 3) := by decide +kernel
theorem dX8_keysFor_36 : decode cX8_keysFor 36 = .ok (.iload 5, 2) := by decide +kernel
theorem dX8_keysFor_38 : decode cX8_keysFor 38 = .ok (.iload 4, 2) := by decide +kernel
theorem dX8_keysFor_40 : decode cX8_keysFor 40 = .ok (.iload 6, 2) := by decide +kernel
theorem dX8_keysFor_42 : decode cX8_keysFor 42 = .ok (.invokestatic 358, 3) := by decide +kernel
theorem dX8_keysFor_45 : decode cX8_keysFor 45 = .ok (.ifCond .eq 13, 3) := by decide +kernel
theorem dX8_keysFor_48 : decode cX8_keysFor 48 = .ok (.aload_n 0, 1) := by decide +kernel
theorem dX8_keysFor_49 : decode cX8_keysFor 49 = .ok (.iload_n 1, 1) := by decide +kernel
theorem dX8_keysFor_50 : decode cX8_keysFor 50 = .ok (.iload 6, 2) := by decide +kernel
theorem dX8_keysFor_52 : decode cX8_keysFor 52 = .ok (.invokevirtual 148, 3) := by decide +kernel
theorem dX8_keysFor_55 : decode cX8_keysFor 55 = .ok (.goto 4, 3) := by decide +kernel
theorem dX8_keysFor_58 : decode cX8_keysFor 58 = .ok (.iconst 0, 1) := by decide +kernel
theorem dX8_keysFor_59 : decode cX8_keysFor 59 = .ok (.ior, 1) := by decide +kernel
theorem dX8_keysFor_60 : decode cX8_keysFor 60 = .ok (.istore 5, 2) := by decide +kernel
theorem dX8_keysFor_62 : decode cX8_keysFor 62 = .ok (.iinc 6 1, 3) := by decide +kernel
theorem dX8_keysFor_65 : decode cX8_keysFor 65 = .ok (.goto (-40), 3) := by decide +kernel
theorem dX8_keysFor_68 : decode cX8_keysFor 68 = .ok (.iload_n 2, 1) := by decide +kernel
theorem dX8_keysFor_69 : decode cX8_keysFor 69 = .ok (.iload 5, 2) := by decide +kernel
theorem dX8_keysFor_71 : decode cX8_keysFor 71 = .ok (.iconst (-1), 1) := by decide +kernel
theorem dX8_keysFor_72 : decode cX8_keysFor 72 = .ok (.ixor, 1) := by decide +kernel
theorem dX8_keysFor_73 : decode cX8_keysFor 73 = .ok (.iand, 1) := by decide +kernel
theorem dX8_keysFor_74 : decode cX8_keysFor 74 = .ok (.ifCond .ne 26, 3) := by decide +kernel
theorem dX8_keysFor_77 : decode cX8_keysFor 77 = .ok (.iload_n 3, 1) := by decide +kernel
theorem dX8_keysFor_78 : decode cX8_keysFor 78 = .ok (.bipush (-9), 2) := by decide +kernel
theorem dX8_keysFor_80 : decode cX8_keysFor 80 = .ok (.if_icmp .eq 15, 3) := by decide +kernel
theorem dX8_keysFor_83 : decode cX8_keysFor 83 = .ok (.iload 4, 2) := by decide +kernel
theorem dX8_keysFor_85 : decode cX8_keysFor 85 = .ok (.invokestatic 308, 3) := by decide +kernel
theorem dX8_keysFor_88 : decode cX8_keysFor 88 = .ok (.iload_n 3, 1) := by decide +kernel
theorem dX8_keysFor_89 : decode cX8_keysFor 89 = .ok (.invokestatic 308, 3) := by decide +kernel
theorem dX8_keysFor_92 : decode cX8_keysFor 92 = .ok (.if_icmp .ge 8, 3) := by decide +kernel
theorem dX8_keysFor_95 : decode cX8_keysFor 95 = .ok (.iload 4, 2) := by decide +kernel
theorem dX8_keysFor_97 : decode cX8_keysFor 97 = .ok (.goto 4, 3) := by decide +kernel
theorem dX8_keysFor_100 : decode cX8_keysFor 100 = .ok (.iload_n 3, 1) := by decide +kernel
theorem dX8_keysFor_101 : decode cX8_keysFor 101 = .ok (.istore_n 3, 1) := by decide +kernel
theorem dX8_keysFor_102 : decode cX8_keysFor 102 = .ok (.iinc 4 1, 3) := by decide +kernel
theorem dX8_keysFor_105 : decode cX8_keysFor 105 = .ok (.goto (-99), 3) := by decide +kernel
theorem dX8_keysFor_108 : decode cX8_keysFor 108 = .ok (.iload_n 3, 1) := by decide +kernel
theorem dX8_keysFor_109 : decode cX8_keysFor 109 = .ok (.bipush (-9), 2) := by decide +kernel
theorem dX8_keysFor_111 : decode cX8_keysFor 111 = .ok (.if_icmp .ne 8, 3) := by decide +kernel
theorem dX8_keysFor_114 : decode cX8_keysFor 114 = .ok (.bipush (-9), 2) := by decide +kernel
theorem dX8_keysFor_116 : decode cX8_keysFor 116 = .ok (.goto 12, 3) := by decide +kernel
theorem dX8_keysFor_119 : decode cX8_keysFor 119 = .ok (.aload_n 0, 1) := by decide +kernel
theorem dX8_keysFor_120 : decode cX8_keysFor 120 = .ok (.iload_n 3, 1) := by decide +kernel
theorem dX8_keysFor_121 : decode cX8_keysFor 121 = .ok (.iload_n 3, 1) := by decide +kernel
theorem dX8_keysFor_122 : decode cX8_keysFor 122 = .ok (.invokestatic 308, 3) := by decide +kernel
theorem dX8_keysFor_125 : decode cX8_keysFor 125 = .ok (.invokevirtual 152, 3) := by decide +kernel
theorem dX8_keysFor_128 : decode cX8_keysFor 128 = .ok (.ireturn, 1) := by decide +kernel
theorem dX8_shutSet_0 : decode cX8_shutSet 0 = .ok (.iconst 0, 1) := by decide +kernel
theorem dX8_shutSet_1 : decode cX8_shutSet 1 = .ok (.istore_n 1, 1) := by decide +kernel
theorem dX8_shutSet_2 : decode cX8_shutSet 2 = .ok (.iconst 0, 1) := by decide +kernel
theorem dX8_shutSet_3 : decode cX8_shutSet 3 = .ok (.istore_n 2, 1) := by decide +kernel
theorem dX8_shutSet_4 : decode cX8_shutSet 4 = .ok (.iload_n 2, 1) := by decide +kernel
theorem dX8_shutSet_5 : decode cX8_shutSet 5 = .ok (.aload_n 0, 1) := by decide +kernel
theorem dX8_shutSet_6 : decode cX8_shutSet 6 = .ok (.getfield 227, 3) := by decide +kernel
theorem dX8_shutSet_9 : decode cX8_shutSet 9 = .ok (.if_icmp .ge 28, 3) := by decide +kernel
theorem dX8_shutSet_12 : decode cX8_shutSet 12 = .ok (.iload_n 1, 1) := by decide +kernel
theorem dX8_shutSet_13 : decode cX8_shutSet 13 = .ok (.aload_n 0, 1) := by decide +kernel
theorem dX8_shutSet_14 : decode cX8_shutSet 14 = .ok (.getfield 41, 3) := by decide +kernel
theorem dX8_shutSet_17 : decode cX8_shutSet 17 = .ok (.iload_n 2, 1) := by decide +kernel
theorem dX8_shutSet_18 : decode cX8_shutSet 18 = .ok (.iaload, 1) := by decide +kernel
theorem dX8_shutSet_19 : decode cX8_shutSet 19 = .ok (.ifCond .ne 9, 3) := by decide +kernel
theorem dX8_shutSet_22 : decode cX8_shutSet 22 = .ok (.iconst 1, 1) := by decide +kernel
theorem dX8_shutSet_23 : decode cX8_shutSet 23 = .ok (.iload_n 2, 1) := by decide +kernel
theorem dX8_shutSet_24 : decode cX8_shutSet 24 = .ok (.ishl, 1) := by decide +kernel
theorem dX8_shutSet_25 : decode cX8_shutSet 25 = .ok (.goto 4, 3) := by decide +kernel
theorem dX8_shutSet_28 : decode cX8_shutSet 28 = .ok (.iconst 0, 1) := by decide +kernel
theorem dX8_shutSet_29 : decode cX8_shutSet 29 = .ok (.ior, 1) := by decide +kernel
theorem dX8_shutSet_30 : decode cX8_shutSet 30 = .ok (.istore_n 1, 1) := by decide +kernel
theorem dX8_shutSet_31 : decode cX8_shutSet 31 = .ok (.iinc 2 1, 3) := by decide +kernel
theorem dX8_shutSet_34 : decode cX8_shutSet 34 = .ok (.goto (-30), 3) := by decide +kernel
theorem dX8_shutSet_37 : decode cX8_shutSet 37 = .ok (.iload_n 1, 1) := by decide +kernel
theorem dX8_shutSet_38 : decode cX8_shutSet 38 = .ok (.ireturn, 1) := by decide +kernel
theorem dX8_keys_0 : decode cX8_keys 0 = .ok (.iload_n 1, 1) := by decide +kernel
theorem dX8_keys_1 : decode cX8_keys 1 = .ok (.invokestatic 140, 3) := by decide +kernel
theorem dX8_keys_4 : decode cX8_keys 4 = .ok (.ifCond .ne 5, 3) := by decide +kernel
theorem dX8_keys_7 : decode cX8_keys 7 = .ok (.iconst (-1), 1) := by decide +kernel
theorem dX8_keys_8 : decode cX8_keys 8 = .ok (.ireturn, 1) := by decide +kernel
theorem dX8_keys_9 : decode cX8_keys 9 = .ok (.aload_n 0, 1) := by decide +kernel
theorem dX8_keys_10 : decode cX8_keys 10 = .ok (.getfield 221, 3) := by decide +kernel
theorem dX8_keys_13 : decode cX8_keys 13 = .ok (.ifCond .ne 6, 3) := by decide +kernel
theorem dX8_keys_16 : decode cX8_keys 16 = .ok (.bipush (-4), 2) := by decide +kernel
theorem dX8_keys_18 : decode cX8_keys 18 = .ok (.ireturn, 1) := by decide +kernel
theorem dX8_keys_19 : decode cX8_keys 19 = .ok (.aload_n 0, 1) := by decide +kernel
theorem dX8_keys_20 : decode cX8_keys 20 = .ok (.iload_n 1, 1) := by decide +kernel
theorem dX8_keys_21 : decode cX8_keys 21 = .ok (.invokevirtual 384, 3) := by decide +kernel
theorem dX8_keys_24 : decode cX8_keys 24 = .ok (.istore_n 2, 1) := by decide +kernel
theorem dX8_keys_25 : decode cX8_keys 25 = .ok (.iload_n 2, 1) := by decide +kernel
theorem dX8_keys_26 : decode cX8_keys 26 = .ok (.ifCond .ge 7, 3) := by decide +kernel
theorem dX8_keys_29 : decode cX8_keys 29 = .ok (.iload_n 2, 1) := by decide +kernel
theorem dX8_keys_30 : decode cX8_keys 30 = .ok (.goto 12, 3) := by decide +kernel
theorem dX8_keys_33 : decode cX8_keys 33 = .ok (.aload_n 0, 1) := by decide +kernel
theorem dX8_keys_34 : decode cX8_keys 34 = .ok (.iload_n 1, 1) := by decide +kernel
theorem dX8_keys_35 : decode cX8_keys 35 = .ok (.aload_n 0, 1) := by decide +kernel
theorem dX8_keys_36 : decode cX8_keys 36 = .ok (.invokevirtual 387, 3) := by decide +kernel
theorem dX8_keys_39 : decode cX8_keys 39 = .ok (.invokevirtual 390, 3) := by decide +kernel
theorem dX8_keys_42 : decode cX8_keys 42 = .ok (.ireturn, 1) := by decide +kernel
theorem dX8_free_0 : decode cX8_free 0 = .ok (.aload_n 0, 1) := by decide +kernel
theorem dX8_free_1 : decode cX8_free 1 = .ok (.iload_n 1, 1) := by decide +kernel
theorem dX8_free_2 : decode cX8_free 2 = .ok (.invokevirtual 287, 3) := by decide +kernel
theorem dX8_free_5 : decode cX8_free 5 = .ok (.ifCond .eq 10, 3) := by decide +kernel
theorem dX8_free_8 : decode cX8_free 8 = .ok (.iload_n 2, 1) := by decide +kernel
theorem dX8_free_9 : decode cX8_free 9 = .ok (.invokestatic 140, 3) := by decide +kernel
theorem dX8_free_12 : decode cX8_free 12 = .ok (.ifCond .ne 5, 3) := by decide +kernel
theorem dX8_free_15 : decode cX8_free 15 = .ok (.iconst (-1), 1) := by decide +kernel
theorem dX8_free_16 : decode cX8_free 16 = .ok (.ireturn, 1) := by decide +kernel
theorem dX8_free_17 : decode cX8_free 17 = .ok (.aload_n 0, 1) := by decide +kernel
theorem dX8_free_18 : decode cX8_free 18 = .ok (.iload_n 2, 1) := by decide +kernel
theorem dX8_free_19 : decode cX8_free 19 = .ok (.invokevirtual 384, 3) := by decide +kernel
theorem dX8_free_22 : decode cX8_free 22 = .ok (.istore_n 3, 1) := by decide +kernel
theorem dX8_free_23 : decode cX8_free 23 = .ok (.iload_n 3, 1) := by decide +kernel
theorem dX8_free_24 : decode cX8_free 24 = .ok (.ifCond .ge 5, 3) := by decide +kernel
theorem dX8_free_27 : decode cX8_free 27 = .ok (.iload_n 3, 1) := by decide +kernel
theorem dX8_free_28 : decode cX8_free 28 = .ok (.ireturn, 1) := by decide +kernel
theorem dX8_free_29 : decode cX8_free 29 = .ok (.iconst 0, 1) := by decide +kernel
theorem dX8_free_30 : decode cX8_free 30 = .ok (.istore 4, 2) := by decide +kernel
theorem dX8_free_32 : decode cX8_free 32 = .ok (.iconst 0, 1) := by decide +kernel
theorem dX8_free_33 : decode cX8_free 33 = .ok (.istore 5, 2) := by decide +kernel
theorem dX8_free_35 : decode cX8_free 35 = .ok (.iload 5, 2) := by decide +kernel
theorem dX8_free_37 : decode cX8_free 37 = .ok (.aload_n 0, 1) := by decide +kernel
theorem dX8_free_38 : decode cX8_free 38 = .ok (.getfield 227, 3) := by decide +kernel
theorem dX8_free_41 : decode cX8_free 41 = .ok (.if_icmp .ge 38, 3) := by decide +kernel
theorem dX8_free_44 : decode cX8_free 44 = .ok (.iload 4, 2) := by decide +kernel
theorem dX8_free_46 : decode cX8_free 46 = .ok (.iload 5, 2) := by decide +kernel
theorem dX8_free_48 : decode cX8_free 48 = .ok (.iload_n 1, 1) := by decide +kernel
theorem dX8_free_49 : decode cX8_free 49 = .ok (.if_icmp .eq 13, 3) := by decide +kernel
theorem dX8_free_52 : decode cX8_free 52 = .ok (.aload_n 0, 1) := by decide +kernel
theorem dX8_free_53 : decode cX8_free 53 = .ok (.iload 5, 2) := by decide +kernel
theorem dX8_free_55 : decode cX8_free 55 = .ok (.invokevirtual 243, 3) := by decide +kernel
theorem dX8_free_58 : decode cX8_free 58 = .ok (.iload_n 1, 1) := by decide +kernel
theorem dX8_free_59 : decode cX8_free 59 = .ok (.if_icmp .ne 10, 3) := by decide +kernel
theorem dX8_free_62 : decode cX8_free 62 = .ok (.iconst 1, 1) := by decide +kernel
theorem dX8_free_63 : decode cX8_free 63 = .ok (.iload 5, 2) := by decide +kernel
theorem dX8_free_65 : decode cX8_free 65 = .ok (.ishl, 1) := by decide +kernel
theorem dX8_free_66 : decode cX8_free 66 = .ok (.goto 4, 3) := by decide +kernel
theorem dX8_free_69 : decode cX8_free 69 = .ok (.iconst 0, 1) := by decide +kernel
theorem dX8_free_70 : decode cX8_free 70 = .ok (.ior, 1) := by decide +kernel
theorem dX8_free_71 : decode cX8_free 71 = .ok (.istore 4, 2) := by decide +kernel
theorem dX8_free_73 : decode cX8_free 73 = .ok (.iinc 5 1, 3) := by decide +kernel
theorem dX8_free_76 : decode cX8_free 76 = .ok (.goto (-41), 3) := by decide +kernel
theorem dX8_free_79 : decode cX8_free 79 = .ok (.aload_n 0, 1) := by decide +kernel
theorem dX8_free_80 : decode cX8_free 80 = .ok (.iload_n 2, 1) := by decide +kernel
theorem dX8_free_81 : decode cX8_free 81 = .ok (.iload 4, 2) := by decide +kernel
theorem dX8_free_83 : decode cX8_free 83 = .ok (.aload_n 0, 1) := by decide +kernel
theorem dX8_free_84 : decode cX8_free 84 = .ok (.invokevirtual 387, 3) := by decide +kernel
theorem dX8_free_87 : decode cX8_free 87 = .ok (.iand, 1) := by decide +kernel
theorem dX8_free_88 : decode cX8_free 88 = .ok (.invokevirtual 390, 3) := by decide +kernel
theorem dX8_free_91 : decode cX8_free 91 = .ok (.ireturn, 1) := by decide +kernel
theorem dX8_filed_0 : decode cX8_filed 0 = .ok (.iload_n 1, 1) := by decide +kernel
theorem dX8_filed_1 : decode cX8_filed 1 = .ok (.invokestatic 140, 3) := by decide +kernel
theorem dX8_filed_4 : decode cX8_filed 4 = .ok (.ifCond .ne 5, 3) := by decide +kernel
theorem dX8_filed_7 : decode cX8_filed 7 = .ok (.iconst (-1), 1) := by decide +kernel
theorem dX8_filed_8 : decode cX8_filed 8 = .ok (.ireturn, 1) := by decide +kernel
theorem dX8_filed_9 : decode cX8_filed 9 = .ok (.aload_n 0, 1) := by decide +kernel
theorem dX8_filed_10 : decode cX8_filed 10 = .ok (.getfield 221, 3) := by decide +kernel
theorem dX8_filed_13 : decode cX8_filed 13 = .ok (.ifCond .ne 6, 3) := by decide +kernel
theorem dX8_filed_16 : decode cX8_filed 16 = .ok (.bipush (-4), 2) := by decide +kernel
theorem dX8_filed_18 : decode cX8_filed 18 = .ok (.ireturn, 1) := by decide +kernel
theorem dX8_filed_19 : decode cX8_filed 19 = .ok (.aload_n 0, 1) := by decide +kernel
theorem dX8_filed_20 : decode cX8_filed 20 = .ok (.getfield 13, 3) := by decide +kernel
theorem dX8_filed_23 : decode cX8_filed 23 = .ok (.iload_n 1, 1) := by decide +kernel
theorem dX8_filed_24 : decode cX8_filed 24 = .ok (.iaload, 1) := by decide +kernel
theorem dX8_filed_25 : decode cX8_filed 25 = .ok (.ifCond .ge 9, 3) := by decide +kernel
theorem dX8_filed_28 : decode cX8_filed 28 = .ok (.aload_n 0, 1) := by decide +kernel
theorem dX8_filed_29 : decode cX8_filed 29 = .ok (.iconst 1, 1) := by decide +kernel
theorem dX8_filed_30 : decode cX8_filed 30 = .ok (.invokevirtual 144, 3) := by decide +kernel
theorem dX8_filed_33 : decode cX8_filed 33 = .ok (.ireturn, 1) := by decide +kernel
theorem dX8_filed_34 : decode cX8_filed 34 = .ok (.aload_n 0, 1) := by decide +kernel
theorem dX8_filed_35 : decode cX8_filed 35 = .ok (.getfield 13, 3) := by decide +kernel
theorem dX8_filed_38 : decode cX8_filed 38 = .ok (.iload_n 1, 1) := by decide +kernel
theorem dX8_filed_39 : decode cX8_filed 39 = .ok (.iaload, 1) := by decide +kernel
theorem dX8_filed_40 : decode cX8_filed 40 = .ok (.aload_n 0, 1) := by decide +kernel
theorem dX8_filed_41 : decode cX8_filed 41 = .ok (.getfield 221, 3) := by decide +kernel
theorem dX8_filed_44 : decode cX8_filed 44 = .ok (.irem, 1) := by decide +kernel
theorem dX8_filed_45 : decode cX8_filed 45 = .ok (.ifCond .ne 19, 3) := by decide +kernel
theorem dX8_filed_48 : decode cX8_filed 48 = .ok (.aload_n 0, 1) := by decide +kernel
theorem dX8_filed_49 : decode cX8_filed 49 = .ok (.getfield 13, 3) := by decide +kernel
theorem dX8_filed_52 : decode cX8_filed 52 = .ok (.iload_n 1, 1) := by decide +kernel
theorem dX8_filed_53 : decode cX8_filed 53 = .ok (.iaload, 1) := by decide +kernel
theorem dX8_filed_54 : decode cX8_filed 54 = .ok (.aload_n 0, 1) := by decide +kernel
theorem dX8_filed_55 : decode cX8_filed 55 = .ok (.getfield 221, 3) := by decide +kernel
theorem dX8_filed_58 : decode cX8_filed 58 = .ok (.idiv, 1) := by decide +kernel
theorem dX8_filed_59 : decode cX8_filed 59 = .ok (.bipush 8, 2) := by decide +kernel
theorem dX8_filed_61 : decode cX8_filed 61 = .ok (.if_icmp .le 9, 3) := by decide +kernel
theorem dX8_filed_64 : decode cX8_filed 64 = .ok (.aload_n 0, 1) := by decide +kernel
theorem dX8_filed_65 : decode cX8_filed 65 = .ok (.iconst 5, 1) := by decide +kernel
theorem dX8_filed_66 : decode cX8_filed 66 = .ok (.invokevirtual 144, 3) := by decide +kernel
theorem dX8_filed_69 : decode cX8_filed 69 = .ok (.ireturn, 1) := by decide +kernel
theorem dX8_filed_70 : decode cX8_filed 70 = .ok (.iconst 1, 1) := by decide +kernel
theorem dX8_filed_71 : decode cX8_filed 71 = .ok (.istore_n 2, 1) := by decide +kernel
theorem dX8_filed_72 : decode cX8_filed 72 = .ok (.iconst 0, 1) := by decide +kernel
theorem dX8_filed_73 : decode cX8_filed 73 = .ok (.istore_n 3, 1) := by decide +kernel
theorem dX8_filed_74 : decode cX8_filed 74 = .ok (.iload_n 3, 1) := by decide +kernel
theorem dX8_filed_75 : decode cX8_filed 75 = .ok (.aload_n 0, 1) := by decide +kernel
theorem dX8_filed_76 : decode cX8_filed 76 = .ok (.getfield 13, 3) := by decide +kernel
theorem dX8_filed_79 : decode cX8_filed 79 = .ok (.iload_n 1, 1) := by decide +kernel
theorem dX8_filed_80 : decode cX8_filed 80 = .ok (.iaload, 1) := by decide +kernel
theorem dX8_filed_81 : decode cX8_filed 81 = .ok (.if_icmp .ge 32, 3) := by decide +kernel
theorem dX8_filed_84 : decode cX8_filed 84 = .ok (.iload_n 2, 1) := by decide +kernel
theorem dX8_filed_85 : decode cX8_filed 85 = .ok (.ifCond .eq 20, 3) := by decide +kernel
theorem dX8_filed_88 : decode cX8_filed 88 = .ok (.aload_n 0, 1) := by decide +kernel
theorem dX8_filed_89 : decode cX8_filed 89 = .ok (.aload_n 0, 1) := by decide +kernel
theorem dX8_filed_90 : decode cX8_filed 90 = .ok (.iload_n 1, 1) := by decide +kernel
theorem dX8_filed_91 : decode cX8_filed 91 = .ok (.iload_n 3, 1) := by decide +kernel
theorem dX8_filed_92 : decode cX8_filed 92 = .ok (.invokevirtual 148, 3) := by decide +kernel
theorem dX8_filed_95 : decode cX8_filed 95 = .ok (.invokevirtual 323, 3) := by decide +kernel
theorem dX8_filed_98 : decode cX8_filed 98 = .ok (.ifCond .eq 7, 3) := by decide +kernel
theorem dX8_filed_101 : decode cX8_filed 101 = .ok (.iconst 1, 1) := by decide +kernel
theorem dX8_filed_102 : decode cX8_filed 102 = .ok (.goto 4, 3) := by decide +kernel
theorem dX8_filed_105 : decode cX8_filed 105 = .ok (.iconst 0, 1) := by decide +kernel
theorem dX8_filed_106 : decode cX8_filed 106 = .ok (.istore_n 2, 1) := by decide +kernel
theorem dX8_filed_107 : decode cX8_filed 107 = .ok (.iinc 3 1, 3) := by decide +kernel
theorem dX8_filed_110 : decode cX8_filed 110 = .ok (.goto (-36), 3) := by decide +kernel
theorem dX8_filed_113 : decode cX8_filed 113 = .ok (.iload_n 2, 1) := by decide +kernel
theorem dX8_filed_114 : decode cX8_filed 114 = .ok (.ifCond .ne 9, 3) := by decide +kernel
theorem dX8_filed_117 : decode cX8_filed 117 = .ok (.aload_n 0, 1) := by decide +kernel
theorem dX8_filed_118 : decode cX8_filed 118 = .ok (.iconst 3, 1) := by decide +kernel
theorem dX8_filed_119 : decode cX8_filed 119 = .ok (.invokevirtual 144, 3) := by decide +kernel
theorem dX8_filed_122 : decode cX8_filed 122 = .ok (.ireturn, 1) := by decide +kernel
theorem dX8_filed_123 : decode cX8_filed 123 = .ok (.iconst 0, 1) := by decide +kernel
theorem dX8_filed_124 : decode cX8_filed 124 = .ok (.istore_n 3, 1) := by decide +kernel
theorem dX8_filed_125 : decode cX8_filed 125 = .ok (.iconst 0, 1) := by decide +kernel
theorem dX8_filed_126 : decode cX8_filed 126 = .ok (.istore 4, 2) := by decide +kernel
theorem dX8_filed_128 : decode cX8_filed 128 = .ok (.iload 4, 2) := by decide +kernel
theorem dX8_filed_130 : decode cX8_filed 130 = .ok (.aload_n 0, 1) := by decide +kernel
theorem dX8_filed_131 : decode cX8_filed 131 = .ok (.getfield 13, 3) := by decide +kernel
theorem dX8_filed_134 : decode cX8_filed 134 = .ok (.iload_n 1, 1) := by decide +kernel
theorem dX8_filed_135 : decode cX8_filed 135 = .ok (.iaload, 1) := by decide +kernel
theorem dX8_filed_136 : decode cX8_filed 136 = .ok (.aload_n 0, 1) := by decide +kernel
theorem dX8_filed_137 : decode cX8_filed 137 = .ok (.getfield 221, 3) := by decide +kernel
theorem dX8_filed_140 : decode cX8_filed 140 = .ok (.idiv, 1) := by decide +kernel
theorem dX8_filed_141 : decode cX8_filed 141 = .ok (.if_icmp .ge 87, 3) := by decide +kernel
theorem dX8_filed_144 : decode cX8_filed 144 = .ok (.iconst 0, 1) := by decide +kernel
theorem dX8_filed_145 : decode cX8_filed 145 = .ok (.istore 5, 2) := by decide +kernel
theorem dX8_filed_147 : decode cX8_filed 147 = .ok (.iload 5, 2) := by decide +kernel
theorem dX8_filed_149 : decode cX8_filed 149 = .ok (.aload_n 0, 1) := by decide +kernel
theorem dX8_filed_150 : decode cX8_filed 150 = .ok (.getfield 221, 3) := by decide +kernel
theorem dX8_filed_153 : decode cX8_filed 153 = .ok (.if_icmp .ge 31, 3) := by decide +kernel
theorem dX8_filed_156 : decode cX8_filed 156 = .ok (.aload_n 0, 1) := by decide +kernel
theorem dX8_filed_157 : decode cX8_filed 157 = .ok (.getfield 56, 3) := by decide +kernel
theorem dX8_filed_160 : decode cX8_filed 160 = .ok (.iload 5, 2) := by decide +kernel
theorem dX8_filed_162 : decode cX8_filed 162 = .ok (.aload_n 0, 1) := by decide +kernel
theorem dX8_filed_163 : decode cX8_filed 163 = .ok (.iload_n 1, 1) := by decide +kernel
theorem dX8_filed_164 : decode cX8_filed 164 = .ok (.aload_n 0, 1) := by decide +kernel
theorem dX8_filed_165 : decode cX8_filed 165 = .ok (.getfield 221, 3) := by decide +kernel
theorem dX8_filed_168 : decode cX8_filed 168 = .ok (.iload 4, 2) := by decide +kernel
theorem dX8_filed_170 : decode cX8_filed 170 = .ok (.imul, 1) := by decide +kernel
theorem dX8_filed_171 : decode cX8_filed 171 = .ok (.iload 5, 2) := by decide +kernel
theorem dX8_filed_173 : decode cX8_filed 173 = .ok (.iadd, 1) := by decide +kernel
theorem dX8_filed_174 : decode cX8_filed 174 = .ok (.invokevirtual 148, 3) := by decide +kernel
theorem dX8_filed_177 : decode cX8_filed 177 = .ok (.iastore, 1) := by decide +kernel
theorem dX8_filed_178 : decode cX8_filed 178 = .ok (.iinc 5 1, 3) := by decide +kernel
theorem dX8_filed_181 : decode cX8_filed 181 = .ok (.goto (-34), 3) := by decide +kernel
theorem dX8_filed_184 : decode cX8_filed 184 = .ok (.iconst 0, 1) := by decide +kernel
theorem dX8_filed_185 : decode cX8_filed 185 = .ok (.istore 5, 2) := by decide +kernel
theorem dX8_filed_187 : decode cX8_filed 187 = .ok (.iload 5, 2) := by decide +kernel
theorem dX8_filed_189 : decode cX8_filed 189 = .ok (.aload_n 0, 1) := by decide +kernel
theorem dX8_filed_190 : decode cX8_filed 190 = .ok (.getfield 227, 3) := by decide +kernel
theorem dX8_filed_193 : decode cX8_filed 193 = .ok (.if_icmp .ge 29, 3) := by decide +kernel
theorem dX8_filed_196 : decode cX8_filed 196 = .ok (.iload_n 3, 1) := by decide +kernel
theorem dX8_filed_197 : decode cX8_filed 197 = .ok (.aload_n 0, 1) := by decide +kernel
theorem dX8_filed_198 : decode cX8_filed 198 = .ok (.iload 5, 2) := by decide +kernel
theorem dX8_filed_200 : decode cX8_filed 200 = .ok (.invokevirtual 252, 3) := by decide +kernel
theorem dX8_filed_203 : decode cX8_filed 203 = .ok (.ifCond .eq 7, 3) := by decide +kernel
theorem dX8_filed_206 : decode cX8_filed 206 = .ok (.iconst 0, 1) := by decide +kernel
theorem dX8_filed_207 : decode cX8_filed 207 = .ok (.goto 7, 3) := by decide +kernel
theorem dX8_filed_210 : decode cX8_filed 210 = .ok (.iconst 1, 1) := by decide +kernel
theorem dX8_filed_211 : decode cX8_filed 211 = .ok (.iload 5, 2) := by decide +kernel
theorem dX8_filed_213 : decode cX8_filed 213 = .ok (.ishl, 1) := by decide +kernel
theorem dX8_filed_214 : decode cX8_filed 214 = .ok (.ior, 1) := by decide +kernel
theorem dX8_filed_215 : decode cX8_filed 215 = .ok (.istore_n 3, 1) := by decide +kernel
theorem dX8_filed_216 : decode cX8_filed 216 = .ok (.iinc 5 1, 3) := by decide +kernel
theorem dX8_filed_219 : decode cX8_filed 219 = .ok (.goto (-32), 3) := by decide +kernel
theorem dX8_filed_222 : decode cX8_filed 222 = .ok (.iinc 4 1, 3) := by decide +kernel
theorem dX8_filed_225 : decode cX8_filed 225 = .ok (.goto (-97), 3) := by decide +kernel
theorem dX8_filed_228 : decode cX8_filed 228 = .ok (.iconst 0, 1) := by decide +kernel
theorem dX8_filed_229 : decode cX8_filed 229 = .ok (.istore 4, 2) := by decide +kernel
theorem dX8_filed_231 : decode cX8_filed 231 = .ok (.iconst 0, 1) := by decide +kernel
theorem dX8_filed_232 : decode cX8_filed 232 = .ok (.istore 5, 2) := by decide +kernel
theorem dX8_filed_234 : decode cX8_filed 234 = .ok (.iload 5, 2) := by decide +kernel
theorem dX8_filed_236 : decode cX8_filed 236 = .ok (.aload_n 0, 1) := by decide +kernel
theorem dX8_filed_237 : decode cX8_filed 237 = .ok (.getfield 227, 3) := by decide +kernel
theorem dX8_filed_240 : decode cX8_filed 240 = .ok (.if_icmp .ge 43, 3) := by decide +kernel
theorem dX8_filed_243 : decode cX8_filed 243 = .ok (.iload 4, 2) := by decide +kernel
theorem dX8_filed_245 : decode cX8_filed 245 = .ok (.aload_n 0, 1) := by decide +kernel
theorem dX8_filed_246 : decode cX8_filed 246 = .ok (.getfield 41, 3) := by decide +kernel
theorem dX8_filed_249 : decode cX8_filed 249 = .ok (.iload 5, 2) := by decide +kernel
theorem dX8_filed_251 : decode cX8_filed 251 = .ok (.iaload, 1) := by decide +kernel
theorem dX8_filed_252 : decode cX8_filed 252 = .ok (.ifCond .ne 21, 3) := by decide +kernel
theorem dX8_filed_255 : decode cX8_filed 255 = .ok (.iload_n 3, 1) := by decide +kernel
theorem dX8_filed_256 : decode cX8_filed 256 = .ok (.iconst 1, 1) := by decide +kernel
theorem dX8_filed_257 : decode cX8_filed 257 = .ok (.iload 5, 2) := by decide +kernel
theorem dX8_filed_259 : decode cX8_filed 259 = .ok (.ishl, 1) := by decide +kernel
theorem dX8_filed_260 : decode cX8_filed 260 = .ok (.iconst (-1), 1) := by decide +kernel
theorem dX8_filed_261 : decode cX8_filed 261 = .ok (.ixor, 1) := by decide +kernel
theorem dX8_filed_262 : decode cX8_filed 262 = .ok (.iand, 1) := by decide +kernel
theorem dX8_filed_263 : decode cX8_filed 263 = .ok (.ifCond .ne 10, 3) := by decide +kernel
theorem dX8_filed_266 : decode cX8_filed 266 = .ok (.iconst 1, 1) := by decide +kernel
theorem dX8_filed_267 : decode cX8_filed 267 = .ok (.iload 5, 2) := by decide +kernel
theorem dX8_filed_269 : decode cX8_filed 269 = .ok (.ishl, 1) := by decide +kernel
theorem dX8_filed_270 : decode cX8_filed 270 = .ok (.goto 4, 3) := by decide +kernel
theorem dX8_filed_273 : decode cX8_filed 273 = .ok (.iconst 0, 1) := by decide +kernel
theorem dX8_filed_274 : decode cX8_filed 274 = .ok (.ior, 1) := by decide +kernel
theorem dX8_filed_275 : decode cX8_filed 275 = .ok (.istore 4, 2) := by decide +kernel
theorem dX8_filed_277 : decode cX8_filed 277 = .ok (.iinc 5 1, 3) := by decide +kernel
theorem dX8_filed_280 : decode cX8_filed 280 = .ok (.goto (-46), 3) := by decide +kernel
theorem dX8_filed_283 : decode cX8_filed 283 = .ok (.aload_n 0, 1) := by decide +kernel
theorem dX8_filed_284 : decode cX8_filed 284 = .ok (.iload_n 3, 1) := by decide +kernel
theorem dX8_filed_285 : decode cX8_filed 285 = .ok (.ifCond .ne 7, 3) := by decide +kernel
theorem dX8_filed_288 : decode cX8_filed 288 = .ok (.iconst 1, 1) := by decide +kernel
theorem dX8_filed_289 : decode cX8_filed 289 = .ok (.goto 4, 3) := by decide +kernel
theorem dX8_filed_292 : decode cX8_filed 292 = .ok (.iconst 0, 1) := by decide +kernel
theorem dX8_filed_293 : decode cX8_filed 293 = .ok (.iload 4, 2) := by decide +kernel
theorem dX8_filed_295 : decode cX8_filed 295 = .ok (.invokevirtual 152, 3) := by decide +kernel
theorem dX8_filed_298 : decode cX8_filed 298 = .ok (.ireturn, 1) := by decide +kernel
theorem dX8_judge_0 : decode cX8_judge 0 = .ok (.iload_n 1, 1) := by decide +kernel
theorem dX8_judge_1 : decode cX8_judge 1 = .ok (.invokestatic 140, 3) := by decide +kernel
theorem dX8_judge_4 : decode cX8_judge 4 = .ok (.ifCond .ne 5, 3) := by decide +kernel
theorem dX8_judge_7 : decode cX8_judge 7 = .ok (.iconst (-1), 1) := by decide +kernel
theorem dX8_judge_8 : decode cX8_judge 8 = .ok (.ireturn, 1) := by decide +kernel
theorem dX8_judge_9 : decode cX8_judge 9 = .ok (.aload_n 0, 1) := by decide +kernel
theorem dX8_judge_10 : decode cX8_judge 10 = .ok (.getfield 221, 3) := by decide +kernel
theorem dX8_judge_13 : decode cX8_judge 13 = .ok (.ifCond .ne 6, 3) := by decide +kernel
theorem dX8_judge_16 : decode cX8_judge 16 = .ok (.bipush (-4), 2) := by decide +kernel
theorem dX8_judge_18 : decode cX8_judge 18 = .ok (.ireturn, 1) := by decide +kernel
theorem dX8_judge_19 : decode cX8_judge 19 = .ok (.aload_n 0, 1) := by decide +kernel
theorem dX8_judge_20 : decode cX8_judge 20 = .ok (.getfield 13, 3) := by decide +kernel
theorem dX8_judge_23 : decode cX8_judge 23 = .ok (.iload_n 1, 1) := by decide +kernel
theorem dX8_judge_24 : decode cX8_judge 24 = .ok (.iaload, 1) := by decide +kernel
theorem dX8_judge_25 : decode cX8_judge 25 = .ok (.ifCond .ge 9, 3) := by decide +kernel
theorem dX8_judge_28 : decode cX8_judge 28 = .ok (.aload_n 0, 1) := by decide +kernel
theorem dX8_judge_29 : decode cX8_judge 29 = .ok (.iconst 1, 1) := by decide +kernel
theorem dX8_judge_30 : decode cX8_judge 30 = .ok (.invokevirtual 144, 3) := by decide +kernel
theorem dX8_judge_33 : decode cX8_judge 33 = .ok (.ireturn, 1) := by decide +kernel
theorem dX8_judge_34 : decode cX8_judge 34 = .ok (.iconst 1, 1) := by decide +kernel
theorem dX8_judge_35 : decode cX8_judge 35 = .ok (.istore_n 2, 1) := by decide +kernel
theorem dX8_judge_36 : decode cX8_judge 36 = .ok (.iconst 0, 1) := by decide +kernel
theorem dX8_judge_37 : decode cX8_judge 37 = .ok (.istore_n 3, 1) := by decide +kernel
theorem dX8_judge_38 : decode cX8_judge 38 = .ok (.iload_n 3, 1) := by decide +kernel
theorem dX8_judge_39 : decode cX8_judge 39 = .ok (.aload_n 0, 1) := by decide +kernel
theorem dX8_judge_40 : decode cX8_judge 40 = .ok (.getfield 13, 3) := by decide +kernel
theorem dX8_judge_43 : decode cX8_judge 43 = .ok (.iload_n 1, 1) := by decide +kernel
theorem dX8_judge_44 : decode cX8_judge 44 = .ok (.iaload, 1) := by decide +kernel
theorem dX8_judge_45 : decode cX8_judge 45 = .ok (.if_icmp .ge 53, 3) := by decide +kernel
theorem dX8_judge_48 : decode cX8_judge 48 = .ok (.aload_n 0, 1) := by decide +kernel
theorem dX8_judge_49 : decode cX8_judge 49 = .ok (.iload_n 1, 1) := by decide +kernel
theorem dX8_judge_50 : decode cX8_judge 50 = .ok (.iload_n 3, 1) := by decide +kernel
theorem dX8_judge_51 : decode cX8_judge 51 = .ok (.invokevirtual 148, 3) := by decide +kernel
theorem dX8_judge_54 : decode cX8_judge 54 = .ok (.istore 4, 2) := by decide +kernel
theorem dX8_judge_56 : decode cX8_judge 56 = .ok (.iload_n 2, 1) := by decide +kernel
theorem dX8_judge_57 : decode cX8_judge 57 = .ok (.ifCond .eq 33, 3) := by decide +kernel
theorem dX8_judge_60 : decode cX8_judge 60 = .ok (.iload 4, 2) := by decide +kernel
theorem dX8_judge_62 : decode cX8_judge 62 = .ok (.ifCond .lt 28, 3) := by decide +kernel
theorem dX8_judge_65 : decode cX8_judge 65 = .ok (.aload_n 0, 1) := by decide +kernel
theorem dX8_judge_66 : decode cX8_judge 66 = .ok (.iload 4, 2) := by decide +kernel
theorem dX8_judge_68 : decode cX8_judge 68 = .ok (.bipush 10, 2) := by decide +kernel
theorem dX8_judge_70 : decode cX8_judge 70 = .ok (.idiv, 1) := by decide +kernel
theorem dX8_judge_71 : decode cX8_judge 71 = .ok (.invokevirtual 287, 3) := by decide +kernel
theorem dX8_judge_74 : decode cX8_judge 74 = .ok (.ifCond .eq 16, 3) := by decide +kernel
theorem dX8_judge_77 : decode cX8_judge 77 = .ok (.iload 4, 2) := by decide +kernel
theorem dX8_judge_79 : decode cX8_judge 79 = .ok (.bipush 10, 2) := by decide +kernel
theorem dX8_judge_81 : decode cX8_judge 81 = .ok (.irem, 1) := by decide +kernel
theorem dX8_judge_82 : decode cX8_judge 82 = .ok (.iconst 4, 1) := by decide +kernel
theorem dX8_judge_83 : decode cX8_judge 83 = .ok (.if_icmp .ge 7, 3) := by decide +kernel
theorem dX8_judge_86 : decode cX8_judge 86 = .ok (.iconst 1, 1) := by decide +kernel
theorem dX8_judge_87 : decode cX8_judge 87 = .ok (.goto 4, 3) := by decide +kernel
theorem dX8_judge_90 : decode cX8_judge 90 = .ok (.iconst 0, 1) := by decide +kernel
theorem dX8_judge_91 : decode cX8_judge 91 = .ok (.istore_n 2, 1) := by decide +kernel
theorem dX8_judge_92 : decode cX8_judge 92 = .ok (.iinc 3 1, 3) := by decide +kernel
theorem dX8_judge_95 : decode cX8_judge 95 = .ok (.goto (-57), 3) := by decide +kernel
theorem dX8_judge_98 : decode cX8_judge 98 = .ok (.iload_n 2, 1) := by decide +kernel
theorem dX8_judge_99 : decode cX8_judge 99 = .ok (.ifCond .ne 9, 3) := by decide +kernel
theorem dX8_judge_102 : decode cX8_judge 102 = .ok (.aload_n 0, 1) := by decide +kernel
theorem dX8_judge_103 : decode cX8_judge 103 = .ok (.iconst 3, 1) := by decide +kernel
theorem dX8_judge_104 : decode cX8_judge 104 = .ok (.invokevirtual 144, 3) := by decide +kernel
theorem dX8_judge_107 : decode cX8_judge 107 = .ok (.ireturn, 1) := by decide +kernel
theorem dX8_judge_108 : decode cX8_judge 108 = .ok (.aload_n 0, 1) := by decide +kernel
theorem dX8_judge_109 : decode cX8_judge 109 = .ok (.invokevirtual 293, 3) := by decide +kernel
theorem dX8_judge_112 : decode cX8_judge 112 = .ok (.iconst 0, 1) := by decide +kernel
theorem dX8_judge_113 : decode cX8_judge 113 = .ok (.istore_n 3, 1) := by decide +kernel
theorem dX8_judge_114 : decode cX8_judge 114 = .ok (.iload_n 3, 1) := by decide +kernel
theorem dX8_judge_115 : decode cX8_judge 115 = .ok (.aload_n 0, 1) := by decide +kernel
theorem dX8_judge_116 : decode cX8_judge 116 = .ok (.getfield 13, 3) := by decide +kernel
theorem dX8_judge_119 : decode cX8_judge 119 = .ok (.iload_n 1, 1) := by decide +kernel
theorem dX8_judge_120 : decode cX8_judge 120 = .ok (.iaload, 1) := by decide +kernel
theorem dX8_judge_121 : decode cX8_judge 121 = .ok (.if_icmp .ge 34, 3) := by decide +kernel
theorem dX8_judge_124 : decode cX8_judge 124 = .ok (.aload_n 0, 1) := by decide +kernel
theorem dX8_judge_125 : decode cX8_judge 125 = .ok (.aload_n 0, 1) := by decide +kernel
theorem dX8_judge_126 : decode cX8_judge 126 = .ok (.iload_n 1, 1) := by decide +kernel
theorem dX8_judge_127 : decode cX8_judge 127 = .ok (.iload_n 3, 1) := by decide +kernel
theorem dX8_judge_128 : decode cX8_judge 128 = .ok (.invokevirtual 148, 3) := by decide +kernel
theorem dX8_judge_131 : decode cX8_judge 131 = .ok (.bipush 10, 2) := by decide +kernel
theorem dX8_judge_133 : decode cX8_judge 133 = .ok (.idiv, 1) := by decide +kernel
theorem dX8_judge_134 : decode cX8_judge 134 = .ok (.aload_n 0, 1) := by decide +kernel
theorem dX8_judge_135 : decode cX8_judge 135 = .ok (.iload_n 1, 1) := by decide +kernel
theorem dX8_judge_136 : decode cX8_judge 136 = .ok (.iload_n 3, 1) := by decide +kernel
theorem dX8_judge_137 : decode cX8_judge 137 = .ok (.invokevirtual 148, 3) := by decide +kernel
theorem dX8_judge_140 : decode cX8_judge 140 = .ok (.bipush 10, 2) := by decide +kernel
theorem dX8_judge_142 : decode cX8_judge 142 = .ok (.irem, 1) := by decide +kernel
theorem dX8_judge_143 : decode cX8_judge 143 = .ok (.invokevirtual 317, 3) := by decide +kernel
theorem dX8_judge_146 : decode cX8_judge 146 = .ok (.ifCond .eq 9, 3) := by decide +kernel
theorem dX8_judge_149 : decode cX8_judge 149 = .ok (.iinc 3 1, 3) := by decide +kernel
theorem dX8_judge_152 : decode cX8_judge 152 = .ok (.goto (-38), 3) := by decide +kernel
theorem dX8_judge_155 : decode cX8_judge 155 = .ok (.iconst 0, 1) := by decide +kernel
theorem dX8_judge_156 : decode cX8_judge 156 = .ok (.istore 4, 2) := by decide +kernel
theorem dX8_judge_158 : decode cX8_judge 158 = .ok (.iconst 0, 1) := by decide +kernel
theorem dX8_judge_159 : decode cX8_judge 159 = .ok (.istore 5, 2) := by decide +kernel
theorem dX8_judge_161 : decode cX8_judge 161 = .ok (.iload 5, 2) := by decide +kernel
theorem dX8_judge_163 : decode cX8_judge 163 = .ok (.aload_n 0, 1) := by decide +kernel
theorem dX8_judge_164 : decode cX8_judge 164 = .ok (.getfield 227, 3) := by decide +kernel
theorem dX8_judge_167 : decode cX8_judge 167 = .ok (.if_icmp .ge 20, 3) := by decide +kernel
theorem dX8_judge_170 : decode cX8_judge 170 = .ok (.iload 4, 2) := by decide +kernel
theorem dX8_judge_172 : decode cX8_judge 172 = .ok (.aload_n 0, 1) := by decide +kernel
theorem dX8_judge_173 : decode cX8_judge 173 = .ok (.iload 5, 2) := by decide +kernel
theorem dX8_judge_175 : decode cX8_judge 175 = .ok (.invokevirtual 246, 3) := by decide +kernel
theorem dX8_judge_178 : decode cX8_judge 178 = .ok (.iadd, 1) := by decide +kernel
theorem dX8_judge_179 : decode cX8_judge 179 = .ok (.istore 4, 2) := by decide +kernel
theorem dX8_judge_181 : decode cX8_judge 181 = .ok (.iinc 5 1, 3) := by decide +kernel
theorem dX8_judge_184 : decode cX8_judge 184 = .ok (.goto (-23), 3) := by decide +kernel
theorem dX8_judge_187 : decode cX8_judge 187 = .ok (.aload_n 0, 1) := by decide +kernel
theorem dX8_judge_188 : decode cX8_judge 188 = .ok (.iload 4, 2) := by decide +kernel
theorem dX8_judge_190 : decode cX8_judge 190 = .ok (.iload_n 3, 1) := by decide +kernel
theorem dX8_judge_191 : decode cX8_judge 191 = .ok (.invokevirtual 152, 3) := by decide +kernel
theorem dX8_judge_194 : decode cX8_judge 194 = .ok (.ireturn, 1) := by decide +kernel
theorem dX8_quarrel_0 : decode cX8_quarrel 0 = .ok (.aload_n 0, 1) := by decide +kernel
theorem dX8_quarrel_1 : decode cX8_quarrel 1 = .ok (.iload_n 1, 1) := by decide +kernel
theorem dX8_quarrel_2 : decode cX8_quarrel 2 = .ok (.invokevirtual 287, 3) := by decide +kernel
theorem dX8_quarrel_5 : decode cX8_quarrel 5 = .ok (.ifCond .eq 16, 3) := by decide +kernel
theorem dX8_quarrel_8 : decode cX8_quarrel 8 = .ok (.aload_n 0, 1) := by decide +kernel
theorem dX8_quarrel_9 : decode cX8_quarrel 9 = .ok (.iload_n 2, 1) := by decide +kernel
theorem dX8_quarrel_10 : decode cX8_quarrel 10 = .ok (.invokevirtual 287, 3) := by decide +kernel
theorem dX8_quarrel_13 : decode cX8_quarrel 13 = .ok (.ifCond .eq 8, 3) := by decide +kernel
theorem dX8_quarrel_16 : decode cX8_quarrel 16 = .ok (.iload_n 1, 1) := by decide +kernel
theorem dX8_quarrel_17 : decode cX8_quarrel 17 = .ok (.iload_n 2, 1) := by decide +kernel
theorem dX8_quarrel_18 : decode cX8_quarrel 18 = .ok (.if_icmp .ne 5, 3) := by decide +kernel
theorem dX8_quarrel_21 : decode cX8_quarrel 21 = .ok (.iconst (-1), 1) := by decide +kernel
theorem dX8_quarrel_22 : decode cX8_quarrel 22 = .ok (.ireturn, 1) := by decide +kernel
theorem dX8_quarrel_23 : decode cX8_quarrel 23 = .ok (.aload_n 0, 1) := by decide +kernel
theorem dX8_quarrel_24 : decode cX8_quarrel 24 = .ok (.getfield 236, 3) := by decide +kernel
theorem dX8_quarrel_27 : decode cX8_quarrel 27 = .ok (.bipush 8, 2) := by decide +kernel
theorem dX8_quarrel_29 : decode cX8_quarrel 29 = .ok (.if_icmp .ne 6, 3) := by decide +kernel
theorem dX8_quarrel_32 : decode cX8_quarrel 32 = .ok (.bipush (-2), 2) := by decide +kernel
theorem dX8_quarrel_34 : decode cX8_quarrel 34 = .ok (.ireturn, 1) := by decide +kernel
theorem dX8_quarrel_35 : decode cX8_quarrel 35 = .ok (.aload_n 0, 1) := by decide +kernel
theorem dX8_quarrel_36 : decode cX8_quarrel 36 = .ok (.getfield 117, 3) := by decide +kernel
theorem dX8_quarrel_39 : decode cX8_quarrel 39 = .ok (.aload_n 0, 1) := by decide +kernel
theorem dX8_quarrel_40 : decode cX8_quarrel 40 = .ok (.getfield 236, 3) := by decide +kernel
theorem dX8_quarrel_43 : decode cX8_quarrel 43 = .ok (.iload_n 1, 1) := by decide +kernel
theorem dX8_quarrel_44 : decode cX8_quarrel 44 = .ok (.iastore, 1) := by decide +kernel
theorem dX8_quarrel_45 : decode cX8_quarrel 45 = .ok (.aload_n 0, 1) := by decide +kernel
theorem dX8_quarrel_46 : decode cX8_quarrel 46 = .ok (.getfield 120, 3) := by decide +kernel
theorem dX8_quarrel_49 : decode cX8_quarrel 49 = .ok (.aload_n 0, 1) := by decide +kernel
theorem dX8_quarrel_50 : decode cX8_quarrel 50 = .ok (.getfield 236, 3) := by decide +kernel
theorem dX8_quarrel_53 : decode cX8_quarrel 53 = .ok (.iload_n 2, 1) := by decide +kernel
theorem dX8_quarrel_54 : decode cX8_quarrel 54 = .ok (.iastore, 1) := by decide +kernel
theorem dX8_quarrel_55 : decode cX8_quarrel 55 = .ok (.aload_n 0, 1) := by decide +kernel
theorem dX8_quarrel_56 : decode cX8_quarrel 56 = .ok (.dup, 1) := by decide +kernel
theorem dX8_quarrel_57 : decode cX8_quarrel 57 = .ok (.getfield 236, 3) := by decide +kernel
theorem dX8_quarrel_60 : decode cX8_quarrel 60 = .ok (.iconst 1, 1) := by decide +kernel
theorem dX8_quarrel_61 : decode cX8_quarrel 61 = .ok (.iadd, 1) := by decide +kernel
theorem dX8_quarrel_62 : decode cX8_quarrel 62 = .ok (.putfield 236, 3) := by decide +kernel
theorem dX8_quarrel_65 : decode cX8_quarrel 65 = .ok (.aload_n 0, 1) := by decide +kernel
theorem dX8_quarrel_66 : decode cX8_quarrel 66 = .ok (.getfield 236, 3) := by decide +kernel
theorem dX8_quarrel_69 : decode cX8_quarrel 69 = .ok (.iconst 1, 1) := by decide +kernel
theorem dX8_quarrel_70 : decode cX8_quarrel 70 = .ok (.isub, 1) := by decide +kernel
theorem dX8_quarrel_71 : decode cX8_quarrel 71 = .ok (.ireturn, 1) := by decide +kernel
theorem dX8_peace_0 : decode cX8_peace 0 = .ok (.iload_n 1, 1) := by decide +kernel
theorem dX8_peace_1 : decode cX8_peace 1 = .ok (.iconst 0, 1) := by decide +kernel
theorem dX8_peace_2 : decode cX8_peace 2 = .ok (.aload_n 0, 1) := by decide +kernel
theorem dX8_peace_3 : decode cX8_peace 3 = .ok (.getfield 236, 3) := by decide +kernel
theorem dX8_peace_6 : decode cX8_peace 6 = .ok (.invokestatic 133, 3) := by decide +kernel
theorem dX8_peace_9 : decode cX8_peace 9 = .ok (.ifCond .ne 5, 3) := by decide +kernel
theorem dX8_peace_12 : decode cX8_peace 12 = .ok (.iconst (-1), 1) := by decide +kernel
theorem dX8_peace_13 : decode cX8_peace 13 = .ok (.ireturn, 1) := by decide +kernel
theorem dX8_peace_14 : decode cX8_peace 14 = .ok (.aload_n 0, 1) := by decide +kernel
theorem dX8_peace_15 : decode cX8_peace 15 = .ok (.getfield 236, 3) := by decide +kernel
theorem dX8_peace_18 : decode cX8_peace 18 = .ok (.iload_n 1, 1) := by decide +kernel
theorem dX8_peace_19 : decode cX8_peace 19 = .ok (.isub, 1) := by decide +kernel
theorem dX8_peace_20 : decode cX8_peace 20 = .ok (.istore_n 2, 1) := by decide +kernel
theorem dX8_peace_21 : decode cX8_peace 21 = .ok (.aload_n 0, 1) := by decide +kernel
theorem dX8_peace_22 : decode cX8_peace 22 = .ok (.iload_n 1, 1) := by decide +kernel
theorem dX8_peace_23 : decode cX8_peace 23 = .ok (.putfield 236, 3) := by decide +kernel
theorem dX8_peace_26 : decode cX8_peace 26 = .ok (.iload_n 2, 1) := by decide +kernel
theorem dX8_peace_27 : decode cX8_peace 27 = .ok (.ireturn, 1) := by decide +kernel
theorem dX8_quarrelsNow_0 : decode cX8_quarrelsNow 0 = .ok (.iconst 0, 1) := by decide +kernel
theorem dX8_quarrelsNow_1 : decode cX8_quarrelsNow 1 = .ok (.istore_n 1, 1) := by decide +kernel
theorem dX8_quarrelsNow_2 : decode cX8_quarrelsNow 2 = .ok (.iconst 0, 1) := by decide +kernel
theorem dX8_quarrelsNow_3 : decode cX8_quarrelsNow 3 = .ok (.istore_n 2, 1) := by decide +kernel
theorem dX8_quarrelsNow_4 : decode cX8_quarrelsNow 4 = .ok (.iload_n 2, 1) := by decide +kernel
theorem dX8_quarrelsNow_5 : decode cX8_quarrelsNow 5 = .ok (.aload_n 0, 1) := by decide +kernel
theorem dX8_quarrelsNow_6 : decode cX8_quarrelsNow 6 = .ok (.getfield 236, 3) := by decide +kernel
theorem dX8_quarrelsNow_9 : decode cX8_quarrelsNow 9 = .ok (.if_icmp .ge 97, 3) := by decide +kernel
theorem dX8_quarrelsNow_12 : decode cX8_quarrelsNow 12 = .ok (.iconst 0, 1) := by decide +kernel
theorem dX8_quarrelsNow_13 : decode cX8_quarrelsNow 13 = .ok (.istore_n 3, 1) := by decide +kernel
theorem dX8_quarrelsNow_14 : decode cX8_quarrelsNow 14 = .ok (.iload_n 3, 1) := by decide +kernel
theorem dX8_quarrelsNow_15 : decode cX8_quarrelsNow 15 = .ok (.aload_n 0, 1) := by decide +kernel
theorem dX8_quarrelsNow_16 : decode cX8_quarrelsNow 16 = .ok (.getfield 227, 3) := by decide +kernel
theorem dX8_quarrelsNow_19 : decode cX8_quarrelsNow 19 = .ok (.if_icmp .ge 81, 3) := by decide +kernel
theorem dX8_quarrelsNow_22 : decode cX8_quarrelsNow 22 = .ok (.aload_n 0, 1) := by decide +kernel
theorem dX8_quarrelsNow_23 : decode cX8_quarrelsNow 23 = .ok (.getfield 123, 3) := by decide +kernel
theorem dX8_quarrelsNow_26 : decode cX8_quarrelsNow 26 = .ok (.iload_n 3, 1) := by decide +kernel
theorem dX8_quarrelsNow_27 : decode cX8_quarrelsNow 27 = .ok (.iaload, 1) := by decide +kernel
theorem dX8_quarrelsNow_28 : decode cX8_quarrelsNow 28 = .ok (.istore 4, 2) := by decide +kernel
theorem dX8_quarrelsNow_30 : decode cX8_quarrelsNow 30 = .ok (.aload_n 0, 1) := by decide +kernel
theorem dX8_quarrelsNow_31 : decode cX8_quarrelsNow 31 = .ok (.getfield 123, 3) := by decide +kernel
theorem dX8_quarrelsNow_34 : decode cX8_quarrelsNow 34 = .ok (.aload_n 0, 1) := by decide +kernel
theorem dX8_quarrelsNow_35 : decode cX8_quarrelsNow 35 = .ok (.iload_n 3, 1) := by decide +kernel
theorem dX8_quarrelsNow_36 : decode cX8_quarrelsNow 36 = .ok (.invokevirtual 243, 3) := by decide +kernel
theorem dX8_quarrelsNow_39 : decode cX8_quarrelsNow 39 = .ok (.iaload, 1) := by decide +kernel
theorem dX8_quarrelsNow_40 : decode cX8_quarrelsNow 40 = .ok (.istore 5, 2) := by decide +kernel
theorem dX8_quarrelsNow_42 : decode cX8_quarrelsNow 42 = .ok (.iload_n 1, 1) := by decide +kernel
theorem dX8_quarrelsNow_43 : decode cX8_quarrelsNow 43 = .ok (.aload_n 0, 1) := by decide +kernel
theorem dX8_quarrelsNow_44 : decode cX8_quarrelsNow 44 = .ok (.getfield 117, 3) := by decide +kernel
theorem dX8_quarrelsNow_47 : decode cX8_quarrelsNow 47 = .ok (.iload_n 2, 1) := by decide +kernel
theorem dX8_quarrelsNow_48 : decode cX8_quarrelsNow 48 = .ok (.iaload, 1) := by decide +kernel
theorem dX8_quarrelsNow_49 : decode cX8_quarrelsNow 49 = .ok (.iload 4, 2) := by decide +kernel
theorem dX8_quarrelsNow_51 : decode cX8_quarrelsNow 51 = .ok (.if_icmp .ne 14, 3) := by decide +kernel
theorem dX8_quarrelsNow_54 : decode cX8_quarrelsNow 54 = .ok (.aload_n 0, 1) := by decide +kernel
theorem dX8_quarrelsNow_55 : decode cX8_quarrelsNow 55 = .ok (.getfield 120, 3) := by decide +kernel
theorem dX8_quarrelsNow_58 : decode cX8_quarrelsNow 58 = .ok (.iload_n 2, 1) := by decide +kernel
theorem dX8_quarrelsNow_59 : decode cX8_quarrelsNow 59 = .ok (.iaload, 1) := by decide +kernel
theorem dX8_quarrelsNow_60 : decode cX8_quarrelsNow 60 = .ok (.iload 5, 2) := by decide +kernel
theorem dX8_quarrelsNow_62 : decode cX8_quarrelsNow 62 = .ok (.if_icmp .eq 25, 3) := by decide +kernel
theorem dX8_quarrelsNow_65 : decode cX8_quarrelsNow 65 = .ok (.aload_n 0, 1) := by decide +kernel
theorem dX8_quarrelsNow_66 : decode cX8_quarrelsNow 66 = .ok (.getfield 117, 3) := by decide +kernel
theorem dX8_quarrelsNow_69 : decode cX8_quarrelsNow 69 = .ok (.iload_n 2, 1) := by decide +kernel
theorem dX8_quarrelsNow_70 : decode cX8_quarrelsNow 70 = .ok (.iaload, 1) := by decide +kernel
theorem dX8_quarrelsNow_71 : decode cX8_quarrelsNow 71 = .ok (.iload 5, 2) := by decide +kernel
theorem dX8_quarrelsNow_73 : decode cX8_quarrelsNow 73 = .ok (.if_icmp .ne 18, 3) := by decide +kernel
theorem dX8_quarrelsNow_76 : decode cX8_quarrelsNow 76 = .ok (.aload_n 0, 1) := by decide +kernel
theorem dX8_quarrelsNow_77 : decode cX8_quarrelsNow 77 = .ok (.getfield 120, 3) := by decide +kernel
theorem dX8_quarrelsNow_80 : decode cX8_quarrelsNow 80 = .ok (.iload_n 2, 1) := by decide +kernel
theorem dX8_quarrelsNow_81 : decode cX8_quarrelsNow 81 = .ok (.iaload, 1) := by decide +kernel
theorem dX8_quarrelsNow_82 : decode cX8_quarrelsNow 82 = .ok (.iload 4, 2) := by decide +kernel
theorem dX8_quarrelsNow_84 : decode cX8_quarrelsNow 84 = .ok (.if_icmp .ne 7, 3) := by decide +kernel
theorem dX8_quarrelsNow_87 : decode cX8_quarrelsNow 87 = .ok (.iconst 1, 1) := by decide +kernel
theorem dX8_quarrelsNow_88 : decode cX8_quarrelsNow 88 = .ok (.goto 4, 3) := by decide +kernel
theorem dX8_quarrelsNow_91 : decode cX8_quarrelsNow 91 = .ok (.iconst 0, 1) := by decide +kernel
theorem dX8_quarrelsNow_92 : decode cX8_quarrelsNow 92 = .ok (.iadd, 1) := by decide +kernel
theorem dX8_quarrelsNow_93 : decode cX8_quarrelsNow 93 = .ok (.istore_n 1, 1) := by decide +kernel
theorem dX8_quarrelsNow_94 : decode cX8_quarrelsNow 94 = .ok (.iinc 3 1, 3) := by decide +kernel
theorem dX8_quarrelsNow_97 : decode cX8_quarrelsNow 97 = .ok (.goto (-83), 3) := by decide +kernel
theorem dX8_quarrelsNow_100 : decode cX8_quarrelsNow 100 = .ok (.iinc 2 1, 3) := by decide +kernel
theorem dX8_quarrelsNow_103 : decode cX8_quarrelsNow 103 = .ok (.goto (-99), 3) := by decide +kernel
theorem dX8_quarrelsNow_106 : decode cX8_quarrelsNow 106 = .ok (.iload_n 1, 1) := by decide +kernel
theorem dX8_quarrelsNow_107 : decode cX8_quarrelsNow 107 = .ok (.ireturn, 1) := by decide +kernel
theorem dX8_layChained_0 : decode cX8_layChained 0 = .ok (.iload_n 1, 1) := by decide +kernel
theorem dX8_layChained_1 : decode cX8_layChained 1 = .ok (.aload_n 0, 1) := by decide +kernel
theorem dX8_layChained_2 : decode cX8_layChained 2 = .ok (.getfield 221, 3) := by decide +kernel
theorem dX8_layChained_5 : decode cX8_layChained 5 = .ok (.if_icmp .ne 54, 3) := by decide +kernel
theorem dX8_layChained_8 : decode cX8_layChained 8 = .ok (.aload_n 0, 1) := by decide +kernel
theorem dX8_layChained_9 : decode cX8_layChained 9 = .ok (.invokevirtual 393, 3) := by decide +kernel
theorem dX8_layChained_12 : decode cX8_layChained 12 = .ok (.istore_n 3, 1) := by decide +kernel
theorem dX8_layChained_13 : decode cX8_layChained 13 = .ok (.iload_n 3, 1) := by decide +kernel
theorem dX8_layChained_14 : decode cX8_layChained 14 = .ok (.aload_n 0, 1) := by decide +kernel
theorem dX8_layChained_15 : decode cX8_layChained 15 = .ok (.getfield 396, 3) := by decide +kernel
theorem dX8_layChained_18 : decode cX8_layChained 18 = .ok (.if_icmp .ge 40, 3) := by decide +kernel
theorem dX8_layChained_21 : decode cX8_layChained 21 = .ok (.aload_n 0, 1) := by decide +kernel
theorem dX8_layChained_22 : decode cX8_layChained 22 = .ok (.iload_n 3, 1) := by decide +kernel
theorem dX8_layChained_23 : decode cX8_layChained 23 = .ok (.putfield 396, 3) := by decide +kernel
theorem dX8_layChained_26 : decode cX8_layChained 26 = .ok (.iconst 0, 1) := by decide +kernel
theorem dX8_layChained_27 : decode cX8_layChained 27 = .ok (.istore 4, 2) := by decide +kernel
theorem dX8_layChained_29 : decode cX8_layChained 29 = .ok (.iload 4, 2) := by decide +kernel
theorem dX8_layChained_31 : decode cX8_layChained 31 = .ok (.aload_n 0, 1) := by decide +kernel
theorem dX8_layChained_32 : decode cX8_layChained 32 = .ok (.getfield 221, 3) := by decide +kernel
theorem dX8_layChained_35 : decode cX8_layChained 35 = .ok (.if_icmp .ge 23, 3) := by decide +kernel
theorem dX8_layChained_38 : decode cX8_layChained 38 = .ok (.aload_n 0, 1) := by decide +kernel
theorem dX8_layChained_39 : decode cX8_layChained 39 = .ok (.getfield 126, 3) := by decide +kernel
theorem dX8_layChained_42 : decode cX8_layChained 42 = .ok (.iload 4, 2) := by decide +kernel
theorem dX8_layChained_44 : decode cX8_layChained 44 = .ok (.aload_n 0, 1) := by decide +kernel
theorem dX8_layChained_45 : decode cX8_layChained 45 = .ok (.getfield 123, 3) := by decide +kernel
theorem dX8_layChained_48 : decode cX8_layChained 48 = .ok (.iload 4, 2) := by decide +kernel
theorem dX8_layChained_50 : decode cX8_layChained 50 = .ok (.iaload, 1) := by decide +kernel
theorem dX8_layChained_51 : decode cX8_layChained 51 = .ok (.iastore, 1) := by decide +kernel
theorem dX8_layChained_52 : decode cX8_layChained 52 = .ok (.iinc 4 1, 3) := by decide +kernel
theorem dX8_layChained_55 : decode cX8_layChained 55 = .ok (.goto (-26), 3) := by decide +kernel
theorem dX8_layChained_58 : decode cX8_layChained 58 = .ok (.return_, 1) := by decide +kernel
theorem dX8_layChained_59 : decode cX8_layChained 59 = .ok (.iconst 0, 1) := by decide +kernel
theorem dX8_layChained_60 : decode cX8_layChained 60 = .ok (.istore_n 3, 1) := by decide +kernel
theorem dX8_layChained_61 : decode cX8_layChained 61 = .ok (.iload_n 3, 1) := by decide +kernel
theorem dX8_layChained_62 : decode cX8_layChained 62 = .ok (.aload_n 0, 1) := by decide +kernel
theorem dX8_layChained_63 : decode cX8_layChained 63 = .ok (.getfield 221, 3) := by decide +kernel
theorem dX8_layChained_66 : decode cX8_layChained 66 = .ok (.if_icmp .ge 36, 3) := by decide +kernel
theorem dX8_layChained_69 : decode cX8_layChained 69 = .ok (.iload_n 2, 1) := by decide +kernel
theorem dX8_layChained_70 : decode cX8_layChained 70 = .ok (.iload_n 3, 1) := by decide +kernel
theorem dX8_layChained_71 : decode cX8_layChained 71 = .ok (.invokestatic 358, 3) := by decide +kernel
theorem dX8_layChained_74 : decode cX8_layChained 74 = .ok (.ifCond .ne 22, 3) := by decide +kernel
theorem dX8_layChained_77 : decode cX8_layChained 77 = .ok (.aload_n 0, 1) := by decide +kernel
theorem dX8_layChained_78 : decode cX8_layChained 78 = .ok (.getfield 123, 3) := by decide +kernel
theorem dX8_layChained_81 : decode cX8_layChained 81 = .ok (.iload_n 1, 1) := by decide +kernel
theorem dX8_layChained_82 : decode cX8_layChained 82 = .ok (.iload_n 3, 1) := by decide +kernel
theorem dX8_layChained_83 : decode cX8_layChained 83 = .ok (.iastore, 1) := by decide +kernel
theorem dX8_layChained_84 : decode cX8_layChained 84 = .ok (.aload_n 0, 1) := by decide +kernel
theorem dX8_layChained_85 : decode cX8_layChained 85 = .ok (.iload_n 1, 1) := by decide +kernel
theorem dX8_layChained_86 : decode cX8_layChained 86 = .ok (.iconst 1, 1) := by decide +kernel
theorem dX8_layChained_87 : decode cX8_layChained 87 = .ok (.iadd, 1) := by decide +kernel
theorem dX8_layChained_88 : decode cX8_layChained 88 = .ok (.iload_n 2, 1) := by decide +kernel
theorem dX8_layChained_89 : decode cX8_layChained 89 = .ok (.iconst 1, 1) := by decide +kernel
theorem dX8_layChained_90 : decode cX8_layChained 90 = .ok (.iload_n 3, 1) := by decide +kernel
theorem dX8_layChained_91 : decode cX8_layChained 91 = .ok (.ishl, 1) := by decide +kernel
theorem dX8_layChained_92 : decode cX8_layChained 92 = .ok (.ior, 1) := by decide +kernel
theorem dX8_layChained_93 : decode cX8_layChained 93 = .ok (.invokevirtual 399, 3) := by decide +kernel
theorem dX8_layChained_96 : decode cX8_layChained 96 = .ok (.iinc 3 1, 3) := by decide +kernel
theorem dX8_layChained_99 : decode cX8_layChained 99 = .ok (.goto (-38), 3) := by decide +kernel
theorem dX8_layChained_102 : decode cX8_layChained 102 = .ok (.return_, 1) := by decide +kernel
theorem dX8_easter_0 : decode cX8_easter 0 = .ok (.iload_n 1, 1) := by decide +kernel
theorem dX8_easter_1 : decode cX8_easter 1 = .ok (.invokestatic 140, 3) := by decide +kernel
theorem dX8_easter_4 : decode cX8_easter 4 = .ok (.ifCond .ne 5, 3) := by decide +kernel
theorem dX8_easter_7 : decode cX8_easter 7 = .ok (.iconst (-1), 1) := by decide +kernel
theorem dX8_easter_8 : decode cX8_easter 8 = .ok (.ireturn, 1) := by decide +kernel
theorem dX8_easter_9 : decode cX8_easter 9 = .ok (.aload_n 0, 1) := by decide +kernel
theorem dX8_easter_10 : decode cX8_easter 10 = .ok (.getfield 221, 3) := by decide +kernel
theorem dX8_easter_13 : decode cX8_easter 13 = .ok (.ifCond .ne 6, 3) := by decide +kernel
theorem dX8_easter_16 : decode cX8_easter 16 = .ok (.bipush (-4), 2) := by decide +kernel
theorem dX8_easter_18 : decode cX8_easter 18 = .ok (.ireturn, 1) := by decide +kernel
theorem dX8_easter_19 : decode cX8_easter 19 = .ok (.aload_n 0, 1) := by decide +kernel
theorem dX8_easter_20 : decode cX8_easter 20 = .ok (.ldc_w 383, 3) := by decide +kernel
theorem dX8_easter_23 : decode cX8_easter 23 = .ok (.putfield 396, 3) := by decide +kernel
theorem dX8_easter_26 : decode cX8_easter 26 = .ok (.aload_n 0, 1) := by decide +kernel
theorem dX8_easter_27 : decode cX8_easter 27 = .ok (.iconst 0, 1) := by decide +kernel
theorem dX8_easter_28 : decode cX8_easter 28 = .ok (.iconst 0, 1) := by decide +kernel
theorem dX8_easter_29 : decode cX8_easter 29 = .ok (.invokevirtual 399, 3) := by decide +kernel
theorem dX8_easter_32 : decode cX8_easter 32 = .ok (.aload_n 0, 1) := by decide +kernel
theorem dX8_easter_33 : decode cX8_easter 33 = .ok (.getfield 13, 3) := by decide +kernel
theorem dX8_easter_36 : decode cX8_easter 36 = .ok (.iload_n 1, 1) := by decide +kernel
theorem dX8_easter_37 : decode cX8_easter 37 = .ok (.aload_n 0, 1) := by decide +kernel
theorem dX8_easter_38 : decode cX8_easter 38 = .ok (.getfield 221, 3) := by decide +kernel
theorem dX8_easter_41 : decode cX8_easter 41 = .ok (.iastore, 1) := by decide +kernel
theorem dX8_easter_42 : decode cX8_easter 42 = .ok (.iconst 0, 1) := by decide +kernel
theorem dX8_easter_43 : decode cX8_easter 43 = .ok (.istore_n 2, 1) := by decide +kernel
theorem dX8_easter_44 : decode cX8_easter 44 = .ok (.iload_n 2, 1) := by decide +kernel
theorem dX8_easter_45 : decode cX8_easter 45 = .ok (.bipush 40, 2) := by decide +kernel
theorem dX8_easter_47 : decode cX8_easter 47 = .ok (.if_icmp .ge 38, 3) := by decide +kernel
theorem dX8_easter_50 : decode cX8_easter 50 = .ok (.aload_n 0, 1) := by decide +kernel
theorem dX8_easter_51 : decode cX8_easter 51 = .ok (.getfield 16, 3) := by decide +kernel
theorem dX8_easter_54 : decode cX8_easter 54 = .ok (.bipush 40, 2) := by decide +kernel
theorem dX8_easter_56 : decode cX8_easter 56 = .ok (.iload_n 1, 1) := by decide +kernel
theorem dX8_easter_57 : decode cX8_easter 57 = .ok (.imul, 1) := by decide +kernel
theorem dX8_easter_58 : decode cX8_easter 58 = .ok (.iload_n 2, 1) := by decide +kernel
theorem dX8_easter_59 : decode cX8_easter 59 = .ok (.iadd, 1) := by decide +kernel
theorem dX8_easter_60 : decode cX8_easter 60 = .ok (.iload_n 2, 1) := by decide +kernel
theorem dX8_easter_61 : decode cX8_easter 61 = .ok (.aload_n 0, 1) := by decide +kernel
theorem dX8_easter_62 : decode cX8_easter 62 = .ok (.getfield 221, 3) := by decide +kernel
theorem dX8_easter_65 : decode cX8_easter 65 = .ok (.if_icmp .ge 12, 3) := by decide +kernel
theorem dX8_easter_68 : decode cX8_easter 68 = .ok (.aload_n 0, 1) := by decide +kernel
theorem dX8_easter_69 : decode cX8_easter 69 = .ok (.getfield 126, 3) := by decide +kernel
theorem dX8_easter_72 : decode cX8_easter 72 = .ok (.iload_n 2, 1) := by decide +kernel
theorem dX8_easter_73 : decode cX8_easter 73 = .ok (.iaload, 1) := by decide +kernel
theorem dX8_easter_74 : decode cX8_easter 74 = .ok (.goto 4, 3) := by decide +kernel
theorem dX8_easter_77 : decode cX8_easter 77 = .ok (.iconst 0, 1) := by decide +kernel
theorem dX8_easter_78 : decode cX8_easter 78 = .ok (.iastore, 1) := by decide +kernel
theorem dX8_easter_79 : decode cX8_easter 79 = .ok (.iinc 2 1, 3) := by decide +kernel
theorem dX8_easter_82 : decode cX8_easter 82 = .ok (.goto (-38), 3) := by decide +kernel
theorem dX8_easter_85 : decode cX8_easter 85 = .ok (.aload_n 0, 1) := by decide +kernel
theorem dX8_easter_86 : decode cX8_easter 86 = .ok (.getfield 396, 3) := by decide +kernel
theorem dX8_easter_89 : decode cX8_easter 89 = .ok (.ireturn, 1) := by decide +kernel
theorem dX8_lots_0 : decode cX8_lots 0 = .ok (.iload_n 1, 1) := by decide +kernel
theorem dX8_lots_1 : decode cX8_lots 1 = .ok (.iconst 1, 1) := by decide +kernel
theorem dX8_lots_2 : decode cX8_lots 2 = .ok (.bipush 60, 2) := by decide +kernel
theorem dX8_lots_4 : decode cX8_lots 4 = .ok (.invokestatic 133, 3) := by decide +kernel
theorem dX8_lots_7 : decode cX8_lots 7 = .ok (.ifCond .eq 14, 3) := by decide +kernel
theorem dX8_lots_10 : decode cX8_lots 10 = .ok (.iload_n 2, 1) := by decide +kernel
theorem dX8_lots_11 : decode cX8_lots 11 = .ok (.iconst 1, 1) := by decide +kernel
theorem dX8_lots_12 : decode cX8_lots 12 = .ok (.ldc_w 402, 3) := by decide +kernel
theorem dX8_lots_15 : decode cX8_lots 15 = .ok (.invokestatic 133, 3) := by decide +kernel
theorem dX8_lots_18 : decode cX8_lots 18 = .ok (.ifCond .ne 5, 3) := by decide +kernel
theorem dX8_lots_21 : decode cX8_lots 21 = .ok (.iconst (-1), 1) := by decide +kernel
theorem dX8_lots_22 : decode cX8_lots 22 = .ok (.ireturn, 1) := by decide +kernel
theorem dX8_lots_23 : decode cX8_lots 23 = .ok (.aload_n 0, 1) := by decide +kernel
theorem dX8_lots_24 : decode cX8_lots 24 = .ok (.getfield 221, 3) := by decide +kernel
theorem dX8_lots_27 : decode cX8_lots 27 = .ok (.ifCond .ne 6, 3) := by decide +kernel
theorem dX8_lots_30 : decode cX8_lots 30 = .ok (.bipush (-4), 2) := by decide +kernel
theorem dX8_lots_32 : decode cX8_lots 32 = .ok (.ireturn, 1) := by decide +kernel
theorem dX8_lots_33 : decode cX8_lots 33 = .ok (.aload_n 0, 1) := by decide +kernel
theorem dX8_lots_34 : decode cX8_lots 34 = .ok (.getfield 233, 3) := by decide +kernel
theorem dX8_lots_37 : decode cX8_lots 37 = .ok (.iload_n 1, 1) := by decide +kernel
theorem dX8_lots_38 : decode cX8_lots 38 = .ok (.iadd, 1) := by decide +kernel
theorem dX8_lots_39 : decode cX8_lots 39 = .ok (.bipush 60, 2) := by decide +kernel
theorem dX8_lots_41 : decode cX8_lots 41 = .ok (.if_icmp .le 6, 3) := by decide +kernel
theorem dX8_lots_44 : decode cX8_lots 44 = .ok (.bipush (-2), 2) := by decide +kernel
theorem dX8_lots_46 : decode cX8_lots 46 = .ok (.ireturn, 1) := by decide +kernel
theorem dX8_lots_47 : decode cX8_lots 47 = .ok (.iload_n 2, 1) := by decide +kernel
theorem dX8_lots_48 : decode cX8_lots 48 = .ok (.i2l, 1) := by decide +kernel
theorem dX8_lots_49 : decode cX8_lots 49 = .ok (.lstore_n 3, 1) := by decide +kernel
theorem dX8_lots_50 : decode cX8_lots 50 = .ok (.iconst 0, 1) := by decide +kernel
theorem dX8_lots_51 : decode cX8_lots 51 = .ok (.istore 5, 2) := by decide +kernel
theorem dX8_lots_53 : decode cX8_lots 53 = .ok (.iconst 0, 1) := by decide +kernel
theorem dX8_lots_54 : decode cX8_lots 54 = .ok (.istore 6, 2) := by decide +kernel
theorem dX8_lots_56 : decode cX8_lots 56 = .ok (.iload 6, 2) := by decide +kernel
theorem dX8_lots_58 : decode cX8_lots 58 = .ok (.iload_n 1, 1) := by decide +kernel
theorem dX8_lots_59 : decode cX8_lots 59 = .ok (.if_icmp .ge 71, 3) := by decide +kernel
theorem dX8_lots_62 : decode cX8_lots 62 = .ok (.ldc2_w 403, 3) := by decide +kernel
theorem dX8_lots_65 : decode cX8_lots 65 = .ok (.lload_n 3, 1) := by decide +kernel
theorem dX8_lots_66 : decode cX8_lots 66 = .ok (.lmul, 1) := by decide +kernel
theorem dX8_lots_67 : decode cX8_lots 67 = .ok (.ldc2_w 405, 3) := by decide +kernel
theorem dX8_lots_70 : decode cX8_lots 70 = .ok (.lrem, 1) := by decide +kernel
theorem dX8_lots_71 : decode cX8_lots 71 = .ok (.lstore_n 3, 1) := by decide +kernel
theorem dX8_lots_72 : decode cX8_lots 72 = .ok (.lload_n 3, 1) := by decide +kernel
theorem dX8_lots_73 : decode cX8_lots 73 = .ok (.aload_n 0, 1) := by decide +kernel
theorem dX8_lots_74 : decode cX8_lots 74 = .ok (.getfield 221, 3) := by decide +kernel
theorem dX8_lots_77 : decode cX8_lots 77 = .ok (.i2l, 1) := by decide +kernel
theorem dX8_lots_78 : decode cX8_lots 78 = .ok (.lrem, 1) := by decide +kernel
theorem dX8_lots_79 : decode cX8_lots 79 = .ok (.l2i, 1) := by decide +kernel
theorem dX8_lots_80 : decode cX8_lots 80 = .ok (.istore 7, 2) := by decide +kernel
theorem dX8_lots_82 : decode cX8_lots 82 = .ok (.lload_n 3, 1) := by decide +kernel
theorem dX8_lots_83 : decode cX8_lots 83 = .ok (.ldc2_w 407, 3) := by decide +kernel
theorem dX8_lots_86 : decode cX8_lots 86 = .ok (.ldiv, 1) := by decide +kernel
theorem dX8_lots_87 : decode cX8_lots 87 = .ok (.ldc2_w 409, 3) := by decide +kernel
theorem dX8_lots_90 : decode cX8_lots 90 = .ok (.lrem, 1) := by decide +kernel
theorem dX8_lots_91 : decode cX8_lots 91 = .ok (.l2i, 1) := by decide +kernel
theorem dX8_lots_92 : decode cX8_lots 92 = .ok (.istore 8, 2) := by decide +kernel
theorem dX8_lots_94 : decode cX8_lots 94 = .ok (.aload_n 0, 1) := by decide +kernel
theorem dX8_lots_95 : decode cX8_lots 95 = .ok (.invokevirtual 293, 3) := by decide +kernel
theorem dX8_lots_98 : decode cX8_lots 98 = .ok (.aload_n 0, 1) := by decide +kernel
theorem dX8_lots_99 : decode cX8_lots 99 = .ok (.iload 7, 2) := by decide +kernel
theorem dX8_lots_101 : decode cX8_lots 101 = .ok (.iload 8, 2) := by decide +kernel
theorem dX8_lots_103 : decode cX8_lots 103 = .ok (.invokevirtual 317, 3) := by decide +kernel
theorem dX8_lots_106 : decode cX8_lots 106 = .ok (.ifCond .eq 18, 3) := by decide +kernel
theorem dX8_lots_109 : decode cX8_lots 109 = .ok (.aload_n 0, 1) := by decide +kernel
theorem dX8_lots_110 : decode cX8_lots 110 = .ok (.bipush 10, 2) := by decide +kernel
theorem dX8_lots_112 : decode cX8_lots 112 = .ok (.iload 7, 2) := by decide +kernel
theorem dX8_lots_114 : decode cX8_lots 114 = .ok (.imul, 1) := by decide +kernel
theorem dX8_lots_115 : decode cX8_lots 115 = .ok (.iload 8, 2) := by decide +kernel
theorem dX8_lots_117 : decode cX8_lots 117 = .ok (.iadd, 1) := by decide +kernel
theorem dX8_lots_118 : decode cX8_lots 118 = .ok (.invokevirtual 320, 3) := by decide +kernel
theorem dX8_lots_121 : decode cX8_lots 121 = .ok (.iinc 5 1, 3) := by decide +kernel
theorem dX8_lots_124 : decode cX8_lots 124 = .ok (.iinc 6 1, 3) := by decide +kernel
theorem dX8_lots_127 : decode cX8_lots 127 = .ok (.goto (-71), 3) := by decide +kernel
theorem dX8_lots_130 : decode cX8_lots 130 = .ok (.iload 5, 2) := by decide +kernel
theorem dX8_lots_132 : decode cX8_lots 132 = .ok (.ireturn, 1) := by decide +kernel
theorem dX8_stepsNow_0 : decode cX8_stepsNow 0 = .ok (.iconst 0, 1) := by decide +kernel
theorem dX8_stepsNow_1 : decode cX8_stepsNow 1 = .ok (.istore_n 1, 1) := by decide +kernel
theorem dX8_stepsNow_2 : decode cX8_stepsNow 2 = .ok (.iconst 0, 1) := by decide +kernel
theorem dX8_stepsNow_3 : decode cX8_stepsNow 3 = .ok (.istore_n 2, 1) := by decide +kernel
theorem dX8_stepsNow_4 : decode cX8_stepsNow 4 = .ok (.iload_n 2, 1) := by decide +kernel
theorem dX8_stepsNow_5 : decode cX8_stepsNow 5 = .ok (.aload_n 0, 1) := by decide +kernel
theorem dX8_stepsNow_6 : decode cX8_stepsNow 6 = .ok (.getfield 221, 3) := by decide +kernel
theorem dX8_stepsNow_9 : decode cX8_stepsNow 9 = .ok (.if_icmp .ge 20, 3) := by decide +kernel
theorem dX8_stepsNow_12 : decode cX8_stepsNow 12 = .ok (.iload_n 1, 1) := by decide +kernel
theorem dX8_stepsNow_13 : decode cX8_stepsNow 13 = .ok (.aload_n 0, 1) := by decide +kernel
theorem dX8_stepsNow_14 : decode cX8_stepsNow 14 = .ok (.iload_n 2, 1) := by decide +kernel
theorem dX8_stepsNow_15 : decode cX8_stepsNow 15 = .ok (.invokevirtual 305, 3) := by decide +kernel
theorem dX8_stepsNow_18 : decode cX8_stepsNow 18 = .ok (.invokestatic 308, 3) := by decide +kernel
theorem dX8_stepsNow_21 : decode cX8_stepsNow 21 = .ok (.iadd, 1) := by decide +kernel
theorem dX8_stepsNow_22 : decode cX8_stepsNow 22 = .ok (.istore_n 1, 1) := by decide +kernel
theorem dX8_stepsNow_23 : decode cX8_stepsNow 23 = .ok (.iinc 2 1, 3) := by decide +kernel
theorem dX8_stepsNow_26 : decode cX8_stepsNow 26 = .ok (.goto (-22), 3) := by decide +kernel
theorem dX8_stepsNow_29 : decode cX8_stepsNow 29 = .ok (.iload_n 1, 1) := by decide +kernel
theorem dX8_stepsNow_30 : decode cX8_stepsNow 30 = .ok (.ireturn, 1) := by decide +kernel
theorem dX8_common_0 : decode cX8_common 0 = .ok (.aload_n 0, 1) := by decide +kernel
theorem dX8_common_1 : decode cX8_common 1 = .ok (.invokevirtual 411, 3) := by decide +kernel
theorem dX8_common_4 : decode cX8_common 4 = .ok (.istore_n 1, 1) := by decide +kernel
theorem dX8_common_5 : decode cX8_common 5 = .ok (.iconst 4, 1) := by decide +kernel
theorem dX8_common_6 : decode cX8_common 6 = .ok (.aload_n 0, 1) := by decide +kernel
theorem dX8_common_7 : decode cX8_common 7 = .ok (.getfield 221, 3) := by decide +kernel
theorem dX8_common_10 : decode cX8_common 10 = .ok (.imul, 1) := by decide +kernel
theorem dX8_common_11 : decode cX8_common 11 = .ok (.istore_n 2, 1) := by decide +kernel
theorem dX8_common_12 : decode cX8_common 12 = .ok (.iload_n 2, 1) := by decide +kernel
theorem dX8_common_13 : decode cX8_common 13 = .ok (.ifCond .eq 14, 3) := by decide +kernel
theorem dX8_common_16 : decode cX8_common 16 = .ok (.iload_n 1, 1) := by decide +kernel
theorem dX8_common_17 : decode cX8_common 17 = .ok (.iload_n 2, 1) := by decide +kernel
theorem dX8_common_18 : decode cX8_common 18 = .ok (.irem, 1) := by decide +kernel
theorem dX8_common_19 : decode cX8_common 19 = .ok (.istore_n 3, 1) := by decide +kernel
theorem dX8_common_20 : decode cX8_common 20 = .ok (.iload_n 2, 1) := by decide +kernel
theorem dX8_common_21 : decode cX8_common 21 = .ok (.istore_n 1, 1) := by decide +kernel
theorem dX8_common_22 : decode cX8_common 22 = .ok (.iload_n 3, 1) := by decide +kernel
theorem dX8_common_23 : decode cX8_common 23 = .ok (.istore_n 2, 1) := by decide +kernel
theorem dX8_common_24 : decode cX8_common 24 = .ok (.goto (-12), 3) := by decide +kernel
theorem dX8_common_27 : decode cX8_common 27 = .ok (.iload_n 1, 1) := by decide +kernel
theorem dX8_common_28 : decode cX8_common 28 = .ok (.ireturn, 1) := by decide +kernel
theorem dX8_upper_0 : decode cX8_upper 0 = .ok (.aload_n 0, 1) := by decide +kernel
theorem dX8_upper_1 : decode cX8_upper 1 = .ok (.getfield 221, 3) := by decide +kernel
theorem dX8_upper_4 : decode cX8_upper 4 = .ok (.ifCond .ne 7, 3) := by decide +kernel
theorem dX8_upper_7 : decode cX8_upper 7 = .ok (.lconst 0, 1) := by decide +kernel
theorem dX8_upper_8 : decode cX8_upper 8 = .ok (.goto 13, 3) := by decide +kernel
theorem dX8_upper_11 : decode cX8_upper 11 = .ok (.aload_n 0, 1) := by decide +kernel
theorem dX8_upper_12 : decode cX8_upper 12 = .ok (.invokevirtual 411, 3) := by decide +kernel
theorem dX8_upper_15 : decode cX8_upper 15 = .ok (.aload_n 0, 1) := by decide +kernel
theorem dX8_upper_16 : decode cX8_upper 16 = .ok (.invokevirtual 414, 3) := by decide +kernel
theorem dX8_upper_19 : decode cX8_upper 19 = .ok (.idiv, 1) := by decide +kernel
theorem dX8_upper_20 : decode cX8_upper 20 = .ok (.i2l, 1) := by decide +kernel
theorem dX8_upper_21 : decode cX8_upper 21 = .ok (.lreturn, 1) := by decide +kernel
theorem dX8_lower_0 : decode cX8_lower 0 = .ok (.aload_n 0, 1) := by decide +kernel
theorem dX8_lower_1 : decode cX8_lower 1 = .ok (.getfield 221, 3) := by decide +kernel
theorem dX8_lower_4 : decode cX8_lower 4 = .ok (.ifCond .ne 7, 3) := by decide +kernel
theorem dX8_lower_7 : decode cX8_lower 7 = .ok (.lconst 1, 1) := by decide +kernel
theorem dX8_lower_8 : decode cX8_lower 8 = .ok (.goto 15, 3) := by decide +kernel
theorem dX8_lower_11 : decode cX8_lower 11 = .ok (.iconst 4, 1) := by decide +kernel
theorem dX8_lower_12 : decode cX8_lower 12 = .ok (.aload_n 0, 1) := by decide +kernel
theorem dX8_lower_13 : decode cX8_lower 13 = .ok (.getfield 221, 3) := by decide +kernel
theorem dX8_lower_16 : decode cX8_lower 16 = .ok (.imul, 1) := by decide +kernel
theorem dX8_lower_17 : decode cX8_lower 17 = .ok (.aload_n 0, 1) := by decide +kernel
theorem dX8_lower_18 : decode cX8_lower 18 = .ok (.invokevirtual 414, 3) := by decide +kernel
theorem dX8_lower_21 : decode cX8_lower 21 = .ok (.idiv, 1) := by decide +kernel
theorem dX8_lower_22 : decode cX8_lower 22 = .ok (.i2l, 1) := by decide +kernel
theorem dX8_lower_23 : decode cX8_lower 23 = .ok (.lreturn, 1) := by decide +kernel
theorem dX8_counted_0 : decode cX8_counted 0 = .ok (.iconst 0, 1) := by decide +kernel
theorem dX8_counted_1 : decode cX8_counted 1 = .ok (.istore_n 2, 1) := by decide +kernel
theorem dX8_counted_2 : decode cX8_counted 2 = .ok (.iconst 0, 1) := by decide +kernel
theorem dX8_counted_3 : decode cX8_counted 3 = .ok (.istore_n 3, 1) := by decide +kernel
theorem dX8_counted_4 : decode cX8_counted 4 = .ok (.iload_n 3, 1) := by decide +kernel
theorem dX8_counted_5 : decode cX8_counted 5 = .ok (.aload_n 0, 1) := by decide +kernel
theorem dX8_counted_6 : decode cX8_counted 6 = .ok (.getfield 227, 3) := by decide +kernel
theorem dX8_counted_9 : decode cX8_counted 9 = .ok (.if_icmp .ge 27, 3) := by decide +kernel
theorem dX8_counted_12 : decode cX8_counted 12 = .ok (.iload_n 2, 1) := by decide +kernel
theorem dX8_counted_13 : decode cX8_counted 13 = .ok (.iload_n 1, 1) := by decide +kernel
theorem dX8_counted_14 : decode cX8_counted 14 = .ok (.iconst 4, 1) := by decide +kernel
theorem dX8_counted_15 : decode cX8_counted 15 = .ok (.if_icmp .ne 12, 3) := by decide +kernel
theorem dX8_counted_18 : decode cX8_counted 18 = .ok (.aload_n 0, 1) := by decide +kernel
theorem dX8_counted_19 : decode cX8_counted 19 = .ok (.getfield 41, 3) := by decide +kernel
theorem dX8_counted_22 : decode cX8_counted 22 = .ok (.iload_n 3, 1) := by decide +kernel
theorem dX8_counted_23 : decode cX8_counted 23 = .ok (.iaload, 1) := by decide +kernel
theorem dX8_counted_24 : decode cX8_counted 24 = .ok (.goto 4, 3) := by decide +kernel
theorem dX8_counted_27 : decode cX8_counted 27 = .ok (.iconst 0, 1) := by decide +kernel
theorem dX8_counted_28 : decode cX8_counted 28 = .ok (.iadd, 1) := by decide +kernel
theorem dX8_counted_29 : decode cX8_counted 29 = .ok (.istore_n 2, 1) := by decide +kernel
theorem dX8_counted_30 : decode cX8_counted 30 = .ok (.iinc 3 1, 3) := by decide +kernel
theorem dX8_counted_33 : decode cX8_counted 33 = .ok (.goto (-29), 3) := by decide +kernel
theorem dX8_counted_36 : decode cX8_counted 36 = .ok (.iconst 0, 1) := by decide +kernel
theorem dX8_counted_37 : decode cX8_counted 37 = .ok (.istore_n 3, 1) := by decide +kernel
theorem dX8_counted_38 : decode cX8_counted 38 = .ok (.iload_n 3, 1) := by decide +kernel
theorem dX8_counted_39 : decode cX8_counted 39 = .ok (.aload_n 0, 1) := by decide +kernel
theorem dX8_counted_40 : decode cX8_counted 40 = .ok (.getfield 221, 3) := by decide +kernel
theorem dX8_counted_43 : decode cX8_counted 43 = .ok (.if_icmp .ge 42, 3) := by decide +kernel
theorem dX8_counted_46 : decode cX8_counted 46 = .ok (.iload_n 2, 1) := by decide +kernel
theorem dX8_counted_47 : decode cX8_counted 47 = .ok (.iload_n 1, 1) := by decide +kernel
theorem dX8_counted_48 : decode cX8_counted 48 = .ok (.iconst 5, 1) := by decide +kernel
theorem dX8_counted_49 : decode cX8_counted 49 = .ok (.if_icmp .ne 27, 3) := by decide +kernel
theorem dX8_counted_52 : decode cX8_counted 52 = .ok (.aload_n 0, 1) := by decide +kernel
theorem dX8_counted_53 : decode cX8_counted 53 = .ok (.getfield 32, 3) := by decide +kernel
theorem dX8_counted_56 : decode cX8_counted 56 = .ok (.iload_n 3, 1) := by decide +kernel
theorem dX8_counted_57 : decode cX8_counted 57 = .ok (.iaload, 1) := by decide +kernel
theorem dX8_counted_58 : decode cX8_counted 58 = .ok (.iconst 2, 1) := by decide +kernel
theorem dX8_counted_59 : decode cX8_counted 59 = .ok (.if_icmp .eq 13, 3) := by decide +kernel
theorem dX8_counted_62 : decode cX8_counted 62 = .ok (.aload_n 0, 1) := by decide +kernel
theorem dX8_counted_63 : decode cX8_counted 63 = .ok (.getfield 32, 3) := by decide +kernel
theorem dX8_counted_66 : decode cX8_counted 66 = .ok (.iload_n 3, 1) := by decide +kernel
theorem dX8_counted_67 : decode cX8_counted 67 = .ok (.iaload, 1) := by decide +kernel
theorem dX8_counted_68 : decode cX8_counted 68 = .ok (.iconst 4, 1) := by decide +kernel
theorem dX8_counted_69 : decode cX8_counted 69 = .ok (.if_icmp .ne 7, 3) := by decide +kernel
theorem dX8_counted_72 : decode cX8_counted 72 = .ok (.iconst 1, 1) := by decide +kernel
theorem dX8_counted_73 : decode cX8_counted 73 = .ok (.goto 4, 3) := by decide +kernel
theorem dX8_counted_76 : decode cX8_counted 76 = .ok (.iconst 0, 1) := by decide +kernel
theorem dX8_counted_77 : decode cX8_counted 77 = .ok (.iadd, 1) := by decide +kernel
theorem dX8_counted_78 : decode cX8_counted 78 = .ok (.istore_n 2, 1) := by decide +kernel
theorem dX8_counted_79 : decode cX8_counted 79 = .ok (.iinc 3 1, 3) := by decide +kernel
theorem dX8_counted_82 : decode cX8_counted 82 = .ok (.goto (-44), 3) := by decide +kernel
theorem dX8_counted_85 : decode cX8_counted 85 = .ok (.iconst 0, 1) := by decide +kernel
theorem dX8_counted_86 : decode cX8_counted 86 = .ok (.istore_n 3, 1) := by decide +kernel
theorem dX8_counted_87 : decode cX8_counted 87 = .ok (.iload_n 3, 1) := by decide +kernel
theorem dX8_counted_88 : decode cX8_counted 88 = .ok (.bipush 6, 2) := by decide +kernel
theorem dX8_counted_90 : decode cX8_counted 90 = .ok (.if_icmp .ge 32, 3) := by decide +kernel
theorem dX8_counted_93 : decode cX8_counted 93 = .ok (.iload_n 2, 1) := by decide +kernel
theorem dX8_counted_94 : decode cX8_counted 94 = .ok (.iload_n 1, 1) := by decide +kernel
theorem dX8_counted_95 : decode cX8_counted 95 = .ok (.bipush 6, 2) := by decide +kernel
theorem dX8_counted_97 : decode cX8_counted 97 = .ok (.if_icmp .ne 16, 3) := by decide +kernel
theorem dX8_counted_100 : decode cX8_counted 100 = .ok (.aload_n 0, 1) := by decide +kernel
theorem dX8_counted_101 : decode cX8_counted 101 = .ok (.getfield 13, 3) := by decide +kernel
theorem dX8_counted_104 : decode cX8_counted 104 = .ok (.iload_n 3, 1) := by decide +kernel
theorem dX8_counted_105 : decode cX8_counted 105 = .ok (.iaload, 1) := by decide +kernel
theorem dX8_counted_106 : decode cX8_counted 106 = .ok (.ifCond .lt 7, 3) := by decide +kernel
theorem dX8_counted_109 : decode cX8_counted 109 = .ok (.iconst 1, 1) := by decide +kernel
theorem dX8_counted_110 : decode cX8_counted 110 = .ok (.goto 4, 3) := by decide +kernel
theorem dX8_counted_113 : decode cX8_counted 113 = .ok (.iconst 0, 1) := by decide +kernel
theorem dX8_counted_114 : decode cX8_counted 114 = .ok (.iadd, 1) := by decide +kernel
theorem dX8_counted_115 : decode cX8_counted 115 = .ok (.istore_n 2, 1) := by decide +kernel
theorem dX8_counted_116 : decode cX8_counted 116 = .ok (.iinc 3 1, 3) := by decide +kernel
theorem dX8_counted_119 : decode cX8_counted 119 = .ok (.goto (-32), 3) := by decide +kernel
theorem dX8_counted_122 : decode cX8_counted 122 = .ok (.iconst 0, 1) := by decide +kernel
theorem dX8_counted_123 : decode cX8_counted 123 = .ok (.istore_n 3, 1) := by decide +kernel
theorem dX8_counted_124 : decode cX8_counted 124 = .ok (.iload_n 3, 1) := by decide +kernel
theorem dX8_counted_125 : decode cX8_counted 125 = .ok (.iconst 4, 1) := by decide +kernel
theorem dX8_counted_126 : decode cX8_counted 126 = .ok (.if_icmp .ge 32, 3) := by decide +kernel
theorem dX8_counted_129 : decode cX8_counted 129 = .ok (.iload_n 2, 1) := by decide +kernel
theorem dX8_counted_130 : decode cX8_counted 130 = .ok (.iload_n 1, 1) := by decide +kernel
theorem dX8_counted_131 : decode cX8_counted 131 = .ok (.bipush 7, 2) := by decide +kernel
theorem dX8_counted_133 : decode cX8_counted 133 = .ok (.if_icmp .ne 16, 3) := by decide +kernel
theorem dX8_counted_136 : decode cX8_counted 136 = .ok (.aload_n 0, 1) := by decide +kernel
theorem dX8_counted_137 : decode cX8_counted 137 = .ok (.getfield 22, 3) := by decide +kernel
theorem dX8_counted_140 : decode cX8_counted 140 = .ok (.iload_n 3, 1) := by decide +kernel
theorem dX8_counted_141 : decode cX8_counted 141 = .ok (.iaload, 1) := by decide +kernel
theorem dX8_counted_142 : decode cX8_counted 142 = .ok (.ifCond .lt 7, 3) := by decide +kernel
theorem dX8_counted_145 : decode cX8_counted 145 = .ok (.iconst 1, 1) := by decide +kernel
theorem dX8_counted_146 : decode cX8_counted 146 = .ok (.goto 4, 3) := by decide +kernel
theorem dX8_counted_149 : decode cX8_counted 149 = .ok (.iconst 0, 1) := by decide +kernel
theorem dX8_counted_150 : decode cX8_counted 150 = .ok (.iadd, 1) := by decide +kernel
theorem dX8_counted_151 : decode cX8_counted 151 = .ok (.istore_n 2, 1) := by decide +kernel
theorem dX8_counted_152 : decode cX8_counted 152 = .ok (.iinc 3 1, 3) := by decide +kernel
theorem dX8_counted_155 : decode cX8_counted 155 = .ok (.goto (-31), 3) := by decide +kernel
theorem dX8_counted_158 : decode cX8_counted 158 = .ok (.iconst 0, 1) := by decide +kernel
theorem dX8_counted_159 : decode cX8_counted 159 = .ok (.istore_n 3, 1) := by decide +kernel
theorem dX8_counted_160 : decode cX8_counted 160 = .ok (.iload_n 3, 1) := by decide +kernel
theorem dX8_counted_161 : decode cX8_counted 161 = .ok (.iconst 3, 1) := by decide +kernel
theorem dX8_counted_162 : decode cX8_counted 162 = .ok (.if_icmp .ge 32, 3) := by decide +kernel
theorem dX8_counted_165 : decode cX8_counted 165 = .ok (.iload_n 2, 1) := by decide +kernel
theorem dX8_counted_166 : decode cX8_counted 166 = .ok (.iload_n 1, 1) := by decide +kernel
theorem dX8_counted_167 : decode cX8_counted 167 = .ok (.bipush 9, 2) := by decide +kernel
theorem dX8_counted_169 : decode cX8_counted 169 = .ok (.if_icmp .ne 16, 3) := by decide +kernel
theorem dX8_counted_172 : decode cX8_counted 172 = .ok (.aload_n 0, 1) := by decide +kernel
theorem dX8_counted_173 : decode cX8_counted 173 = .ok (.getfield 65, 3) := by decide +kernel
theorem dX8_counted_176 : decode cX8_counted 176 = .ok (.iload_n 3, 1) := by decide +kernel
theorem dX8_counted_177 : decode cX8_counted 177 = .ok (.baload, 1) := by decide +kernel
theorem dX8_counted_178 : decode cX8_counted 178 = .ok (.ifCond .eq 7, 3) := by decide +kernel
theorem dX8_counted_181 : decode cX8_counted 181 = .ok (.iconst 1, 1) := by decide +kernel
theorem dX8_counted_182 : decode cX8_counted 182 = .ok (.goto 4, 3) := by decide +kernel
theorem dX8_counted_185 : decode cX8_counted 185 = .ok (.iconst 0, 1) := by decide +kernel
theorem dX8_counted_186 : decode cX8_counted 186 = .ok (.iadd, 1) := by decide +kernel
theorem dX8_counted_187 : decode cX8_counted 187 = .ok (.istore_n 2, 1) := by decide +kernel
theorem dX8_counted_188 : decode cX8_counted 188 = .ok (.iinc 3 1, 3) := by decide +kernel
theorem dX8_counted_191 : decode cX8_counted 191 = .ok (.goto (-31), 3) := by decide +kernel
theorem dX8_counted_194 : decode cX8_counted 194 = .ok (.iload_n 1, 1) := by decide +kernel
theorem dX8_counted_195 : decode cX8_counted 195 = .ok (.tableswitch 74 0 8 #[49, 54, 59, 64, 74, 74, 74, 74, 69], 49) := by decide +kernel
theorem dX8_counted_244 : decode cX8_counted 244 = .ok (.aload_n 0, 1) := by decide +kernel
theorem dX8_counted_245 : decode cX8_counted 245 = .ok (.getfield 221, 3) := by decide +kernel
theorem dX8_counted_248 : decode cX8_counted 248 = .ok (.ireturn, 1) := by decide +kernel
theorem dX8_counted_249 : decode cX8_counted 249 = .ok (.aload_n 0, 1) := by decide +kernel
theorem dX8_counted_250 : decode cX8_counted 250 = .ok (.invokevirtual 239, 3) := by decide +kernel
theorem dX8_counted_253 : decode cX8_counted 253 = .ok (.ireturn, 1) := by decide +kernel
theorem dX8_counted_254 : decode cX8_counted 254 = .ok (.aload_n 0, 1) := by decide +kernel
theorem dX8_counted_255 : decode cX8_counted 255 = .ok (.getfield 233, 3) := by decide +kernel
theorem dX8_counted_258 : decode cX8_counted 258 = .ok (.ireturn, 1) := by decide +kernel
theorem dX8_counted_259 : decode cX8_counted 259 = .ok (.aload_n 0, 1) := by decide +kernel
theorem dX8_counted_260 : decode cX8_counted 260 = .ok (.getfield 227, 3) := by decide +kernel
theorem dX8_counted_263 : decode cX8_counted 263 = .ok (.ireturn, 1) := by decide +kernel
theorem dX8_counted_264 : decode cX8_counted 264 = .ok (.aload_n 0, 1) := by decide +kernel
theorem dX8_counted_265 : decode cX8_counted 265 = .ok (.getfield 236, 3) := by decide +kernel
theorem dX8_counted_268 : decode cX8_counted 268 = .ok (.ireturn, 1) := by decide +kernel
theorem dX8_counted_269 : decode cX8_counted 269 = .ok (.iload_n 2, 1) := by decide +kernel
theorem dX8_counted_270 : decode cX8_counted 270 = .ok (.ireturn, 1) := by decide +kernel
theorem dX8_count_0 : decode cX8_count 0 = .ok (.iload_n 1, 1) := by decide +kernel
theorem dX8_count_1 : decode cX8_count 1 = .ok (.iconst 0, 1) := by decide +kernel
theorem dX8_count_2 : decode cX8_count 2 = .ok (.bipush 9, 2) := by decide +kernel
theorem dX8_count_4 : decode cX8_count 4 = .ok (.invokestatic 133, 3) := by decide +kernel
theorem dX8_count_7 : decode cX8_count 7 = .ok (.ifCond .eq 11, 3) := by decide +kernel
theorem dX8_count_10 : decode cX8_count 10 = .ok (.aload_n 0, 1) := by decide +kernel
theorem dX8_count_11 : decode cX8_count 11 = .ok (.iload_n 1, 1) := by decide +kernel
theorem dX8_count_12 : decode cX8_count 12 = .ok (.invokevirtual 417, 3) := by decide +kernel
theorem dX8_count_15 : decode cX8_count 15 = .ok (.goto 4, 3) := by decide +kernel
theorem dX8_count_18 : decode cX8_count 18 = .ok (.iconst (-1), 1) := by decide +kernel
theorem dX8_count_19 : decode cX8_count 19 = .ok (.ireturn, 1) := by decide +kernel
theorem dX8_mix_0 : decode cX8_mix 0 = .ok (.aload_n 0, 1) := by decide +kernel
theorem dX8_mix_1 : decode cX8_mix 1 = .ok (.ldc2_w 420, 3) := by decide +kernel
theorem dX8_mix_4 : decode cX8_mix 4 = .ok (.aload_n 0, 1) := by decide +kernel
theorem dX8_mix_5 : decode cX8_mix 5 = .ok (.getfield 422, 3) := by decide +kernel
theorem dX8_mix_8 : decode cX8_mix 8 = .ok (.lmul, 1) := by decide +kernel
theorem dX8_mix_9 : decode cX8_mix 9 = .ok (.lload_n 1, 1) := by decide +kernel
theorem dX8_mix_10 : decode cX8_mix 10 = .ok (.ladd, 1) := by decide +kernel
theorem dX8_mix_11 : decode cX8_mix 11 = .ok (.putfield 422, 3) := by decide +kernel
theorem dX8_mix_14 : decode cX8_mix 14 = .ok (.return_, 1) := by decide +kernel
theorem dX8_mixYard_0 : decode cX8_mixYard 0 = .ok (.aload_n 0, 1) := by decide +kernel
theorem dX8_mixYard_1 : decode cX8_mixYard 1 = .ok (.aload_n 0, 1) := by decide +kernel
theorem dX8_mixYard_2 : decode cX8_mixYard 2 = .ok (.getfield 230, 3) := by decide +kernel
theorem dX8_mixYard_5 : decode cX8_mixYard 5 = .ok (.i2l, 1) := by decide +kernel
theorem dX8_mixYard_6 : decode cX8_mixYard 6 = .ok (.invokevirtual 426, 3) := by decide +kernel
theorem dX8_mixYard_9 : decode cX8_mixYard 9 = .ok (.iconst 0, 1) := by decide +kernel
theorem dX8_mixYard_10 : decode cX8_mixYard 10 = .ok (.istore_n 1, 1) := by decide +kernel
theorem dX8_mixYard_11 : decode cX8_mixYard 11 = .ok (.iload_n 1, 1) := by decide +kernel
theorem dX8_mixYard_12 : decode cX8_mixYard 12 = .ok (.aload_n 0, 1) := by decide +kernel
theorem dX8_mixYard_13 : decode cX8_mixYard 13 = .ok (.invokevirtual 239, 3) := by decide +kernel
theorem dX8_mixYard_16 : decode cX8_mixYard 16 = .ok (.if_icmp .ge 20, 3) := by decide +kernel
theorem dX8_mixYard_19 : decode cX8_mixYard 19 = .ok (.aload_n 0, 1) := by decide +kernel
theorem dX8_mixYard_20 : decode cX8_mixYard 20 = .ok (.aload_n 0, 1) := by decide +kernel
theorem dX8_mixYard_21 : decode cX8_mixYard 21 = .ok (.getfield 29, 3) := by decide +kernel
theorem dX8_mixYard_24 : decode cX8_mixYard 24 = .ok (.iload_n 1, 1) := by decide +kernel
theorem dX8_mixYard_25 : decode cX8_mixYard 25 = .ok (.iaload, 1) := by decide +kernel
theorem dX8_mixYard_26 : decode cX8_mixYard 26 = .ok (.i2l, 1) := by decide +kernel
theorem dX8_mixYard_27 : decode cX8_mixYard 27 = .ok (.invokevirtual 426, 3) := by decide +kernel
theorem dX8_mixYard_30 : decode cX8_mixYard 30 = .ok (.iinc 1 1, 3) := by decide +kernel
theorem dX8_mixYard_33 : decode cX8_mixYard 33 = .ok (.goto (-22), 3) := by decide +kernel
theorem dX8_mixYard_36 : decode cX8_mixYard 36 = .ok (.iconst 0, 1) := by decide +kernel
theorem dX8_mixYard_37 : decode cX8_mixYard 37 = .ok (.istore_n 1, 1) := by decide +kernel
theorem dX8_mixYard_38 : decode cX8_mixYard 38 = .ok (.iload_n 1, 1) := by decide +kernel
theorem dX8_mixYard_39 : decode cX8_mixYard 39 = .ok (.aload_n 0, 1) := by decide +kernel
theorem dX8_mixYard_40 : decode cX8_mixYard 40 = .ok (.getfield 221, 3) := by decide +kernel
theorem dX8_mixYard_43 : decode cX8_mixYard 43 = .ok (.if_icmp .ge 33, 3) := by decide +kernel
theorem dX8_mixYard_46 : decode cX8_mixYard 46 = .ok (.iconst 0, 1) := by decide +kernel
theorem dX8_mixYard_47 : decode cX8_mixYard 47 = .ok (.istore_n 2, 1) := by decide +kernel
theorem dX8_mixYard_48 : decode cX8_mixYard 48 = .ok (.iload_n 2, 1) := by decide +kernel
theorem dX8_mixYard_49 : decode cX8_mixYard 49 = .ok (.iconst 4, 1) := by decide +kernel
theorem dX8_mixYard_50 : decode cX8_mixYard 50 = .ok (.if_icmp .ge 20, 3) := by decide +kernel
theorem dX8_mixYard_53 : decode cX8_mixYard 53 = .ok (.aload_n 0, 1) := by decide +kernel
theorem dX8_mixYard_54 : decode cX8_mixYard 54 = .ok (.aload_n 0, 1) := by decide +kernel
theorem dX8_mixYard_55 : decode cX8_mixYard 55 = .ok (.iload_n 1, 1) := by decide +kernel
theorem dX8_mixYard_56 : decode cX8_mixYard 56 = .ok (.iload_n 2, 1) := by decide +kernel
theorem dX8_mixYard_57 : decode cX8_mixYard 57 = .ok (.invokevirtual 290, 3) := by decide +kernel
theorem dX8_mixYard_60 : decode cX8_mixYard 60 = .ok (.i2l, 1) := by decide +kernel
theorem dX8_mixYard_61 : decode cX8_mixYard 61 = .ok (.invokevirtual 426, 3) := by decide +kernel
theorem dX8_mixYard_64 : decode cX8_mixYard 64 = .ok (.iinc 2 1, 3) := by decide +kernel
theorem dX8_mixYard_67 : decode cX8_mixYard 67 = .ok (.goto (-19), 3) := by decide +kernel
theorem dX8_mixYard_70 : decode cX8_mixYard 70 = .ok (.iinc 1 1, 3) := by decide +kernel
theorem dX8_mixYard_73 : decode cX8_mixYard 73 = .ok (.goto (-35), 3) := by decide +kernel
theorem dX8_mixYard_76 : decode cX8_mixYard 76 = .ok (.iconst 0, 1) := by decide +kernel
theorem dX8_mixYard_77 : decode cX8_mixYard 77 = .ok (.istore_n 1, 1) := by decide +kernel
theorem dX8_mixYard_78 : decode cX8_mixYard 78 = .ok (.iload_n 1, 1) := by decide +kernel
theorem dX8_mixYard_79 : decode cX8_mixYard 79 = .ok (.aload_n 0, 1) := by decide +kernel
theorem dX8_mixYard_80 : decode cX8_mixYard 80 = .ok (.getfield 227, 3) := by decide +kernel
theorem dX8_mixYard_83 : decode cX8_mixYard 83 = .ok (.if_icmp .ge 33, 3) := by decide +kernel
theorem dX8_mixYard_86 : decode cX8_mixYard 86 = .ok (.iconst 0, 1) := by decide +kernel
theorem dX8_mixYard_87 : decode cX8_mixYard 87 = .ok (.istore_n 2, 1) := by decide +kernel
theorem dX8_mixYard_88 : decode cX8_mixYard 88 = .ok (.iload_n 2, 1) := by decide +kernel
theorem dX8_mixYard_89 : decode cX8_mixYard 89 = .ok (.iconst 4, 1) := by decide +kernel
theorem dX8_mixYard_90 : decode cX8_mixYard 90 = .ok (.if_icmp .ge 20, 3) := by decide +kernel
theorem dX8_mixYard_93 : decode cX8_mixYard 93 = .ok (.aload_n 0, 1) := by decide +kernel
theorem dX8_mixYard_94 : decode cX8_mixYard 94 = .ok (.aload_n 0, 1) := by decide +kernel
theorem dX8_mixYard_95 : decode cX8_mixYard 95 = .ok (.iload_n 1, 1) := by decide +kernel
theorem dX8_mixYard_96 : decode cX8_mixYard 96 = .ok (.iload_n 2, 1) := by decide +kernel
theorem dX8_mixYard_97 : decode cX8_mixYard 97 = .ok (.invokevirtual 299, 3) := by decide +kernel
theorem dX8_mixYard_100 : decode cX8_mixYard 100 = .ok (.i2l, 1) := by decide +kernel
theorem dX8_mixYard_101 : decode cX8_mixYard 101 = .ok (.invokevirtual 426, 3) := by decide +kernel
theorem dX8_mixYard_104 : decode cX8_mixYard 104 = .ok (.iinc 2 1, 3) := by decide +kernel
theorem dX8_mixYard_107 : decode cX8_mixYard 107 = .ok (.goto (-19), 3) := by decide +kernel
theorem dX8_mixYard_110 : decode cX8_mixYard 110 = .ok (.iinc 1 1, 3) := by decide +kernel
theorem dX8_mixYard_113 : decode cX8_mixYard 113 = .ok (.goto (-35), 3) := by decide +kernel
theorem dX8_mixYard_116 : decode cX8_mixYard 116 = .ok (.iconst 0, 1) := by decide +kernel
theorem dX8_mixYard_117 : decode cX8_mixYard 117 = .ok (.istore_n 1, 1) := by decide +kernel
theorem dX8_mixYard_118 : decode cX8_mixYard 118 = .ok (.iload_n 1, 1) := by decide +kernel
theorem dX8_mixYard_119 : decode cX8_mixYard 119 = .ok (.aload_n 0, 1) := by decide +kernel
theorem dX8_mixYard_120 : decode cX8_mixYard 120 = .ok (.getfield 236, 3) := by decide +kernel
theorem dX8_mixYard_123 : decode cX8_mixYard 123 = .ok (.if_icmp .ge 31, 3) := by decide +kernel
theorem dX8_mixYard_126 : decode cX8_mixYard 126 = .ok (.aload_n 0, 1) := by decide +kernel
theorem dX8_mixYard_127 : decode cX8_mixYard 127 = .ok (.aload_n 0, 1) := by decide +kernel
theorem dX8_mixYard_128 : decode cX8_mixYard 128 = .ok (.getfield 117, 3) := by decide +kernel
theorem dX8_mixYard_131 : decode cX8_mixYard 131 = .ok (.iload_n 1, 1) := by decide +kernel
theorem dX8_mixYard_132 : decode cX8_mixYard 132 = .ok (.iaload, 1) := by decide +kernel
theorem dX8_mixYard_133 : decode cX8_mixYard 133 = .ok (.i2l, 1) := by decide +kernel
theorem dX8_mixYard_134 : decode cX8_mixYard 134 = .ok (.invokevirtual 426, 3) := by decide +kernel
theorem dX8_mixYard_137 : decode cX8_mixYard 137 = .ok (.aload_n 0, 1) := by decide +kernel
theorem dX8_mixYard_138 : decode cX8_mixYard 138 = .ok (.aload_n 0, 1) := by decide +kernel
theorem dX8_mixYard_139 : decode cX8_mixYard 139 = .ok (.getfield 120, 3) := by decide +kernel
theorem dX8_mixYard_142 : decode cX8_mixYard 142 = .ok (.iload_n 1, 1) := by decide +kernel
theorem dX8_mixYard_143 : decode cX8_mixYard 143 = .ok (.iaload, 1) := by decide +kernel
theorem dX8_mixYard_144 : decode cX8_mixYard 144 = .ok (.i2l, 1) := by decide +kernel
theorem dX8_mixYard_145 : decode cX8_mixYard 145 = .ok (.invokevirtual 426, 3) := by decide +kernel
theorem dX8_mixYard_148 : decode cX8_mixYard 148 = .ok (.iinc 1 1, 3) := by decide +kernel
theorem dX8_mixYard_151 : decode cX8_mixYard 151 = .ok (.goto (-33), 3) := by decide +kernel
theorem dX8_mixYard_154 : decode cX8_mixYard 154 = .ok (.iconst 0, 1) := by decide +kernel
theorem dX8_mixYard_155 : decode cX8_mixYard 155 = .ok (.istore_n 1, 1) := by decide +kernel
theorem dX8_mixYard_156 : decode cX8_mixYard 156 = .ok (.iload_n 1, 1) := by decide +kernel
theorem dX8_mixYard_157 : decode cX8_mixYard 157 = .ok (.aload_n 0, 1) := by decide +kernel
theorem dX8_mixYard_158 : decode cX8_mixYard 158 = .ok (.getfield 233, 3) := by decide +kernel
theorem dX8_mixYard_161 : decode cX8_mixYard 161 = .ok (.if_icmp .ge 20, 3) := by decide +kernel
theorem dX8_mixYard_164 : decode cX8_mixYard 164 = .ok (.aload_n 0, 1) := by decide +kernel
theorem dX8_mixYard_165 : decode cX8_mixYard 165 = .ok (.aload_n 0, 1) := by decide +kernel
theorem dX8_mixYard_166 : decode cX8_mixYard 166 = .ok (.getfield 59, 3) := by decide +kernel
theorem dX8_mixYard_169 : decode cX8_mixYard 169 = .ok (.iload_n 1, 1) := by decide +kernel
theorem dX8_mixYard_170 : decode cX8_mixYard 170 = .ok (.iaload, 1) := by decide +kernel
theorem dX8_mixYard_171 : decode cX8_mixYard 171 = .ok (.i2l, 1) := by decide +kernel
theorem dX8_mixYard_172 : decode cX8_mixYard 172 = .ok (.invokevirtual 426, 3) := by decide +kernel
theorem dX8_mixYard_175 : decode cX8_mixYard 175 = .ok (.iinc 1 1, 3) := by decide +kernel
theorem dX8_mixYard_178 : decode cX8_mixYard 178 = .ok (.goto (-22), 3) := by decide +kernel
theorem dX8_mixYard_181 : decode cX8_mixYard 181 = .ok (.iconst 0, 1) := by decide +kernel
theorem dX8_mixYard_182 : decode cX8_mixYard 182 = .ok (.istore_n 1, 1) := by decide +kernel
theorem dX8_mixYard_183 : decode cX8_mixYard 183 = .ok (.iload_n 1, 1) := by decide +kernel
theorem dX8_mixYard_184 : decode cX8_mixYard 184 = .ok (.iconst 3, 1) := by decide +kernel
theorem dX8_mixYard_185 : decode cX8_mixYard 185 = .ok (.if_icmp .ge 35, 3) := by decide +kernel
theorem dX8_mixYard_188 : decode cX8_mixYard 188 = .ok (.aload_n 0, 1) := by decide +kernel
theorem dX8_mixYard_189 : decode cX8_mixYard 189 = .ok (.aload_n 0, 1) := by decide +kernel
theorem dX8_mixYard_190 : decode cX8_mixYard 190 = .ok (.getfield 65, 3) := by decide +kernel
theorem dX8_mixYard_193 : decode cX8_mixYard 193 = .ok (.iload_n 1, 1) := by decide +kernel
theorem dX8_mixYard_194 : decode cX8_mixYard 194 = .ok (.baload, 1) := by decide +kernel
theorem dX8_mixYard_195 : decode cX8_mixYard 195 = .ok (.ifCond .eq 13, 3) := by decide +kernel
theorem dX8_mixYard_198 : decode cX8_mixYard 198 = .ok (.aload_n 0, 1) := by decide +kernel
theorem dX8_mixYard_199 : decode cX8_mixYard 199 = .ok (.getfield 69, 3) := by decide +kernel
theorem dX8_mixYard_202 : decode cX8_mixYard 202 = .ok (.iload_n 1, 1) := by decide +kernel
theorem dX8_mixYard_203 : decode cX8_mixYard 203 = .ok (.iaload, 1) := by decide +kernel
theorem dX8_mixYard_204 : decode cX8_mixYard 204 = .ok (.i2l, 1) := by decide +kernel
theorem dX8_mixYard_205 : decode cX8_mixYard 205 = .ok (.goto 6, 3) := by decide +kernel
theorem dX8_mixYard_208 : decode cX8_mixYard 208 = .ok (.ldc2_w 430, 3) := by decide +kernel
theorem dX8_mixYard_211 : decode cX8_mixYard 211 = .ok (.invokevirtual 426, 3) := by decide +kernel
theorem dX8_mixYard_214 : decode cX8_mixYard 214 = .ok (.iinc 1 1, 3) := by decide +kernel
theorem dX8_mixYard_217 : decode cX8_mixYard 217 = .ok (.goto (-34), 3) := by decide +kernel
theorem dX8_mixYard_220 : decode cX8_mixYard 220 = .ok (.return_, 1) := by decide +kernel
theorem dX8_digest_0 : decode cX8_digest 0 = .ok (.aload_n 0, 1) := by decide +kernel
theorem dX8_digest_1 : decode cX8_digest 1 = .ok (.ldc2_w 432, 3) := by decide +kernel
theorem dX8_digest_4 : decode cX8_digest 4 = .ok (.putfield 422, 3) := by decide +kernel
theorem dX8_digest_7 : decode cX8_digest 7 = .ok (.iconst 0, 1) := by decide +kernel
theorem dX8_digest_8 : decode cX8_digest 8 = .ok (.istore_n 1, 1) := by decide +kernel
theorem dX8_digest_9 : decode cX8_digest 9 = .ok (.iload_n 1, 1) := by decide +kernel
theorem dX8_digest_10 : decode cX8_digest 10 = .ok (.bipush 10, 2) := by decide +kernel
theorem dX8_digest_12 : decode cX8_digest 12 = .ok (.if_icmp .ge 19, 3) := by decide +kernel
theorem dX8_digest_15 : decode cX8_digest 15 = .ok (.aload_n 0, 1) := by decide +kernel
theorem dX8_digest_16 : decode cX8_digest 16 = .ok (.aload_n 0, 1) := by decide +kernel
theorem dX8_digest_17 : decode cX8_digest 17 = .ok (.iload_n 1, 1) := by decide +kernel
theorem dX8_digest_18 : decode cX8_digest 18 = .ok (.invokevirtual 417, 3) := by decide +kernel
theorem dX8_digest_21 : decode cX8_digest 21 = .ok (.i2l, 1) := by decide +kernel
theorem dX8_digest_22 : decode cX8_digest 22 = .ok (.invokevirtual 426, 3) := by decide +kernel
theorem dX8_digest_25 : decode cX8_digest 25 = .ok (.iinc 1 1, 3) := by decide +kernel
theorem dX8_digest_28 : decode cX8_digest 28 = .ok (.goto (-19), 3) := by decide +kernel
theorem dX8_digest_31 : decode cX8_digest 31 = .ok (.aload_n 0, 1) := by decide +kernel
theorem dX8_digest_32 : decode cX8_digest 32 = .ok (.invokevirtual 434, 3) := by decide +kernel
theorem dX8_digest_35 : decode cX8_digest 35 = .ok (.iconst 0, 1) := by decide +kernel
theorem dX8_digest_36 : decode cX8_digest 36 = .ok (.istore_n 1, 1) := by decide +kernel
theorem dX8_digest_37 : decode cX8_digest 37 = .ok (.iload_n 1, 1) := by decide +kernel
theorem dX8_digest_38 : decode cX8_digest 38 = .ok (.bipush 6, 2) := by decide +kernel
theorem dX8_digest_40 : decode cX8_digest 40 = .ok (.if_icmp .ge 49, 3) := by decide +kernel
theorem dX8_digest_43 : decode cX8_digest 43 = .ok (.aload_n 0, 1) := by decide +kernel
theorem dX8_digest_44 : decode cX8_digest 44 = .ok (.aload_n 0, 1) := by decide +kernel
theorem dX8_digest_45 : decode cX8_digest 45 = .ok (.getfield 13, 3) := by decide +kernel
theorem dX8_digest_48 : decode cX8_digest 48 = .ok (.iload_n 1, 1) := by decide +kernel
theorem dX8_digest_49 : decode cX8_digest 49 = .ok (.iaload, 1) := by decide +kernel
theorem dX8_digest_50 : decode cX8_digest 50 = .ok (.i2l, 1) := by decide +kernel
theorem dX8_digest_51 : decode cX8_digest 51 = .ok (.invokevirtual 426, 3) := by decide +kernel
theorem dX8_digest_54 : decode cX8_digest 54 = .ok (.iconst 0, 1) := by decide +kernel
theorem dX8_digest_55 : decode cX8_digest 55 = .ok (.istore_n 2, 1) := by decide +kernel
theorem dX8_digest_56 : decode cX8_digest 56 = .ok (.iload_n 2, 1) := by decide +kernel
theorem dX8_digest_57 : decode cX8_digest 57 = .ok (.aload_n 0, 1) := by decide +kernel
theorem dX8_digest_58 : decode cX8_digest 58 = .ok (.getfield 13, 3) := by decide +kernel
theorem dX8_digest_61 : decode cX8_digest 61 = .ok (.iload_n 1, 1) := by decide +kernel
theorem dX8_digest_62 : decode cX8_digest 62 = .ok (.iaload, 1) := by decide +kernel
theorem dX8_digest_63 : decode cX8_digest 63 = .ok (.if_icmp .ge 20, 3) := by decide +kernel
theorem dX8_digest_66 : decode cX8_digest 66 = .ok (.aload_n 0, 1) := by decide +kernel
theorem dX8_digest_67 : decode cX8_digest 67 = .ok (.aload_n 0, 1) := by decide +kernel
theorem dX8_digest_68 : decode cX8_digest 68 = .ok (.iload_n 1, 1) := by decide +kernel
theorem dX8_digest_69 : decode cX8_digest 69 = .ok (.iload_n 2, 1) := by decide +kernel
theorem dX8_digest_70 : decode cX8_digest 70 = .ok (.invokevirtual 148, 3) := by decide +kernel
theorem dX8_digest_73 : decode cX8_digest 73 = .ok (.i2l, 1) := by decide +kernel
theorem dX8_digest_74 : decode cX8_digest 74 = .ok (.invokevirtual 426, 3) := by decide +kernel
theorem dX8_digest_77 : decode cX8_digest 77 = .ok (.iinc 2 1, 3) := by decide +kernel
theorem dX8_digest_80 : decode cX8_digest 80 = .ok (.goto (-24), 3) := by decide +kernel
theorem dX8_digest_83 : decode cX8_digest 83 = .ok (.iinc 1 1, 3) := by decide +kernel
theorem dX8_digest_86 : decode cX8_digest 86 = .ok (.goto (-49), 3) := by decide +kernel
theorem dX8_digest_89 : decode cX8_digest 89 = .ok (.iconst 0, 1) := by decide +kernel
theorem dX8_digest_90 : decode cX8_digest 90 = .ok (.istore_n 1, 1) := by decide +kernel
theorem dX8_digest_91 : decode cX8_digest 91 = .ok (.iload_n 1, 1) := by decide +kernel
theorem dX8_digest_92 : decode cX8_digest 92 = .ok (.iconst 4, 1) := by decide +kernel
theorem dX8_digest_93 : decode cX8_digest 93 = .ok (.if_icmp .ge 49, 3) := by decide +kernel
theorem dX8_digest_96 : decode cX8_digest 96 = .ok (.aload_n 0, 1) := by decide +kernel
theorem dX8_digest_97 : decode cX8_digest 97 = .ok (.aload_n 0, 1) := by decide +kernel
theorem dX8_digest_98 : decode cX8_digest 98 = .ok (.getfield 22, 3) := by decide +kernel
theorem dX8_digest_101 : decode cX8_digest 101 = .ok (.iload_n 1, 1) := by decide +kernel
theorem dX8_digest_102 : decode cX8_digest 102 = .ok (.iaload, 1) := by decide +kernel
theorem dX8_digest_103 : decode cX8_digest 103 = .ok (.i2l, 1) := by decide +kernel
theorem dX8_digest_104 : decode cX8_digest 104 = .ok (.invokevirtual 426, 3) := by decide +kernel
theorem dX8_digest_107 : decode cX8_digest 107 = .ok (.iconst 0, 1) := by decide +kernel
theorem dX8_digest_108 : decode cX8_digest 108 = .ok (.istore_n 2, 1) := by decide +kernel
theorem dX8_digest_109 : decode cX8_digest 109 = .ok (.iload_n 2, 1) := by decide +kernel
theorem dX8_digest_110 : decode cX8_digest 110 = .ok (.aload_n 0, 1) := by decide +kernel
theorem dX8_digest_111 : decode cX8_digest 111 = .ok (.getfield 22, 3) := by decide +kernel
theorem dX8_digest_114 : decode cX8_digest 114 = .ok (.iload_n 1, 1) := by decide +kernel
theorem dX8_digest_115 : decode cX8_digest 115 = .ok (.iaload, 1) := by decide +kernel
theorem dX8_digest_116 : decode cX8_digest 116 = .ok (.if_icmp .ge 20, 3) := by decide +kernel
theorem dX8_digest_119 : decode cX8_digest 119 = .ok (.aload_n 0, 1) := by decide +kernel
theorem dX8_digest_120 : decode cX8_digest 120 = .ok (.aload_n 0, 1) := by decide +kernel
theorem dX8_digest_121 : decode cX8_digest 121 = .ok (.iload_n 1, 1) := by decide +kernel
theorem dX8_digest_122 : decode cX8_digest 122 = .ok (.iload_n 2, 1) := by decide +kernel
theorem dX8_digest_123 : decode cX8_digest 123 = .ok (.invokevirtual 176, 3) := by decide +kernel
theorem dX8_digest_126 : decode cX8_digest 126 = .ok (.i2l, 1) := by decide +kernel
theorem dX8_digest_127 : decode cX8_digest 127 = .ok (.invokevirtual 426, 3) := by decide +kernel
theorem dX8_digest_130 : decode cX8_digest 130 = .ok (.iinc 2 1, 3) := by decide +kernel
theorem dX8_digest_133 : decode cX8_digest 133 = .ok (.goto (-24), 3) := by decide +kernel
theorem dX8_digest_136 : decode cX8_digest 136 = .ok (.iinc 1 1, 3) := by decide +kernel
theorem dX8_digest_139 : decode cX8_digest 139 = .ok (.goto (-48), 3) := by decide +kernel
theorem dX8_digest_142 : decode cX8_digest 142 = .ok (.aload_n 0, 1) := by decide +kernel
theorem dX8_digest_143 : decode cX8_digest 143 = .ok (.getfield 422, 3) := by decide +kernel
theorem dX8_digest_146 : decode cX8_digest 146 = .ok (.lreturn, 1) := by decide +kernel
theorem dJ6_bitCount_0f7a4_0 : decode cJ6_bitCount_0f7a4 0 = .ok (.iload_n 0, 1) := by decide +kernel
theorem dJ6_bitCount_0f7a4_1 : decode cJ6_bitCount_0f7a4 1 = .ok (.iload_n 0, 1) := by decide +kernel
theorem dJ6_bitCount_0f7a4_2 : decode cJ6_bitCount_0f7a4 2 = .ok (.iconst 1, 1) := by decide +kernel
theorem dJ6_bitCount_0f7a4_3 : decode cJ6_bitCount_0f7a4 3 = .ok (.iushr, 1) := by decide +kernel
theorem dJ6_bitCount_0f7a4_4 : decode cJ6_bitCount_0f7a4 4 = .ok (.ldc_w 265, 3) := by decide +kernel
theorem dJ6_bitCount_0f7a4_7 : decode cJ6_bitCount_0f7a4 7 = .ok (.iand, 1) := by decide +kernel
theorem dJ6_bitCount_0f7a4_8 : decode cJ6_bitCount_0f7a4 8 = .ok (.isub, 1) := by decide +kernel
theorem dJ6_bitCount_0f7a4_9 : decode cJ6_bitCount_0f7a4 9 = .ok (.istore_n 0, 1) := by decide +kernel
theorem dJ6_bitCount_0f7a4_10 : decode cJ6_bitCount_0f7a4 10 = .ok (.iload_n 0, 1) := by decide +kernel
theorem dJ6_bitCount_0f7a4_11 : decode cJ6_bitCount_0f7a4 11 = .ok (.ldc_w 266, 3) := by decide +kernel
theorem dJ6_bitCount_0f7a4_14 : decode cJ6_bitCount_0f7a4 14 = .ok (.iand, 1) := by decide +kernel
theorem dJ6_bitCount_0f7a4_15 : decode cJ6_bitCount_0f7a4 15 = .ok (.iload_n 0, 1) := by decide +kernel
theorem dJ6_bitCount_0f7a4_16 : decode cJ6_bitCount_0f7a4 16 = .ok (.iconst 2, 1) := by decide +kernel
theorem dJ6_bitCount_0f7a4_17 : decode cJ6_bitCount_0f7a4 17 = .ok (.iushr, 1) := by decide +kernel
theorem dJ6_bitCount_0f7a4_18 : decode cJ6_bitCount_0f7a4 18 = .ok (.ldc_w 266, 3) := by decide +kernel
theorem dJ6_bitCount_0f7a4_21 : decode cJ6_bitCount_0f7a4 21 = .ok (.iand, 1) := by decide +kernel
theorem dJ6_bitCount_0f7a4_22 : decode cJ6_bitCount_0f7a4 22 = .ok (.iadd, 1) := by decide +kernel
theorem dJ6_bitCount_0f7a4_23 : decode cJ6_bitCount_0f7a4 23 = .ok (.istore_n 0, 1) := by decide +kernel
theorem dJ6_bitCount_0f7a4_24 : decode cJ6_bitCount_0f7a4 24 = .ok (.iload_n 0, 1) := by decide +kernel
theorem dJ6_bitCount_0f7a4_25 : decode cJ6_bitCount_0f7a4 25 = .ok (.iload_n 0, 1) := by decide +kernel
theorem dJ6_bitCount_0f7a4_26 : decode cJ6_bitCount_0f7a4 26 = .ok (.iconst 4, 1) := by decide +kernel
theorem dJ6_bitCount_0f7a4_27 : decode cJ6_bitCount_0f7a4 27 = .ok (.iushr, 1) := by decide +kernel
theorem dJ6_bitCount_0f7a4_28 : decode cJ6_bitCount_0f7a4 28 = .ok (.iadd, 1) := by decide +kernel
theorem dJ6_bitCount_0f7a4_29 : decode cJ6_bitCount_0f7a4 29 = .ok (.ldc_w 267, 3) := by decide +kernel
theorem dJ6_bitCount_0f7a4_32 : decode cJ6_bitCount_0f7a4 32 = .ok (.iand, 1) := by decide +kernel
theorem dJ6_bitCount_0f7a4_33 : decode cJ6_bitCount_0f7a4 33 = .ok (.istore_n 0, 1) := by decide +kernel
theorem dJ6_bitCount_0f7a4_34 : decode cJ6_bitCount_0f7a4 34 = .ok (.iload_n 0, 1) := by decide +kernel
theorem dJ6_bitCount_0f7a4_35 : decode cJ6_bitCount_0f7a4 35 = .ok (.iload_n 0, 1) := by decide +kernel
theorem dJ6_bitCount_0f7a4_36 : decode cJ6_bitCount_0f7a4 36 = .ok (.bipush 8, 2) := by decide +kernel
theorem dJ6_bitCount_0f7a4_38 : decode cJ6_bitCount_0f7a4 38 = .ok (.iushr, 1) := by decide +kernel
theorem dJ6_bitCount_0f7a4_39 : decode cJ6_bitCount_0f7a4 39 = .ok (.iadd, 1) := by decide +kernel
theorem dJ6_bitCount_0f7a4_40 : decode cJ6_bitCount_0f7a4 40 = .ok (.istore_n 0, 1) := by decide +kernel
theorem dJ6_bitCount_0f7a4_41 : decode cJ6_bitCount_0f7a4 41 = .ok (.iload_n 0, 1) := by decide +kernel
theorem dJ6_bitCount_0f7a4_42 : decode cJ6_bitCount_0f7a4 42 = .ok (.iload_n 0, 1) := by decide +kernel
theorem dJ6_bitCount_0f7a4_43 : decode cJ6_bitCount_0f7a4 43 = .ok (.bipush 16, 2) := by decide +kernel
theorem dJ6_bitCount_0f7a4_45 : decode cJ6_bitCount_0f7a4 45 = .ok (.iushr, 1) := by decide +kernel
theorem dJ6_bitCount_0f7a4_46 : decode cJ6_bitCount_0f7a4 46 = .ok (.iadd, 1) := by decide +kernel
theorem dJ6_bitCount_0f7a4_47 : decode cJ6_bitCount_0f7a4 47 = .ok (.istore_n 0, 1) := by decide +kernel
theorem dJ6_bitCount_0f7a4_48 : decode cJ6_bitCount_0f7a4 48 = .ok (.iload_n 0, 1) := by decide +kernel
theorem dJ6_bitCount_0f7a4_49 : decode cJ6_bitCount_0f7a4 49 = .ok (.bipush 63, 2) := by decide +kernel
theorem dJ6_bitCount_0f7a4_51 : decode cJ6_bitCount_0f7a4 51 = .ok (.iand, 1) := by decide +kernel
theorem dJ6_bitCount_0f7a4_52 : decode cJ6_bitCount_0f7a4 52 = .ok (.ireturn, 1) := by decide +kernel
theorem dJ9_abs_0f7a4_0 : decode cJ9_abs_0f7a4 0 = .ok (.iload_n 0, 1) := by decide +kernel
theorem dJ9_abs_0f7a4_1 : decode cJ9_abs_0f7a4 1 = .ok (.ifCond .ge 8, 3) := by decide +kernel
theorem dJ9_abs_0f7a4_4 : decode cJ9_abs_0f7a4 4 = .ok (.iload_n 0, 1) := by decide +kernel
theorem dJ9_abs_0f7a4_5 : decode cJ9_abs_0f7a4 5 = .ok (.ineg, 1) := by decide +kernel
theorem dJ9_abs_0f7a4_6 : decode cJ9_abs_0f7a4 6 = .ok (.goto 4, 3) := by decide +kernel
theorem dJ9_abs_0f7a4_9 : decode cJ9_abs_0f7a4 9 = .ok (.iload_n 0, 1) := by decide +kernel
theorem dJ9_abs_0f7a4_10 : decode cJ9_abs_0f7a4 10 = .ok (.ireturn, 1) := by decide +kernel
theorem dJ9_max_7cf53_0 : decode cJ9_max_7cf53 0 = .ok (.iload_n 0, 1) := by decide +kernel
theorem dJ9_max_7cf53_1 : decode cJ9_max_7cf53 1 = .ok (.iload_n 1, 1) := by decide +kernel
theorem dJ9_max_7cf53_2 : decode cJ9_max_7cf53 2 = .ok (.if_icmp .lt 7, 3) := by decide +kernel
theorem dJ9_max_7cf53_5 : decode cJ9_max_7cf53 5 = .ok (.iload_n 0, 1) := by decide +kernel
theorem dJ9_max_7cf53_6 : decode cJ9_max_7cf53 6 = .ok (.goto 4, 3) := by decide +kernel
theorem dJ9_max_7cf53_9 : decode cJ9_max_7cf53 9 = .ok (.iload_n 1, 1) := by decide +kernel
theorem dJ9_max_7cf53_10 : decode cJ9_max_7cf53 10 = .ok (.ireturn, 1) := by decide +kernel
theorem dJ9_min_7cf53_0 : decode cJ9_min_7cf53 0 = .ok (.iload_n 0, 1) := by decide +kernel
theorem dJ9_min_7cf53_1 : decode cJ9_min_7cf53 1 = .ok (.iload_n 1, 1) := by decide +kernel
theorem dJ9_min_7cf53_2 : decode cJ9_min_7cf53 2 = .ok (.if_icmp .gt 7, 3) := by decide +kernel
theorem dJ9_min_7cf53_5 : decode cJ9_min_7cf53 5 = .ok (.iload_n 0, 1) := by decide +kernel
theorem dJ9_min_7cf53_6 : decode cJ9_min_7cf53 6 = .ok (.goto 4, 3) := by decide +kernel
theorem dJ9_min_7cf53_9 : decode cJ9_min_7cf53 9 = .ok (.iload_n 1, 1) := by decide +kernel
theorem dJ9_min_7cf53_10 : decode cJ9_min_7cf53 10 = .ok (.ireturn, 1) := by decide +kernel
theorem dJ7_fill_53178_0 : decode cJ7_fill_53178 0 = .ok (.iconst 0, 1) := by decide +kernel
theorem dJ7_fill_53178_1 : decode cJ7_fill_53178 1 = .ok (.istore_n 2, 1) := by decide +kernel
theorem dJ7_fill_53178_2 : decode cJ7_fill_53178 2 = .ok (.aload_n 0, 1) := by decide +kernel
theorem dJ7_fill_53178_3 : decode cJ7_fill_53178 3 = .ok (.arraylength, 1) := by decide +kernel
theorem dJ7_fill_53178_4 : decode cJ7_fill_53178 4 = .ok (.istore_n 3, 1) := by decide +kernel
theorem dJ7_fill_53178_5 : decode cJ7_fill_53178 5 = .ok (.iload_n 2, 1) := by decide +kernel
theorem dJ7_fill_53178_6 : decode cJ7_fill_53178 6 = .ok (.iload_n 3, 1) := by decide +kernel
theorem dJ7_fill_53178_7 : decode cJ7_fill_53178 7 = .ok (.if_icmp .ge 13, 3) := by decide +kernel
theorem dJ7_fill_53178_10 : decode cJ7_fill_53178 10 = .ok (.aload_n 0, 1) := by decide +kernel
theorem dJ7_fill_53178_11 : decode cJ7_fill_53178 11 = .ok (.iload_n 2, 1) := by decide +kernel
theorem dJ7_fill_53178_12 : decode cJ7_fill_53178 12 = .ok (.iload_n 1, 1) := by decide +kernel
theorem dJ7_fill_53178_13 : decode cJ7_fill_53178 13 = .ok (.iastore, 1) := by decide +kernel
theorem dJ7_fill_53178_14 : decode cJ7_fill_53178 14 = .ok (.iinc 2 1, 3) := by decide +kernel
theorem dJ7_fill_53178_17 : decode cJ7_fill_53178 17 = .ok (.goto (-12), 3) := by decide +kernel
theorem dJ7_fill_53178_20 : decode cJ7_fill_53178 20 = .ok (.return_, 1) := by decide +kernel
theorem dL_law_0 : decode cL_law 0 = .ok (.new 7, 3) := by decide +kernel
theorem dL_law_3 : decode cL_law 3 = .ok (.dup, 1) := by decide +kernel
theorem dL_law_4 : decode cL_law 4 = .ok (.invokespecial 9, 3) := by decide +kernel
theorem dL_law_7 : decode cL_law 7 = .ok (.astore_n 1, 1) := by decide +kernel
theorem dL_law_8 : decode cL_law 8 = .ok (.new 10, 3) := by decide +kernel
theorem dL_law_11 : decode cL_law 11 = .ok (.dup, 1) := by decide +kernel
theorem dL_law_12 : decode cL_law 12 = .ok (.invokespecial 12, 3) := by decide +kernel
theorem dL_law_15 : decode cL_law 15 = .ok (.astore_n 2, 1) := by decide +kernel
theorem dL_law_16 : decode cL_law 16 = .ok (.iconst 0, 1) := by decide +kernel
theorem dL_law_17 : decode cL_law 17 = .ok (.istore_n 3, 1) := by decide +kernel
theorem dL_law_18 : decode cL_law 18 = .ok (.iload_n 3, 1) := by decide +kernel
theorem dL_law_19 : decode cL_law 19 = .ok (.aload_n 0, 1) := by decide +kernel
theorem dL_law_20 : decode cL_law 20 = .ok (.arraylength, 1) := by decide +kernel
theorem dL_law_21 : decode cL_law 21 = .ok (.bipush 6, 2) := by decide +kernel
theorem dL_law_23 : decode cL_law 23 = .ok (.isub, 1) := by decide +kernel
theorem dL_law_24 : decode cL_law 24 = .ok (.if_icmp .gt 1418, 3) := by decide +kernel
theorem dL_law_27 : decode cL_law 27 = .ok (.aload_n 0, 1) := by decide +kernel
theorem dL_law_28 : decode cL_law 28 = .ok (.iload_n 3, 1) := by decide +kernel
theorem dL_law_29 : decode cL_law 29 = .ok (.iaload, 1) := by decide +kernel
theorem dL_law_30 : decode cL_law 30 = .ok (.bipush 63, 2) := by decide +kernel
theorem dL_law_32 : decode cL_law 32 = .ok (.iand, 1) := by decide +kernel
theorem dL_law_33 : decode cL_law 33 = .ok (.tableswitch 1403 0 44 #[195, 228, 271, 304, 327, 390, 413, 446, 489, 512, 535, 568, 601, 634, 657, 690, 723, 746, 769, 792, 815, 838, 861, 894, 907, 930, 963, 986, 1019, 1042, 1075, 1098, 1131, 1154, 1177, 1210, 1233, 1256, 1289, 1302, 1316, 1330, 1353, 1366, 1389], 195) := by decide +kernel
theorem dL_law_228 : decode cL_law 228 = .ok (.aload_n 1, 1) := by decide +kernel
theorem dL_law_229 : decode cL_law 229 = .ok (.aload_n 0, 1) := by decide +kernel
theorem dL_law_230 : decode cL_law 230 = .ok (.iload_n 3, 1) := by decide +kernel
theorem dL_law_231 : decode cL_law 231 = .ok (.iconst 1, 1) := by decide +kernel
theorem dL_law_232 : decode cL_law 232 = .ok (.iadd, 1) := by decide +kernel
theorem dL_law_233 : decode cL_law 233 = .ok (.iaload, 1) := by decide +kernel
theorem dL_law_234 : decode cL_law 234 = .ok (.aload_n 0, 1) := by decide +kernel
theorem dL_law_235 : decode cL_law 235 = .ok (.iload_n 3, 1) := by decide +kernel
theorem dL_law_236 : decode cL_law 236 = .ok (.iconst 2, 1) := by decide +kernel
theorem dL_law_237 : decode cL_law 237 = .ok (.iadd, 1) := by decide +kernel
theorem dL_law_238 : decode cL_law 238 = .ok (.iaload, 1) := by decide +kernel
theorem dL_law_239 : decode cL_law 239 = .ok (.invokevirtual 13, 3) := by decide +kernel
theorem dL_law_242 : decode cL_law 242 = .ok (.aload_n 2, 1) := by decide +kernel
theorem dL_law_243 : decode cL_law 243 = .ok (.aload_n 0, 1) := by decide +kernel
theorem dL_law_244 : decode cL_law 244 = .ok (.iload_n 3, 1) := by decide +kernel
theorem dL_law_245 : decode cL_law 245 = .ok (.iconst 1, 1) := by decide +kernel
theorem dL_law_246 : decode cL_law 246 = .ok (.iadd, 1) := by decide +kernel
theorem dL_law_247 : decode cL_law 247 = .ok (.iaload, 1) := by decide +kernel
theorem dL_law_248 : decode cL_law 248 = .ok (.aload_n 0, 1) := by decide +kernel
theorem dL_law_249 : decode cL_law 249 = .ok (.iload_n 3, 1) := by decide +kernel
theorem dL_law_250 : decode cL_law 250 = .ok (.iconst 2, 1) := by decide +kernel
theorem dL_law_251 : decode cL_law 251 = .ok (.iadd, 1) := by decide +kernel
theorem dL_law_252 : decode cL_law 252 = .ok (.iaload, 1) := by decide +kernel
theorem dL_law_253 : decode cL_law 253 = .ok (.invokevirtual 17, 3) := by decide +kernel
theorem dL_law_256 : decode cL_law 256 = .ok (.if_icmp .eq 1180, 3) := by decide +kernel
theorem dL_law_259 : decode cL_law 259 = .ok (.iconst 0, 1) := by decide +kernel
theorem dL_law_260 : decode cL_law 260 = .ok (.ireturn, 1) := by decide +kernel
theorem dL_law_261 : decode cL_law 261 = .ok (.aload_n 1, 1) := by decide +kernel
theorem dL_law_262 : decode cL_law 262 = .ok (.aload_n 0, 1) := by decide +kernel
theorem dL_law_263 : decode cL_law 263 = .ok (.iload_n 3, 1) := by decide +kernel
theorem dL_law_264 : decode cL_law 264 = .ok (.iconst 1, 1) := by decide +kernel
theorem dL_law_265 : decode cL_law 265 = .ok (.iadd, 1) := by decide +kernel
theorem dL_law_266 : decode cL_law 266 = .ok (.iaload, 1) := by decide +kernel
theorem dL_law_267 : decode cL_law 267 = .ok (.aload_n 0, 1) := by decide +kernel
theorem dL_law_268 : decode cL_law 268 = .ok (.iload_n 3, 1) := by decide +kernel
theorem dL_law_269 : decode cL_law 269 = .ok (.iconst 2, 1) := by decide +kernel
theorem dL_law_270 : decode cL_law 270 = .ok (.iadd, 1) := by decide +kernel
theorem dL_law_271 : decode cL_law 271 = .ok (.iaload, 1) := by decide +kernel
theorem dL_law_272 : decode cL_law 272 = .ok (.aload_n 0, 1) := by decide +kernel
theorem dL_law_273 : decode cL_law 273 = .ok (.iload_n 3, 1) := by decide +kernel
theorem dL_law_274 : decode cL_law 274 = .ok (.iconst 3, 1) := by decide +kernel
theorem dL_law_275 : decode cL_law 275 = .ok (.iadd, 1) := by decide +kernel
theorem dL_law_276 : decode cL_law 276 = .ok (.iaload, 1) := by decide +kernel
theorem dL_law_277 : decode cL_law 277 = .ok (.invokevirtual 18, 3) := by decide +kernel
theorem dL_law_280 : decode cL_law 280 = .ok (.aload_n 2, 1) := by decide +kernel
theorem dL_law_281 : decode cL_law 281 = .ok (.aload_n 0, 1) := by decide +kernel
theorem dL_law_282 : decode cL_law 282 = .ok (.iload_n 3, 1) := by decide +kernel
theorem dL_law_283 : decode cL_law 283 = .ok (.iconst 1, 1) := by decide +kernel
theorem dL_law_284 : decode cL_law 284 = .ok (.iadd, 1) := by decide +kernel
theorem dL_law_285 : decode cL_law 285 = .ok (.iaload, 1) := by decide +kernel
theorem dL_law_286 : decode cL_law 286 = .ok (.aload_n 0, 1) := by decide +kernel
theorem dL_law_287 : decode cL_law 287 = .ok (.iload_n 3, 1) := by decide +kernel
theorem dL_law_288 : decode cL_law 288 = .ok (.iconst 2, 1) := by decide +kernel
theorem dL_law_289 : decode cL_law 289 = .ok (.iadd, 1) := by decide +kernel
theorem dL_law_290 : decode cL_law 290 = .ok (.iaload, 1) := by decide +kernel
theorem dL_law_291 : decode cL_law 291 = .ok (.aload_n 0, 1) := by decide +kernel
theorem dL_law_292 : decode cL_law 292 = .ok (.iload_n 3, 1) := by decide +kernel
theorem dL_law_293 : decode cL_law 293 = .ok (.iconst 3, 1) := by decide +kernel
theorem dL_law_294 : decode cL_law 294 = .ok (.iadd, 1) := by decide +kernel
theorem dL_law_295 : decode cL_law 295 = .ok (.iaload, 1) := by decide +kernel
theorem dL_law_296 : decode cL_law 296 = .ok (.invokevirtual 22, 3) := by decide +kernel
theorem dL_law_299 : decode cL_law 299 = .ok (.if_icmp .eq 1137, 3) := by decide +kernel
theorem dL_law_302 : decode cL_law 302 = .ok (.iconst 0, 1) := by decide +kernel
theorem dL_law_303 : decode cL_law 303 = .ok (.ireturn, 1) := by decide +kernel
theorem dL_law_304 : decode cL_law 304 = .ok (.aload_n 1, 1) := by decide +kernel
theorem dL_law_305 : decode cL_law 305 = .ok (.aload_n 0, 1) := by decide +kernel
theorem dL_law_306 : decode cL_law 306 = .ok (.iload_n 3, 1) := by decide +kernel
theorem dL_law_307 : decode cL_law 307 = .ok (.iconst 1, 1) := by decide +kernel
theorem dL_law_308 : decode cL_law 308 = .ok (.iadd, 1) := by decide +kernel
theorem dL_law_309 : decode cL_law 309 = .ok (.iaload, 1) := by decide +kernel
theorem dL_law_310 : decode cL_law 310 = .ok (.aload_n 0, 1) := by decide +kernel
theorem dL_law_311 : decode cL_law 311 = .ok (.iload_n 3, 1) := by decide +kernel
theorem dL_law_312 : decode cL_law 312 = .ok (.iconst 2, 1) := by decide +kernel
theorem dL_law_313 : decode cL_law 313 = .ok (.iadd, 1) := by decide +kernel
theorem dL_law_314 : decode cL_law 314 = .ok (.iaload, 1) := by decide +kernel
theorem dL_law_315 : decode cL_law 315 = .ok (.invokevirtual 23, 3) := by decide +kernel
theorem dL_law_318 : decode cL_law 318 = .ok (.aload_n 2, 1) := by decide +kernel
theorem dL_law_319 : decode cL_law 319 = .ok (.aload_n 0, 1) := by decide +kernel
theorem dL_law_320 : decode cL_law 320 = .ok (.iload_n 3, 1) := by decide +kernel
theorem dL_law_321 : decode cL_law 321 = .ok (.iconst 1, 1) := by decide +kernel
theorem dL_law_322 : decode cL_law 322 = .ok (.iadd, 1) := by decide +kernel
theorem dL_law_323 : decode cL_law 323 = .ok (.iaload, 1) := by decide +kernel
theorem dL_law_324 : decode cL_law 324 = .ok (.aload_n 0, 1) := by decide +kernel
theorem dL_law_325 : decode cL_law 325 = .ok (.iload_n 3, 1) := by decide +kernel
theorem dL_law_326 : decode cL_law 326 = .ok (.iconst 2, 1) := by decide +kernel
theorem dL_law_327 : decode cL_law 327 = .ok (.iadd, 1) := by decide +kernel
theorem dL_law_328 : decode cL_law 328 = .ok (.iaload, 1) := by decide +kernel
theorem dL_law_329 : decode cL_law 329 = .ok (.invokevirtual 26, 3) := by decide +kernel
theorem dL_law_332 : decode cL_law 332 = .ok (.if_icmp .eq 1104, 3) := by decide +kernel
theorem dL_law_335 : decode cL_law 335 = .ok (.iconst 0, 1) := by decide +kernel
theorem dL_law_336 : decode cL_law 336 = .ok (.ireturn, 1) := by decide +kernel
theorem dL_law_337 : decode cL_law 337 = .ok (.aload_n 1, 1) := by decide +kernel
theorem dL_law_338 : decode cL_law 338 = .ok (.aload_n 0, 1) := by decide +kernel
theorem dL_law_339 : decode cL_law 339 = .ok (.iload_n 3, 1) := by decide +kernel
theorem dL_law_340 : decode cL_law 340 = .ok (.iconst 1, 1) := by decide +kernel
theorem dL_law_341 : decode cL_law 341 = .ok (.iadd, 1) := by decide +kernel
theorem dL_law_342 : decode cL_law 342 = .ok (.iaload, 1) := by decide +kernel
theorem dL_law_343 : decode cL_law 343 = .ok (.invokevirtual 27, 3) := by decide +kernel
theorem dL_law_346 : decode cL_law 346 = .ok (.aload_n 2, 1) := by decide +kernel
theorem dL_law_347 : decode cL_law 347 = .ok (.aload_n 0, 1) := by decide +kernel
theorem dL_law_348 : decode cL_law 348 = .ok (.iload_n 3, 1) := by decide +kernel
theorem dL_law_349 : decode cL_law 349 = .ok (.iconst 1, 1) := by decide +kernel
theorem dL_law_350 : decode cL_law 350 = .ok (.iadd, 1) := by decide +kernel
theorem dL_law_351 : decode cL_law 351 = .ok (.iaload, 1) := by decide +kernel
theorem dL_law_352 : decode cL_law 352 = .ok (.invokevirtual 31, 3) := by decide +kernel
theorem dL_law_355 : decode cL_law 355 = .ok (.if_icmp .eq 1081, 3) := by decide +kernel
theorem dL_law_358 : decode cL_law 358 = .ok (.iconst 0, 1) := by decide +kernel
theorem dL_law_359 : decode cL_law 359 = .ok (.ireturn, 1) := by decide +kernel
theorem dL_law_360 : decode cL_law 360 = .ok (.aload_n 1, 1) := by decide +kernel
theorem dL_law_361 : decode cL_law 361 = .ok (.aload_n 0, 1) := by decide +kernel
theorem dL_law_362 : decode cL_law 362 = .ok (.iload_n 3, 1) := by decide +kernel
theorem dL_law_363 : decode cL_law 363 = .ok (.iconst 1, 1) := by decide +kernel
theorem dL_law_364 : decode cL_law 364 = .ok (.iadd, 1) := by decide +kernel
theorem dL_law_365 : decode cL_law 365 = .ok (.iaload, 1) := by decide +kernel
theorem dL_law_366 : decode cL_law 366 = .ok (.aload_n 0, 1) := by decide +kernel
theorem dL_law_367 : decode cL_law 367 = .ok (.iload_n 3, 1) := by decide +kernel
theorem dL_law_368 : decode cL_law 368 = .ok (.iconst 2, 1) := by decide +kernel
theorem dL_law_369 : decode cL_law 369 = .ok (.iadd, 1) := by decide +kernel
theorem dL_law_370 : decode cL_law 370 = .ok (.iaload, 1) := by decide +kernel
theorem dL_law_371 : decode cL_law 371 = .ok (.aload_n 0, 1) := by decide +kernel
theorem dL_law_372 : decode cL_law 372 = .ok (.iload_n 3, 1) := by decide +kernel
theorem dL_law_373 : decode cL_law 373 = .ok (.iconst 3, 1) := by decide +kernel
theorem dL_law_374 : decode cL_law 374 = .ok (.iadd, 1) := by decide +kernel
theorem dL_law_375 : decode cL_law 375 = .ok (.iaload, 1) := by decide +kernel
theorem dL_law_376 : decode cL_law 376 = .ok (.aload_n 0, 1) := by decide +kernel
theorem dL_law_377 : decode cL_law 377 = .ok (.iload_n 3, 1) := by decide +kernel
theorem dL_law_378 : decode cL_law 378 = .ok (.iconst 4, 1) := by decide +kernel
theorem dL_law_379 : decode cL_law 379 = .ok (.iadd, 1) := by decide +kernel
theorem dL_law_380 : decode cL_law 380 = .ok (.iaload, 1) := by decide +kernel
theorem dL_law_381 : decode cL_law 381 = .ok (.aload_n 0, 1) := by decide +kernel
theorem dL_law_382 : decode cL_law 382 = .ok (.iload_n 3, 1) := by decide +kernel
theorem dL_law_383 : decode cL_law 383 = .ok (.iconst 5, 1) := by decide +kernel
theorem dL_law_384 : decode cL_law 384 = .ok (.iadd, 1) := by decide +kernel
theorem dL_law_385 : decode cL_law 385 = .ok (.iaload, 1) := by decide +kernel
theorem dL_law_386 : decode cL_law 386 = .ok (.invokevirtual 32, 3) := by decide +kernel
theorem dL_law_389 : decode cL_law 389 = .ok (.aload_n 2, 1) := by decide +kernel
theorem dL_law_390 : decode cL_law 390 = .ok (.aload_n 0, 1) := by decide +kernel
theorem dL_law_391 : decode cL_law 391 = .ok (.iload_n 3, 1) := by decide +kernel
theorem dL_law_392 : decode cL_law 392 = .ok (.iconst 1, 1) := by decide +kernel
theorem dL_law_393 : decode cL_law 393 = .ok (.iadd, 1) := by decide +kernel
theorem dL_law_394 : decode cL_law 394 = .ok (.iaload, 1) := by decide +kernel
theorem dL_law_395 : decode cL_law 395 = .ok (.aload_n 0, 1) := by decide +kernel
theorem dL_law_396 : decode cL_law 396 = .ok (.iload_n 3, 1) := by decide +kernel
theorem dL_law_397 : decode cL_law 397 = .ok (.iconst 2, 1) := by decide +kernel
theorem dL_law_398 : decode cL_law 398 = .ok (.iadd, 1) := by decide +kernel
theorem dL_law_399 : decode cL_law 399 = .ok (.iaload, 1) := by decide +kernel
theorem dL_law_400 : decode cL_law 400 = .ok (.aload_n 0, 1) := by decide +kernel
theorem dL_law_401 : decode cL_law 401 = .ok (.iload_n 3, 1) := by decide +kernel
theorem dL_law_402 : decode cL_law 402 = .ok (.iconst 3, 1) := by decide +kernel
theorem dL_law_403 : decode cL_law 403 = .ok (.iadd, 1) := by decide +kernel
theorem dL_law_404 : decode cL_law 404 = .ok (.iaload, 1) := by decide +kernel
theorem dL_law_405 : decode cL_law 405 = .ok (.aload_n 0, 1) := by decide +kernel
theorem dL_law_406 : decode cL_law 406 = .ok (.iload_n 3, 1) := by decide +kernel
theorem dL_law_407 : decode cL_law 407 = .ok (.iconst 4, 1) := by decide +kernel
theorem dL_law_408 : decode cL_law 408 = .ok (.iadd, 1) := by decide +kernel
theorem dL_law_409 : decode cL_law 409 = .ok (.iaload, 1) := by decide +kernel
theorem dL_law_410 : decode cL_law 410 = .ok (.aload_n 0, 1) := by decide +kernel
theorem dL_law_411 : decode cL_law 411 = .ok (.iload_n 3, 1) := by decide +kernel
theorem dL_law_412 : decode cL_law 412 = .ok (.iconst 5, 1) := by decide +kernel
theorem dL_law_413 : decode cL_law 413 = .ok (.iadd, 1) := by decide +kernel
theorem dL_law_414 : decode cL_law 414 = .ok (.iaload, 1) := by decide +kernel
theorem dL_law_415 : decode cL_law 415 = .ok (.invokevirtual 36, 3) := by decide +kernel
theorem dL_law_418 : decode cL_law 418 = .ok (.if_icmp .eq 1018, 3) := by decide +kernel
theorem dL_law_421 : decode cL_law 421 = .ok (.iconst 0, 1) := by decide +kernel
theorem dL_law_422 : decode cL_law 422 = .ok (.ireturn, 1) := by decide +kernel
theorem dL_law_423 : decode cL_law 423 = .ok (.aload_n 1, 1) := by decide +kernel
theorem dL_law_424 : decode cL_law 424 = .ok (.aload_n 0, 1) := by decide +kernel
theorem dL_law_425 : decode cL_law 425 = .ok (.iload_n 3, 1) := by decide +kernel
theorem dL_law_426 : decode cL_law 426 = .ok (.iconst 1, 1) := by decide +kernel
theorem dL_law_427 : decode cL_law 427 = .ok (.iadd, 1) := by decide +kernel
theorem dL_law_428 : decode cL_law 428 = .ok (.iaload, 1) := by decide +kernel
theorem dL_law_429 : decode cL_law 429 = .ok (.invokevirtual 37, 3) := by decide +kernel
theorem dL_law_432 : decode cL_law 432 = .ok (.aload_n 2, 1) := by decide +kernel
theorem dL_law_433 : decode cL_law 433 = .ok (.aload_n 0, 1) := by decide +kernel
theorem dL_law_434 : decode cL_law 434 = .ok (.iload_n 3, 1) := by decide +kernel
theorem dL_law_435 : decode cL_law 435 = .ok (.iconst 1, 1) := by decide +kernel
theorem dL_law_436 : decode cL_law 436 = .ok (.iadd, 1) := by decide +kernel
theorem dL_law_437 : decode cL_law 437 = .ok (.iaload, 1) := by decide +kernel
theorem dL_law_438 : decode cL_law 438 = .ok (.invokevirtual 40, 3) := by decide +kernel
theorem dL_law_441 : decode cL_law 441 = .ok (.if_icmp .eq 995, 3) := by decide +kernel
theorem dL_law_444 : decode cL_law 444 = .ok (.iconst 0, 1) := by decide +kernel
theorem dL_law_445 : decode cL_law 445 = .ok (.ireturn, 1) := by decide +kernel
theorem dL_law_446 : decode cL_law 446 = .ok (.aload_n 1, 1) := by decide +kernel
theorem dL_law_447 : decode cL_law 447 = .ok (.aload_n 0, 1) := by decide +kernel
theorem dL_law_448 : decode cL_law 448 = .ok (.iload_n 3, 1) := by decide +kernel
theorem dL_law_449 : decode cL_law 449 = .ok (.iconst 1, 1) := by decide +kernel
theorem dL_law_450 : decode cL_law 450 = .ok (.iadd, 1) := by decide +kernel
theorem dL_law_451 : decode cL_law 451 = .ok (.iaload, 1) := by decide +kernel
theorem dL_law_452 : decode cL_law 452 = .ok (.aload_n 0, 1) := by decide +kernel
theorem dL_law_453 : decode cL_law 453 = .ok (.iload_n 3, 1) := by decide +kernel
theorem dL_law_454 : decode cL_law 454 = .ok (.iconst 2, 1) := by decide +kernel
theorem dL_law_455 : decode cL_law 455 = .ok (.iadd, 1) := by decide +kernel
theorem dL_law_456 : decode cL_law 456 = .ok (.iaload, 1) := by decide +kernel
theorem dL_law_457 : decode cL_law 457 = .ok (.invokevirtual 41, 3) := by decide +kernel
theorem dL_law_460 : decode cL_law 460 = .ok (.aload_n 2, 1) := by decide +kernel
theorem dL_law_461 : decode cL_law 461 = .ok (.aload_n 0, 1) := by decide +kernel
theorem dL_law_462 : decode cL_law 462 = .ok (.iload_n 3, 1) := by decide +kernel
theorem dL_law_463 : decode cL_law 463 = .ok (.iconst 1, 1) := by decide +kernel
theorem dL_law_464 : decode cL_law 464 = .ok (.iadd, 1) := by decide +kernel
theorem dL_law_465 : decode cL_law 465 = .ok (.iaload, 1) := by decide +kernel
theorem dL_law_466 : decode cL_law 466 = .ok (.aload_n 0, 1) := by decide +kernel
theorem dL_law_467 : decode cL_law 467 = .ok (.iload_n 3, 1) := by decide +kernel
theorem dL_law_468 : decode cL_law 468 = .ok (.iconst 2, 1) := by decide +kernel
theorem dL_law_469 : decode cL_law 469 = .ok (.iadd, 1) := by decide +kernel
theorem dL_law_470 : decode cL_law 470 = .ok (.iaload, 1) := by decide +kernel
theorem dL_law_471 : decode cL_law 471 = .ok (.invokevirtual 44, 3) := by decide +kernel
theorem dL_law_474 : decode cL_law 474 = .ok (.if_icmp .eq 962, 3) := by decide +kernel
theorem dL_law_477 : decode cL_law 477 = .ok (.iconst 0, 1) := by decide +kernel
theorem dL_law_478 : decode cL_law 478 = .ok (.ireturn, 1) := by decide +kernel
theorem dL_law_479 : decode cL_law 479 = .ok (.aload_n 1, 1) := by decide +kernel
theorem dL_law_480 : decode cL_law 480 = .ok (.aload_n 0, 1) := by decide +kernel
theorem dL_law_481 : decode cL_law 481 = .ok (.iload_n 3, 1) := by decide +kernel
theorem dL_law_482 : decode cL_law 482 = .ok (.iconst 1, 1) := by decide +kernel
theorem dL_law_483 : decode cL_law 483 = .ok (.iadd, 1) := by decide +kernel
theorem dL_law_484 : decode cL_law 484 = .ok (.iaload, 1) := by decide +kernel
theorem dL_law_485 : decode cL_law 485 = .ok (.aload_n 0, 1) := by decide +kernel
theorem dL_law_486 : decode cL_law 486 = .ok (.iload_n 3, 1) := by decide +kernel
theorem dL_law_487 : decode cL_law 487 = .ok (.iconst 2, 1) := by decide +kernel
theorem dL_law_488 : decode cL_law 488 = .ok (.iadd, 1) := by decide +kernel
theorem dL_law_489 : decode cL_law 489 = .ok (.iaload, 1) := by decide +kernel
theorem dL_law_490 : decode cL_law 490 = .ok (.aload_n 0, 1) := by decide +kernel
theorem dL_law_491 : decode cL_law 491 = .ok (.iload_n 3, 1) := by decide +kernel
theorem dL_law_492 : decode cL_law 492 = .ok (.iconst 3, 1) := by decide +kernel
theorem dL_law_493 : decode cL_law 493 = .ok (.iadd, 1) := by decide +kernel
theorem dL_law_494 : decode cL_law 494 = .ok (.iaload, 1) := by decide +kernel
theorem dL_law_495 : decode cL_law 495 = .ok (.invokevirtual 45, 3) := by decide +kernel
theorem dL_law_498 : decode cL_law 498 = .ok (.aload_n 2, 1) := by decide +kernel
theorem dL_law_499 : decode cL_law 499 = .ok (.aload_n 0, 1) := by decide +kernel
theorem dL_law_500 : decode cL_law 500 = .ok (.iload_n 3, 1) := by decide +kernel
theorem dL_law_501 : decode cL_law 501 = .ok (.iconst 1, 1) := by decide +kernel
theorem dL_law_502 : decode cL_law 502 = .ok (.iadd, 1) := by decide +kernel
theorem dL_law_503 : decode cL_law 503 = .ok (.iaload, 1) := by decide +kernel
theorem dL_law_504 : decode cL_law 504 = .ok (.aload_n 0, 1) := by decide +kernel
theorem dL_law_505 : decode cL_law 505 = .ok (.iload_n 3, 1) := by decide +kernel
theorem dL_law_506 : decode cL_law 506 = .ok (.iconst 2, 1) := by decide +kernel
theorem dL_law_507 : decode cL_law 507 = .ok (.iadd, 1) := by decide +kernel
theorem dL_law_508 : decode cL_law 508 = .ok (.iaload, 1) := by decide +kernel
theorem dL_law_509 : decode cL_law 509 = .ok (.aload_n 0, 1) := by decide +kernel
theorem dL_law_510 : decode cL_law 510 = .ok (.iload_n 3, 1) := by decide +kernel
theorem dL_law_511 : decode cL_law 511 = .ok (.iconst 3, 1) := by decide +kernel
theorem dL_law_512 : decode cL_law 512 = .ok (.iadd, 1) := by decide +kernel
theorem dL_law_513 : decode cL_law 513 = .ok (.iaload, 1) := by decide +kernel
theorem dL_law_514 : decode cL_law 514 = .ok (.invokevirtual 48, 3) := by decide +kernel
theorem dL_law_517 : decode cL_law 517 = .ok (.if_icmp .eq 919, 3) := by decide +kernel
theorem dL_law_520 : decode cL_law 520 = .ok (.iconst 0, 1) := by decide +kernel
theorem dL_law_521 : decode cL_law 521 = .ok (.ireturn, 1) := by decide +kernel
theorem dL_law_522 : decode cL_law 522 = .ok (.aload_n 1, 1) := by decide +kernel
theorem dL_law_523 : decode cL_law 523 = .ok (.aload_n 0, 1) := by decide +kernel
theorem dL_law_524 : decode cL_law 524 = .ok (.iload_n 3, 1) := by decide +kernel
theorem dL_law_525 : decode cL_law 525 = .ok (.iconst 1, 1) := by decide +kernel
theorem dL_law_526 : decode cL_law 526 = .ok (.iadd, 1) := by decide +kernel
theorem dL_law_527 : decode cL_law 527 = .ok (.iaload, 1) := by decide +kernel
theorem dL_law_528 : decode cL_law 528 = .ok (.invokevirtual 49, 3) := by decide +kernel
theorem dL_law_531 : decode cL_law 531 = .ok (.aload_n 2, 1) := by decide +kernel
theorem dL_law_532 : decode cL_law 532 = .ok (.aload_n 0, 1) := by decide +kernel
theorem dL_law_533 : decode cL_law 533 = .ok (.iload_n 3, 1) := by decide +kernel
theorem dL_law_534 : decode cL_law 534 = .ok (.iconst 1, 1) := by decide +kernel
theorem dL_law_535 : decode cL_law 535 = .ok (.iadd, 1) := by decide +kernel
theorem dL_law_536 : decode cL_law 536 = .ok (.iaload, 1) := by decide +kernel
theorem dL_law_537 : decode cL_law 537 = .ok (.invokevirtual 52, 3) := by decide +kernel
theorem dL_law_540 : decode cL_law 540 = .ok (.if_icmp .eq 896, 3) := by decide +kernel
theorem dL_law_543 : decode cL_law 543 = .ok (.iconst 0, 1) := by decide +kernel
theorem dL_law_544 : decode cL_law 544 = .ok (.ireturn, 1) := by decide +kernel
theorem dL_law_545 : decode cL_law 545 = .ok (.aload_n 1, 1) := by decide +kernel
theorem dL_law_546 : decode cL_law 546 = .ok (.aload_n 0, 1) := by decide +kernel
theorem dL_law_547 : decode cL_law 547 = .ok (.iload_n 3, 1) := by decide +kernel
theorem dL_law_548 : decode cL_law 548 = .ok (.iconst 1, 1) := by decide +kernel
theorem dL_law_549 : decode cL_law 549 = .ok (.iadd, 1) := by decide +kernel
theorem dL_law_550 : decode cL_law 550 = .ok (.iaload, 1) := by decide +kernel
theorem dL_law_551 : decode cL_law 551 = .ok (.invokevirtual 53, 3) := by decide +kernel
theorem dL_law_554 : decode cL_law 554 = .ok (.aload_n 2, 1) := by decide +kernel
theorem dL_law_555 : decode cL_law 555 = .ok (.aload_n 0, 1) := by decide +kernel
theorem dL_law_556 : decode cL_law 556 = .ok (.iload_n 3, 1) := by decide +kernel
theorem dL_law_557 : decode cL_law 557 = .ok (.iconst 1, 1) := by decide +kernel
theorem dL_law_558 : decode cL_law 558 = .ok (.iadd, 1) := by decide +kernel
theorem dL_law_559 : decode cL_law 559 = .ok (.iaload, 1) := by decide +kernel
theorem dL_law_560 : decode cL_law 560 = .ok (.invokevirtual 56, 3) := by decide +kernel
theorem dL_law_563 : decode cL_law 563 = .ok (.if_icmp .eq 873, 3) := by decide +kernel
theorem dL_law_566 : decode cL_law 566 = .ok (.iconst 0, 1) := by decide +kernel
theorem dL_law_567 : decode cL_law 567 = .ok (.ireturn, 1) := by decide +kernel
theorem dL_law_568 : decode cL_law 568 = .ok (.aload_n 1, 1) := by decide +kernel
theorem dL_law_569 : decode cL_law 569 = .ok (.aload_n 0, 1) := by decide +kernel
theorem dL_law_570 : decode cL_law 570 = .ok (.iload_n 3, 1) := by decide +kernel
theorem dL_law_571 : decode cL_law 571 = .ok (.iconst 1, 1) := by decide +kernel
theorem dL_law_572 : decode cL_law 572 = .ok (.iadd, 1) := by decide +kernel
theorem dL_law_573 : decode cL_law 573 = .ok (.iaload, 1) := by decide +kernel
theorem dL_law_574 : decode cL_law 574 = .ok (.aload_n 0, 1) := by decide +kernel
theorem dL_law_575 : decode cL_law 575 = .ok (.iload_n 3, 1) := by decide +kernel
theorem dL_law_576 : decode cL_law 576 = .ok (.iconst 2, 1) := by decide +kernel
theorem dL_law_577 : decode cL_law 577 = .ok (.iadd, 1) := by decide +kernel
theorem dL_law_578 : decode cL_law 578 = .ok (.iaload, 1) := by decide +kernel
theorem dL_law_579 : decode cL_law 579 = .ok (.invokevirtual 57, 3) := by decide +kernel
theorem dL_law_582 : decode cL_law 582 = .ok (.aload_n 2, 1) := by decide +kernel
theorem dL_law_583 : decode cL_law 583 = .ok (.aload_n 0, 1) := by decide +kernel
theorem dL_law_584 : decode cL_law 584 = .ok (.iload_n 3, 1) := by decide +kernel
theorem dL_law_585 : decode cL_law 585 = .ok (.iconst 1, 1) := by decide +kernel
theorem dL_law_586 : decode cL_law 586 = .ok (.iadd, 1) := by decide +kernel
theorem dL_law_587 : decode cL_law 587 = .ok (.iaload, 1) := by decide +kernel
theorem dL_law_588 : decode cL_law 588 = .ok (.aload_n 0, 1) := by decide +kernel
theorem dL_law_589 : decode cL_law 589 = .ok (.iload_n 3, 1) := by decide +kernel
theorem dL_law_590 : decode cL_law 590 = .ok (.iconst 2, 1) := by decide +kernel
theorem dL_law_591 : decode cL_law 591 = .ok (.iadd, 1) := by decide +kernel
theorem dL_law_592 : decode cL_law 592 = .ok (.iaload, 1) := by decide +kernel
theorem dL_law_593 : decode cL_law 593 = .ok (.invokevirtual 60, 3) := by decide +kernel
theorem dL_law_596 : decode cL_law 596 = .ok (.if_icmp .eq 840, 3) := by decide +kernel
theorem dL_law_599 : decode cL_law 599 = .ok (.iconst 0, 1) := by decide +kernel
theorem dL_law_600 : decode cL_law 600 = .ok (.ireturn, 1) := by decide +kernel
theorem dL_law_601 : decode cL_law 601 = .ok (.aload_n 1, 1) := by decide +kernel
theorem dL_law_602 : decode cL_law 602 = .ok (.aload_n 0, 1) := by decide +kernel
theorem dL_law_603 : decode cL_law 603 = .ok (.iload_n 3, 1) := by decide +kernel
theorem dL_law_604 : decode cL_law 604 = .ok (.iconst 1, 1) := by decide +kernel
theorem dL_law_605 : decode cL_law 605 = .ok (.iadd, 1) := by decide +kernel
theorem dL_law_606 : decode cL_law 606 = .ok (.iaload, 1) := by decide +kernel
theorem dL_law_607 : decode cL_law 607 = .ok (.aload_n 0, 1) := by decide +kernel
theorem dL_law_608 : decode cL_law 608 = .ok (.iload_n 3, 1) := by decide +kernel
theorem dL_law_609 : decode cL_law 609 = .ok (.iconst 2, 1) := by decide +kernel
theorem dL_law_610 : decode cL_law 610 = .ok (.iadd, 1) := by decide +kernel
theorem dL_law_611 : decode cL_law 611 = .ok (.iaload, 1) := by decide +kernel
theorem dL_law_612 : decode cL_law 612 = .ok (.invokevirtual 61, 3) := by decide +kernel
theorem dL_law_615 : decode cL_law 615 = .ok (.aload_n 2, 1) := by decide +kernel
theorem dL_law_616 : decode cL_law 616 = .ok (.aload_n 0, 1) := by decide +kernel
theorem dL_law_617 : decode cL_law 617 = .ok (.iload_n 3, 1) := by decide +kernel
theorem dL_law_618 : decode cL_law 618 = .ok (.iconst 1, 1) := by decide +kernel
theorem dL_law_619 : decode cL_law 619 = .ok (.iadd, 1) := by decide +kernel
theorem dL_law_620 : decode cL_law 620 = .ok (.iaload, 1) := by decide +kernel
theorem dL_law_621 : decode cL_law 621 = .ok (.aload_n 0, 1) := by decide +kernel
theorem dL_law_622 : decode cL_law 622 = .ok (.iload_n 3, 1) := by decide +kernel
theorem dL_law_623 : decode cL_law 623 = .ok (.iconst 2, 1) := by decide +kernel
theorem dL_law_624 : decode cL_law 624 = .ok (.iadd, 1) := by decide +kernel
theorem dL_law_625 : decode cL_law 625 = .ok (.iaload, 1) := by decide +kernel
theorem dL_law_626 : decode cL_law 626 = .ok (.invokevirtual 64, 3) := by decide +kernel
theorem dL_law_629 : decode cL_law 629 = .ok (.if_icmp .eq 807, 3) := by decide +kernel
theorem dL_law_632 : decode cL_law 632 = .ok (.iconst 0, 1) := by decide +kernel
theorem dL_law_633 : decode cL_law 633 = .ok (.ireturn, 1) := by decide +kernel
theorem dL_law_634 : decode cL_law 634 = .ok (.aload_n 1, 1) := by decide +kernel
theorem dL_law_635 : decode cL_law 635 = .ok (.aload_n 0, 1) := by decide +kernel
theorem dL_law_636 : decode cL_law 636 = .ok (.iload_n 3, 1) := by decide +kernel
theorem dL_law_637 : decode cL_law 637 = .ok (.iconst 1, 1) := by decide +kernel
theorem dL_law_638 : decode cL_law 638 = .ok (.iadd, 1) := by decide +kernel
theorem dL_law_639 : decode cL_law 639 = .ok (.iaload, 1) := by decide +kernel
theorem dL_law_640 : decode cL_law 640 = .ok (.aload_n 0, 1) := by decide +kernel
theorem dL_law_641 : decode cL_law 641 = .ok (.iload_n 3, 1) := by decide +kernel
theorem dL_law_642 : decode cL_law 642 = .ok (.iconst 2, 1) := by decide +kernel
theorem dL_law_643 : decode cL_law 643 = .ok (.iadd, 1) := by decide +kernel
theorem dL_law_644 : decode cL_law 644 = .ok (.iaload, 1) := by decide +kernel
theorem dL_law_645 : decode cL_law 645 = .ok (.invokevirtual 65, 3) := by decide +kernel
theorem dL_law_648 : decode cL_law 648 = .ok (.aload_n 2, 1) := by decide +kernel
theorem dL_law_649 : decode cL_law 649 = .ok (.aload_n 0, 1) := by decide +kernel
theorem dL_law_650 : decode cL_law 650 = .ok (.iload_n 3, 1) := by decide +kernel
theorem dL_law_651 : decode cL_law 651 = .ok (.iconst 1, 1) := by decide +kernel
theorem dL_law_652 : decode cL_law 652 = .ok (.iadd, 1) := by decide +kernel
theorem dL_law_653 : decode cL_law 653 = .ok (.iaload, 1) := by decide +kernel
theorem dL_law_654 : decode cL_law 654 = .ok (.aload_n 0, 1) := by decide +kernel
theorem dL_law_655 : decode cL_law 655 = .ok (.iload_n 3, 1) := by decide +kernel
theorem dL_law_656 : decode cL_law 656 = .ok (.iconst 2, 1) := by decide +kernel
theorem dL_law_657 : decode cL_law 657 = .ok (.iadd, 1) := by decide +kernel
theorem dL_law_658 : decode cL_law 658 = .ok (.iaload, 1) := by decide +kernel
theorem dL_law_659 : decode cL_law 659 = .ok (.invokevirtual 68, 3) := by decide +kernel
theorem dL_law_662 : decode cL_law 662 = .ok (.if_icmp .eq 774, 3) := by decide +kernel
theorem dL_law_665 : decode cL_law 665 = .ok (.iconst 0, 1) := by decide +kernel
theorem dL_law_666 : decode cL_law 666 = .ok (.ireturn, 1) := by decide +kernel
theorem dL_law_667 : decode cL_law 667 = .ok (.aload_n 1, 1) := by decide +kernel
theorem dL_law_668 : decode cL_law 668 = .ok (.aload_n 0, 1) := by decide +kernel
theorem dL_law_669 : decode cL_law 669 = .ok (.iload_n 3, 1) := by decide +kernel
theorem dL_law_670 : decode cL_law 670 = .ok (.iconst 1, 1) := by decide +kernel
theorem dL_law_671 : decode cL_law 671 = .ok (.iadd, 1) := by decide +kernel
theorem dL_law_672 : decode cL_law 672 = .ok (.iaload, 1) := by decide +kernel
theorem dL_law_673 : decode cL_law 673 = .ok (.invokevirtual 69, 3) := by decide +kernel
theorem dL_law_676 : decode cL_law 676 = .ok (.aload_n 2, 1) := by decide +kernel
theorem dL_law_677 : decode cL_law 677 = .ok (.aload_n 0, 1) := by decide +kernel
theorem dL_law_678 : decode cL_law 678 = .ok (.iload_n 3, 1) := by decide +kernel
theorem dL_law_679 : decode cL_law 679 = .ok (.iconst 1, 1) := by decide +kernel
theorem dL_law_680 : decode cL_law 680 = .ok (.iadd, 1) := by decide +kernel
theorem dL_law_681 : decode cL_law 681 = .ok (.iaload, 1) := by decide +kernel
theorem dL_law_682 : decode cL_law 682 = .ok (.invokevirtual 72, 3) := by decide +kernel
theorem dL_law_685 : decode cL_law 685 = .ok (.if_icmp .eq 751, 3) := by decide +kernel
theorem dL_law_688 : decode cL_law 688 = .ok (.iconst 0, 1) := by decide +kernel
theorem dL_law_689 : decode cL_law 689 = .ok (.ireturn, 1) := by decide +kernel
theorem dL_law_690 : decode cL_law 690 = .ok (.aload_n 1, 1) := by decide +kernel
theorem dL_law_691 : decode cL_law 691 = .ok (.aload_n 0, 1) := by decide +kernel
theorem dL_law_692 : decode cL_law 692 = .ok (.iload_n 3, 1) := by decide +kernel
theorem dL_law_693 : decode cL_law 693 = .ok (.iconst 1, 1) := by decide +kernel
theorem dL_law_694 : decode cL_law 694 = .ok (.iadd, 1) := by decide +kernel
theorem dL_law_695 : decode cL_law 695 = .ok (.iaload, 1) := by decide +kernel
theorem dL_law_696 : decode cL_law 696 = .ok (.aload_n 0, 1) := by decide +kernel
theorem dL_law_697 : decode cL_law 697 = .ok (.iload_n 3, 1) := by decide +kernel
theorem dL_law_698 : decode cL_law 698 = .ok (.iconst 2, 1) := by decide +kernel
theorem dL_law_699 : decode cL_law 699 = .ok (.iadd, 1) := by decide +kernel
theorem dL_law_700 : decode cL_law 700 = .ok (.iaload, 1) := by decide +kernel
theorem dL_law_701 : decode cL_law 701 = .ok (.invokevirtual 73, 3) := by decide +kernel
theorem dL_law_704 : decode cL_law 704 = .ok (.aload_n 2, 1) := by decide +kernel
theorem dL_law_705 : decode cL_law 705 = .ok (.aload_n 0, 1) := by decide +kernel
theorem dL_law_706 : decode cL_law 706 = .ok (.iload_n 3, 1) := by decide +kernel
theorem dL_law_707 : decode cL_law 707 = .ok (.iconst 1, 1) := by decide +kernel
theorem dL_law_708 : decode cL_law 708 = .ok (.iadd, 1) := by decide +kernel
theorem dL_law_709 : decode cL_law 709 = .ok (.iaload, 1) := by decide +kernel
theorem dL_law_710 : decode cL_law 710 = .ok (.aload_n 0, 1) := by decide +kernel
theorem dL_law_711 : decode cL_law 711 = .ok (.iload_n 3, 1) := by decide +kernel
theorem dL_law_712 : decode cL_law 712 = .ok (.iconst 2, 1) := by decide +kernel
theorem dL_law_713 : decode cL_law 713 = .ok (.iadd, 1) := by decide +kernel
theorem dL_law_714 : decode cL_law 714 = .ok (.iaload, 1) := by decide +kernel
theorem dL_law_715 : decode cL_law 715 = .ok (.invokevirtual 76, 3) := by decide +kernel
theorem dL_law_718 : decode cL_law 718 = .ok (.if_icmp .eq 718, 3) := by decide +kernel
theorem dL_law_721 : decode cL_law 721 = .ok (.iconst 0, 1) := by decide +kernel
theorem dL_law_722 : decode cL_law 722 = .ok (.ireturn, 1) := by decide +kernel
theorem dL_law_723 : decode cL_law 723 = .ok (.aload_n 1, 1) := by decide +kernel
theorem dL_law_724 : decode cL_law 724 = .ok (.aload_n 0, 1) := by decide +kernel
theorem dL_law_725 : decode cL_law 725 = .ok (.iload_n 3, 1) := by decide +kernel
theorem dL_law_726 : decode cL_law 726 = .ok (.iconst 1, 1) := by decide +kernel
theorem dL_law_727 : decode cL_law 727 = .ok (.iadd, 1) := by decide +kernel
theorem dL_law_728 : decode cL_law 728 = .ok (.iaload, 1) := by decide +kernel
theorem dL_law_729 : decode cL_law 729 = .ok (.aload_n 0, 1) := by decide +kernel
theorem dL_law_730 : decode cL_law 730 = .ok (.iload_n 3, 1) := by decide +kernel
theorem dL_law_731 : decode cL_law 731 = .ok (.iconst 2, 1) := by decide +kernel
theorem dL_law_732 : decode cL_law 732 = .ok (.iadd, 1) := by decide +kernel
theorem dL_law_733 : decode cL_law 733 = .ok (.iaload, 1) := by decide +kernel
theorem dL_law_734 : decode cL_law 734 = .ok (.invokevirtual 77, 3) := by decide +kernel
theorem dL_law_737 : decode cL_law 737 = .ok (.aload_n 2, 1) := by decide +kernel
theorem dL_law_738 : decode cL_law 738 = .ok (.aload_n 0, 1) := by decide +kernel
theorem dL_law_739 : decode cL_law 739 = .ok (.iload_n 3, 1) := by decide +kernel
theorem dL_law_740 : decode cL_law 740 = .ok (.iconst 1, 1) := by decide +kernel
theorem dL_law_741 : decode cL_law 741 = .ok (.iadd, 1) := by decide +kernel
theorem dL_law_742 : decode cL_law 742 = .ok (.iaload, 1) := by decide +kernel
theorem dL_law_743 : decode cL_law 743 = .ok (.aload_n 0, 1) := by decide +kernel
theorem dL_law_744 : decode cL_law 744 = .ok (.iload_n 3, 1) := by decide +kernel
theorem dL_law_745 : decode cL_law 745 = .ok (.iconst 2, 1) := by decide +kernel
theorem dL_law_746 : decode cL_law 746 = .ok (.iadd, 1) := by decide +kernel
theorem dL_law_747 : decode cL_law 747 = .ok (.iaload, 1) := by decide +kernel
theorem dL_law_748 : decode cL_law 748 = .ok (.invokevirtual 80, 3) := by decide +kernel
theorem dL_law_751 : decode cL_law 751 = .ok (.if_icmp .eq 685, 3) := by decide +kernel
theorem dL_law_754 : decode cL_law 754 = .ok (.iconst 0, 1) := by decide +kernel
theorem dL_law_755 : decode cL_law 755 = .ok (.ireturn, 1) := by decide +kernel
theorem dL_law_756 : decode cL_law 756 = .ok (.aload_n 1, 1) := by decide +kernel
theorem dL_law_757 : decode cL_law 757 = .ok (.aload_n 0, 1) := by decide +kernel
theorem dL_law_758 : decode cL_law 758 = .ok (.iload_n 3, 1) := by decide +kernel
theorem dL_law_759 : decode cL_law 759 = .ok (.iconst 1, 1) := by decide +kernel
theorem dL_law_760 : decode cL_law 760 = .ok (.iadd, 1) := by decide +kernel
theorem dL_law_761 : decode cL_law 761 = .ok (.iaload, 1) := by decide +kernel
theorem dL_law_762 : decode cL_law 762 = .ok (.invokevirtual 81, 3) := by decide +kernel
theorem dL_law_765 : decode cL_law 765 = .ok (.aload_n 2, 1) := by decide +kernel
theorem dL_law_766 : decode cL_law 766 = .ok (.aload_n 0, 1) := by decide +kernel
theorem dL_law_767 : decode cL_law 767 = .ok (.iload_n 3, 1) := by decide +kernel
theorem dL_law_768 : decode cL_law 768 = .ok (.iconst 1, 1) := by decide +kernel
theorem dL_law_769 : decode cL_law 769 = .ok (.iadd, 1) := by decide +kernel
theorem dL_law_770 : decode cL_law 770 = .ok (.iaload, 1) := by decide +kernel
theorem dL_law_771 : decode cL_law 771 = .ok (.invokevirtual 84, 3) := by decide +kernel
theorem dL_law_774 : decode cL_law 774 = .ok (.if_icmp .eq 662, 3) := by decide +kernel
theorem dL_law_777 : decode cL_law 777 = .ok (.iconst 0, 1) := by decide +kernel
theorem dL_law_778 : decode cL_law 778 = .ok (.ireturn, 1) := by decide +kernel
theorem dL_law_779 : decode cL_law 779 = .ok (.aload_n 1, 1) := by decide +kernel
theorem dL_law_780 : decode cL_law 780 = .ok (.aload_n 0, 1) := by decide +kernel
theorem dL_law_781 : decode cL_law 781 = .ok (.iload_n 3, 1) := by decide +kernel
theorem dL_law_782 : decode cL_law 782 = .ok (.iconst 1, 1) := by decide +kernel
theorem dL_law_783 : decode cL_law 783 = .ok (.iadd, 1) := by decide +kernel
theorem dL_law_784 : decode cL_law 784 = .ok (.iaload, 1) := by decide +kernel
theorem dL_law_785 : decode cL_law 785 = .ok (.invokevirtual 85, 3) := by decide +kernel
theorem dL_law_788 : decode cL_law 788 = .ok (.aload_n 2, 1) := by decide +kernel
theorem dL_law_789 : decode cL_law 789 = .ok (.aload_n 0, 1) := by decide +kernel
theorem dL_law_790 : decode cL_law 790 = .ok (.iload_n 3, 1) := by decide +kernel
theorem dL_law_791 : decode cL_law 791 = .ok (.iconst 1, 1) := by decide +kernel
theorem dL_law_792 : decode cL_law 792 = .ok (.iadd, 1) := by decide +kernel
theorem dL_law_793 : decode cL_law 793 = .ok (.iaload, 1) := by decide +kernel
theorem dL_law_794 : decode cL_law 794 = .ok (.invokevirtual 88, 3) := by decide +kernel
theorem dL_law_797 : decode cL_law 797 = .ok (.if_icmp .eq 639, 3) := by decide +kernel
theorem dL_law_800 : decode cL_law 800 = .ok (.iconst 0, 1) := by decide +kernel
theorem dL_law_801 : decode cL_law 801 = .ok (.ireturn, 1) := by decide +kernel
theorem dL_law_802 : decode cL_law 802 = .ok (.aload_n 1, 1) := by decide +kernel
theorem dL_law_803 : decode cL_law 803 = .ok (.aload_n 0, 1) := by decide +kernel
theorem dL_law_804 : decode cL_law 804 = .ok (.iload_n 3, 1) := by decide +kernel
theorem dL_law_805 : decode cL_law 805 = .ok (.iconst 1, 1) := by decide +kernel
theorem dL_law_806 : decode cL_law 806 = .ok (.iadd, 1) := by decide +kernel
theorem dL_law_807 : decode cL_law 807 = .ok (.iaload, 1) := by decide +kernel
theorem dL_law_808 : decode cL_law 808 = .ok (.invokevirtual 89, 3) := by decide +kernel
theorem dL_law_811 : decode cL_law 811 = .ok (.aload_n 2, 1) := by decide +kernel
theorem dL_law_812 : decode cL_law 812 = .ok (.aload_n 0, 1) := by decide +kernel
theorem dL_law_813 : decode cL_law 813 = .ok (.iload_n 3, 1) := by decide +kernel
theorem dL_law_814 : decode cL_law 814 = .ok (.iconst 1, 1) := by decide +kernel
theorem dL_law_815 : decode cL_law 815 = .ok (.iadd, 1) := by decide +kernel
theorem dL_law_816 : decode cL_law 816 = .ok (.iaload, 1) := by decide +kernel
theorem dL_law_817 : decode cL_law 817 = .ok (.invokevirtual 92, 3) := by decide +kernel
theorem dL_law_820 : decode cL_law 820 = .ok (.if_icmp .eq 616, 3) := by decide +kernel
theorem dL_law_823 : decode cL_law 823 = .ok (.iconst 0, 1) := by decide +kernel
theorem dL_law_824 : decode cL_law 824 = .ok (.ireturn, 1) := by decide +kernel
theorem dL_law_825 : decode cL_law 825 = .ok (.aload_n 1, 1) := by decide +kernel
theorem dL_law_826 : decode cL_law 826 = .ok (.aload_n 0, 1) := by decide +kernel
theorem dL_law_827 : decode cL_law 827 = .ok (.iload_n 3, 1) := by decide +kernel
theorem dL_law_828 : decode cL_law 828 = .ok (.iconst 1, 1) := by decide +kernel
theorem dL_law_829 : decode cL_law 829 = .ok (.iadd, 1) := by decide +kernel
theorem dL_law_830 : decode cL_law 830 = .ok (.iaload, 1) := by decide +kernel
theorem dL_law_831 : decode cL_law 831 = .ok (.invokevirtual 93, 3) := by decide +kernel
theorem dL_law_834 : decode cL_law 834 = .ok (.aload_n 2, 1) := by decide +kernel
theorem dL_law_835 : decode cL_law 835 = .ok (.aload_n 0, 1) := by decide +kernel
theorem dL_law_836 : decode cL_law 836 = .ok (.iload_n 3, 1) := by decide +kernel
theorem dL_law_837 : decode cL_law 837 = .ok (.iconst 1, 1) := by decide +kernel
theorem dL_law_838 : decode cL_law 838 = .ok (.iadd, 1) := by decide +kernel
theorem dL_law_839 : decode cL_law 839 = .ok (.iaload, 1) := by decide +kernel
theorem dL_law_840 : decode cL_law 840 = .ok (.invokevirtual 96, 3) := by decide +kernel
theorem dL_law_843 : decode cL_law 843 = .ok (.if_icmp .eq 593, 3) := by decide +kernel
theorem dL_law_846 : decode cL_law 846 = .ok (.iconst 0, 1) := by decide +kernel
theorem dL_law_847 : decode cL_law 847 = .ok (.ireturn, 1) := by decide +kernel
theorem dL_law_848 : decode cL_law 848 = .ok (.aload_n 1, 1) := by decide +kernel
theorem dL_law_849 : decode cL_law 849 = .ok (.aload_n 0, 1) := by decide +kernel
theorem dL_law_850 : decode cL_law 850 = .ok (.iload_n 3, 1) := by decide +kernel
theorem dL_law_851 : decode cL_law 851 = .ok (.iconst 1, 1) := by decide +kernel
theorem dL_law_852 : decode cL_law 852 = .ok (.iadd, 1) := by decide +kernel
theorem dL_law_853 : decode cL_law 853 = .ok (.iaload, 1) := by decide +kernel
theorem dL_law_854 : decode cL_law 854 = .ok (.invokevirtual 97, 3) := by decide +kernel
theorem dL_law_857 : decode cL_law 857 = .ok (.aload_n 2, 1) := by decide +kernel
theorem dL_law_858 : decode cL_law 858 = .ok (.aload_n 0, 1) := by decide +kernel
theorem dL_law_859 : decode cL_law 859 = .ok (.iload_n 3, 1) := by decide +kernel
theorem dL_law_860 : decode cL_law 860 = .ok (.iconst 1, 1) := by decide +kernel
theorem dL_law_861 : decode cL_law 861 = .ok (.iadd, 1) := by decide +kernel
theorem dL_law_862 : decode cL_law 862 = .ok (.iaload, 1) := by decide +kernel
theorem dL_law_863 : decode cL_law 863 = .ok (.invokevirtual 100, 3) := by decide +kernel
theorem dL_law_866 : decode cL_law 866 = .ok (.if_icmp .eq 570, 3) := by decide +kernel
theorem dL_law_869 : decode cL_law 869 = .ok (.iconst 0, 1) := by decide +kernel
theorem dL_law_870 : decode cL_law 870 = .ok (.ireturn, 1) := by decide +kernel
theorem dL_law_871 : decode cL_law 871 = .ok (.aload_n 1, 1) := by decide +kernel
theorem dL_law_872 : decode cL_law 872 = .ok (.aload_n 0, 1) := by decide +kernel
theorem dL_law_873 : decode cL_law 873 = .ok (.iload_n 3, 1) := by decide +kernel
theorem dL_law_874 : decode cL_law 874 = .ok (.iconst 1, 1) := by decide +kernel
theorem dL_law_875 : decode cL_law 875 = .ok (.iadd, 1) := by decide +kernel
theorem dL_law_876 : decode cL_law 876 = .ok (.iaload, 1) := by decide +kernel
theorem dL_law_877 : decode cL_law 877 = .ok (.invokevirtual 101, 3) := by decide +kernel
theorem dL_law_880 : decode cL_law 880 = .ok (.aload_n 2, 1) := by decide +kernel
theorem dL_law_881 : decode cL_law 881 = .ok (.aload_n 0, 1) := by decide +kernel
theorem dL_law_882 : decode cL_law 882 = .ok (.iload_n 3, 1) := by decide +kernel
theorem dL_law_883 : decode cL_law 883 = .ok (.iconst 1, 1) := by decide +kernel
theorem dL_law_884 : decode cL_law 884 = .ok (.iadd, 1) := by decide +kernel
theorem dL_law_885 : decode cL_law 885 = .ok (.iaload, 1) := by decide +kernel
theorem dL_law_886 : decode cL_law 886 = .ok (.invokevirtual 104, 3) := by decide +kernel
theorem dL_law_889 : decode cL_law 889 = .ok (.if_icmp .eq 547, 3) := by decide +kernel
theorem dL_law_892 : decode cL_law 892 = .ok (.iconst 0, 1) := by decide +kernel
theorem dL_law_893 : decode cL_law 893 = .ok (.ireturn, 1) := by decide +kernel
theorem dL_law_894 : decode cL_law 894 = .ok (.aload_n 1, 1) := by decide +kernel
theorem dL_law_895 : decode cL_law 895 = .ok (.aload_n 0, 1) := by decide +kernel
theorem dL_law_896 : decode cL_law 896 = .ok (.iload_n 3, 1) := by decide +kernel
theorem dL_law_897 : decode cL_law 897 = .ok (.iconst 1, 1) := by decide +kernel
theorem dL_law_898 : decode cL_law 898 = .ok (.iadd, 1) := by decide +kernel
theorem dL_law_899 : decode cL_law 899 = .ok (.iaload, 1) := by decide +kernel
theorem dL_law_900 : decode cL_law 900 = .ok (.aload_n 0, 1) := by decide +kernel
theorem dL_law_901 : decode cL_law 901 = .ok (.iload_n 3, 1) := by decide +kernel
theorem dL_law_902 : decode cL_law 902 = .ok (.iconst 2, 1) := by decide +kernel
theorem dL_law_903 : decode cL_law 903 = .ok (.iadd, 1) := by decide +kernel
theorem dL_law_904 : decode cL_law 904 = .ok (.iaload, 1) := by decide +kernel
theorem dL_law_905 : decode cL_law 905 = .ok (.invokevirtual 105, 3) := by decide +kernel
theorem dL_law_908 : decode cL_law 908 = .ok (.aload_n 2, 1) := by decide +kernel
theorem dL_law_909 : decode cL_law 909 = .ok (.aload_n 0, 1) := by decide +kernel
theorem dL_law_910 : decode cL_law 910 = .ok (.iload_n 3, 1) := by decide +kernel
theorem dL_law_911 : decode cL_law 911 = .ok (.iconst 1, 1) := by decide +kernel
theorem dL_law_912 : decode cL_law 912 = .ok (.iadd, 1) := by decide +kernel
theorem dL_law_913 : decode cL_law 913 = .ok (.iaload, 1) := by decide +kernel
theorem dL_law_914 : decode cL_law 914 = .ok (.aload_n 0, 1) := by decide +kernel
theorem dL_law_915 : decode cL_law 915 = .ok (.iload_n 3, 1) := by decide +kernel
theorem dL_law_916 : decode cL_law 916 = .ok (.iconst 2, 1) := by decide +kernel
theorem dL_law_917 : decode cL_law 917 = .ok (.iadd, 1) := by decide +kernel
theorem dL_law_918 : decode cL_law 918 = .ok (.iaload, 1) := by decide +kernel
theorem dL_law_919 : decode cL_law 919 = .ok (.invokevirtual 108, 3) := by decide +kernel
theorem dL_law_922 : decode cL_law 922 = .ok (.if_icmp .eq 514, 3) := by decide +kernel
theorem dL_law_925 : decode cL_law 925 = .ok (.iconst 0, 1) := by decide +kernel
theorem dL_law_926 : decode cL_law 926 = .ok (.ireturn, 1) := by decide +kernel
theorem dL_law_927 : decode cL_law 927 = .ok (.aload_n 1, 1) := by decide +kernel
theorem dL_law_928 : decode cL_law 928 = .ok (.invokevirtual 109, 3) := by decide +kernel
theorem dL_law_931 : decode cL_law 931 = .ok (.aload_n 2, 1) := by decide +kernel
theorem dL_law_932 : decode cL_law 932 = .ok (.invokevirtual 113, 3) := by decide +kernel
theorem dL_law_935 : decode cL_law 935 = .ok (.if_icmp .eq 501, 3) := by decide +kernel
theorem dL_law_938 : decode cL_law 938 = .ok (.iconst 0, 1) := by decide +kernel
theorem dL_law_939 : decode cL_law 939 = .ok (.ireturn, 1) := by decide +kernel
theorem dL_law_940 : decode cL_law 940 = .ok (.aload_n 1, 1) := by decide +kernel
theorem dL_law_941 : decode cL_law 941 = .ok (.aload_n 0, 1) := by decide +kernel
theorem dL_law_942 : decode cL_law 942 = .ok (.iload_n 3, 1) := by decide +kernel
theorem dL_law_943 : decode cL_law 943 = .ok (.iconst 1, 1) := by decide +kernel
theorem dL_law_944 : decode cL_law 944 = .ok (.iadd, 1) := by decide +kernel
theorem dL_law_945 : decode cL_law 945 = .ok (.iaload, 1) := by decide +kernel
theorem dL_law_946 : decode cL_law 946 = .ok (.invokevirtual 114, 3) := by decide +kernel
theorem dL_law_949 : decode cL_law 949 = .ok (.aload_n 2, 1) := by decide +kernel
theorem dL_law_950 : decode cL_law 950 = .ok (.aload_n 0, 1) := by decide +kernel
theorem dL_law_951 : decode cL_law 951 = .ok (.iload_n 3, 1) := by decide +kernel
theorem dL_law_952 : decode cL_law 952 = .ok (.iconst 1, 1) := by decide +kernel
theorem dL_law_953 : decode cL_law 953 = .ok (.iadd, 1) := by decide +kernel
theorem dL_law_954 : decode cL_law 954 = .ok (.iaload, 1) := by decide +kernel
theorem dL_law_955 : decode cL_law 955 = .ok (.invokevirtual 117, 3) := by decide +kernel
theorem dL_law_958 : decode cL_law 958 = .ok (.if_icmp .eq 478, 3) := by decide +kernel
theorem dL_law_961 : decode cL_law 961 = .ok (.iconst 0, 1) := by decide +kernel
theorem dL_law_962 : decode cL_law 962 = .ok (.ireturn, 1) := by decide +kernel
theorem dL_law_963 : decode cL_law 963 = .ok (.aload_n 1, 1) := by decide +kernel
theorem dL_law_964 : decode cL_law 964 = .ok (.aload_n 0, 1) := by decide +kernel
theorem dL_law_965 : decode cL_law 965 = .ok (.iload_n 3, 1) := by decide +kernel
theorem dL_law_966 : decode cL_law 966 = .ok (.iconst 1, 1) := by decide +kernel
theorem dL_law_967 : decode cL_law 967 = .ok (.iadd, 1) := by decide +kernel
theorem dL_law_968 : decode cL_law 968 = .ok (.iaload, 1) := by decide +kernel
theorem dL_law_969 : decode cL_law 969 = .ok (.aload_n 0, 1) := by decide +kernel
theorem dL_law_970 : decode cL_law 970 = .ok (.iload_n 3, 1) := by decide +kernel
theorem dL_law_971 : decode cL_law 971 = .ok (.iconst 2, 1) := by decide +kernel
theorem dL_law_972 : decode cL_law 972 = .ok (.iadd, 1) := by decide +kernel
theorem dL_law_973 : decode cL_law 973 = .ok (.iaload, 1) := by decide +kernel
theorem dL_law_974 : decode cL_law 974 = .ok (.invokevirtual 118, 3) := by decide +kernel
theorem dL_law_977 : decode cL_law 977 = .ok (.aload_n 2, 1) := by decide +kernel
theorem dL_law_978 : decode cL_law 978 = .ok (.aload_n 0, 1) := by decide +kernel
theorem dL_law_979 : decode cL_law 979 = .ok (.iload_n 3, 1) := by decide +kernel
theorem dL_law_980 : decode cL_law 980 = .ok (.iconst 1, 1) := by decide +kernel
theorem dL_law_981 : decode cL_law 981 = .ok (.iadd, 1) := by decide +kernel
theorem dL_law_982 : decode cL_law 982 = .ok (.iaload, 1) := by decide +kernel
theorem dL_law_983 : decode cL_law 983 = .ok (.aload_n 0, 1) := by decide +kernel
theorem dL_law_984 : decode cL_law 984 = .ok (.iload_n 3, 1) := by decide +kernel
theorem dL_law_985 : decode cL_law 985 = .ok (.iconst 2, 1) := by decide +kernel
theorem dL_law_986 : decode cL_law 986 = .ok (.iadd, 1) := by decide +kernel
theorem dL_law_987 : decode cL_law 987 = .ok (.iaload, 1) := by decide +kernel
theorem dL_law_988 : decode cL_law 988 = .ok (.invokevirtual 121, 3) := by decide +kernel
theorem dL_law_991 : decode cL_law 991 = .ok (.if_icmp .eq 445, 3) := by decide +kernel
theorem dL_law_994 : decode cL_law 994 = .ok (.iconst 0, 1) := by decide +kernel
theorem dL_law_995 : decode cL_law 995 = .ok (.ireturn, 1) := by decide +kernel
theorem dL_law_996 : decode cL_law 996 = .ok (.aload_n 1, 1) := by decide +kernel
theorem dL_law_997 : decode cL_law 997 = .ok (.aload_n 0, 1) := by decide +kernel
theorem dL_law_998 : decode cL_law 998 = .ok (.iload_n 3, 1) := by decide +kernel
theorem dL_law_999 : decode cL_law 999 = .ok (.iconst 1, 1) := by decide +kernel
theorem dL_law_1000 : decode cL_law 1000 = .ok (.iadd, 1) := by decide +kernel
theorem dL_law_1001 : decode cL_law 1001 = .ok (.iaload, 1) := by decide +kernel
theorem dL_law_1002 : decode cL_law 1002 = .ok (.invokevirtual 122, 3) := by decide +kernel
theorem dL_law_1005 : decode cL_law 1005 = .ok (.aload_n 2, 1) := by decide +kernel
theorem dL_law_1006 : decode cL_law 1006 = .ok (.aload_n 0, 1) := by decide +kernel
theorem dL_law_1007 : decode cL_law 1007 = .ok (.iload_n 3, 1) := by decide +kernel
theorem dL_law_1008 : decode cL_law 1008 = .ok (.iconst 1, 1) := by decide +kernel
theorem dL_law_1009 : decode cL_law 1009 = .ok (.iadd, 1) := by decide +kernel
theorem dL_law_1010 : decode cL_law 1010 = .ok (.iaload, 1) := by decide +kernel
theorem dL_law_1011 : decode cL_law 1011 = .ok (.invokevirtual 125, 3) := by decide +kernel
theorem dL_law_1014 : decode cL_law 1014 = .ok (.if_icmp .eq 422, 3) := by decide +kernel
theorem dL_law_1017 : decode cL_law 1017 = .ok (.iconst 0, 1) := by decide +kernel
theorem dL_law_1018 : decode cL_law 1018 = .ok (.ireturn, 1) := by decide +kernel
theorem dL_law_1019 : decode cL_law 1019 = .ok (.aload_n 1, 1) := by decide +kernel
theorem dL_law_1020 : decode cL_law 1020 = .ok (.aload_n 0, 1) := by decide +kernel
theorem dL_law_1021 : decode cL_law 1021 = .ok (.iload_n 3, 1) := by decide +kernel
theorem dL_law_1022 : decode cL_law 1022 = .ok (.iconst 1, 1) := by decide +kernel
theorem dL_law_1023 : decode cL_law 1023 = .ok (.iadd, 1) := by decide +kernel
theorem dL_law_1024 : decode cL_law 1024 = .ok (.iaload, 1) := by decide +kernel
theorem dL_law_1025 : decode cL_law 1025 = .ok (.aload_n 0, 1) := by decide +kernel
theorem dL_law_1026 : decode cL_law 1026 = .ok (.iload_n 3, 1) := by decide +kernel
theorem dL_law_1027 : decode cL_law 1027 = .ok (.iconst 2, 1) := by decide +kernel
theorem dL_law_1028 : decode cL_law 1028 = .ok (.iadd, 1) := by decide +kernel
theorem dL_law_1029 : decode cL_law 1029 = .ok (.iaload, 1) := by decide +kernel
theorem dL_law_1030 : decode cL_law 1030 = .ok (.invokevirtual 126, 3) := by decide +kernel
theorem dL_law_1033 : decode cL_law 1033 = .ok (.aload_n 2, 1) := by decide +kernel
theorem dL_law_1034 : decode cL_law 1034 = .ok (.aload_n 0, 1) := by decide +kernel
theorem dL_law_1035 : decode cL_law 1035 = .ok (.iload_n 3, 1) := by decide +kernel
theorem dL_law_1036 : decode cL_law 1036 = .ok (.iconst 1, 1) := by decide +kernel
theorem dL_law_1037 : decode cL_law 1037 = .ok (.iadd, 1) := by decide +kernel
theorem dL_law_1038 : decode cL_law 1038 = .ok (.iaload, 1) := by decide +kernel
theorem dL_law_1039 : decode cL_law 1039 = .ok (.aload_n 0, 1) := by decide +kernel
theorem dL_law_1040 : decode cL_law 1040 = .ok (.iload_n 3, 1) := by decide +kernel
theorem dL_law_1041 : decode cL_law 1041 = .ok (.iconst 2, 1) := by decide +kernel
theorem dL_law_1042 : decode cL_law 1042 = .ok (.iadd, 1) := by decide +kernel
theorem dL_law_1043 : decode cL_law 1043 = .ok (.iaload, 1) := by decide +kernel
theorem dL_law_1044 : decode cL_law 1044 = .ok (.invokevirtual 129, 3) := by decide +kernel
theorem dL_law_1047 : decode cL_law 1047 = .ok (.if_icmp .eq 389, 3) := by decide +kernel
theorem dL_law_1050 : decode cL_law 1050 = .ok (.iconst 0, 1) := by decide +kernel
theorem dL_law_1051 : decode cL_law 1051 = .ok (.ireturn, 1) := by decide +kernel
theorem dL_law_1052 : decode cL_law 1052 = .ok (.aload_n 1, 1) := by decide +kernel
theorem dL_law_1053 : decode cL_law 1053 = .ok (.aload_n 0, 1) := by decide +kernel
theorem dL_law_1054 : decode cL_law 1054 = .ok (.iload_n 3, 1) := by decide +kernel
theorem dL_law_1055 : decode cL_law 1055 = .ok (.iconst 1, 1) := by decide +kernel
theorem dL_law_1056 : decode cL_law 1056 = .ok (.iadd, 1) := by decide +kernel
theorem dL_law_1057 : decode cL_law 1057 = .ok (.iaload, 1) := by decide +kernel
theorem dL_law_1058 : decode cL_law 1058 = .ok (.invokevirtual 130, 3) := by decide +kernel
theorem dL_law_1061 : decode cL_law 1061 = .ok (.aload_n 2, 1) := by decide +kernel
theorem dL_law_1062 : decode cL_law 1062 = .ok (.aload_n 0, 1) := by decide +kernel
theorem dL_law_1063 : decode cL_law 1063 = .ok (.iload_n 3, 1) := by decide +kernel
theorem dL_law_1064 : decode cL_law 1064 = .ok (.iconst 1, 1) := by decide +kernel
theorem dL_law_1065 : decode cL_law 1065 = .ok (.iadd, 1) := by decide +kernel
theorem dL_law_1066 : decode cL_law 1066 = .ok (.iaload, 1) := by decide +kernel
theorem dL_law_1067 : decode cL_law 1067 = .ok (.invokevirtual 133, 3) := by decide +kernel
theorem dL_law_1070 : decode cL_law 1070 = .ok (.if_icmp .eq 366, 3) := by decide +kernel
theorem dL_law_1073 : decode cL_law 1073 = .ok (.iconst 0, 1) := by decide +kernel
theorem dL_law_1074 : decode cL_law 1074 = .ok (.ireturn, 1) := by decide +kernel
theorem dL_law_1075 : decode cL_law 1075 = .ok (.aload_n 1, 1) := by decide +kernel
theorem dL_law_1076 : decode cL_law 1076 = .ok (.aload_n 0, 1) := by decide +kernel
theorem dL_law_1077 : decode cL_law 1077 = .ok (.iload_n 3, 1) := by decide +kernel
theorem dL_law_1078 : decode cL_law 1078 = .ok (.iconst 1, 1) := by decide +kernel
theorem dL_law_1079 : decode cL_law 1079 = .ok (.iadd, 1) := by decide +kernel
theorem dL_law_1080 : decode cL_law 1080 = .ok (.iaload, 1) := by decide +kernel
theorem dL_law_1081 : decode cL_law 1081 = .ok (.aload_n 0, 1) := by decide +kernel
theorem dL_law_1082 : decode cL_law 1082 = .ok (.iload_n 3, 1) := by decide +kernel
theorem dL_law_1083 : decode cL_law 1083 = .ok (.iconst 2, 1) := by decide +kernel
theorem dL_law_1084 : decode cL_law 1084 = .ok (.iadd, 1) := by decide +kernel
theorem dL_law_1085 : decode cL_law 1085 = .ok (.iaload, 1) := by decide +kernel
theorem dL_law_1086 : decode cL_law 1086 = .ok (.invokevirtual 134, 3) := by decide +kernel
theorem dL_law_1089 : decode cL_law 1089 = .ok (.aload_n 2, 1) := by decide +kernel
theorem dL_law_1090 : decode cL_law 1090 = .ok (.aload_n 0, 1) := by decide +kernel
theorem dL_law_1091 : decode cL_law 1091 = .ok (.iload_n 3, 1) := by decide +kernel
theorem dL_law_1092 : decode cL_law 1092 = .ok (.iconst 1, 1) := by decide +kernel
theorem dL_law_1093 : decode cL_law 1093 = .ok (.iadd, 1) := by decide +kernel
theorem dL_law_1094 : decode cL_law 1094 = .ok (.iaload, 1) := by decide +kernel
theorem dL_law_1095 : decode cL_law 1095 = .ok (.aload_n 0, 1) := by decide +kernel
theorem dL_law_1096 : decode cL_law 1096 = .ok (.iload_n 3, 1) := by decide +kernel
theorem dL_law_1097 : decode cL_law 1097 = .ok (.iconst 2, 1) := by decide +kernel
theorem dL_law_1098 : decode cL_law 1098 = .ok (.iadd, 1) := by decide +kernel
theorem dL_law_1099 : decode cL_law 1099 = .ok (.iaload, 1) := by decide +kernel
theorem dL_law_1100 : decode cL_law 1100 = .ok (.invokevirtual 137, 3) := by decide +kernel
theorem dL_law_1103 : decode cL_law 1103 = .ok (.if_icmp .eq 333, 3) := by decide +kernel
theorem dL_law_1106 : decode cL_law 1106 = .ok (.iconst 0, 1) := by decide +kernel
theorem dL_law_1107 : decode cL_law 1107 = .ok (.ireturn, 1) := by decide +kernel
theorem dL_law_1108 : decode cL_law 1108 = .ok (.aload_n 1, 1) := by decide +kernel
theorem dL_law_1109 : decode cL_law 1109 = .ok (.aload_n 0, 1) := by decide +kernel
theorem dL_law_1110 : decode cL_law 1110 = .ok (.iload_n 3, 1) := by decide +kernel
theorem dL_law_1111 : decode cL_law 1111 = .ok (.iconst 1, 1) := by decide +kernel
theorem dL_law_1112 : decode cL_law 1112 = .ok (.iadd, 1) := by decide +kernel
theorem dL_law_1113 : decode cL_law 1113 = .ok (.iaload, 1) := by decide +kernel
theorem dL_law_1114 : decode cL_law 1114 = .ok (.invokevirtual 138, 3) := by decide +kernel
theorem dL_law_1117 : decode cL_law 1117 = .ok (.aload_n 2, 1) := by decide +kernel
theorem dL_law_1118 : decode cL_law 1118 = .ok (.aload_n 0, 1) := by decide +kernel
theorem dL_law_1119 : decode cL_law 1119 = .ok (.iload_n 3, 1) := by decide +kernel
theorem dL_law_1120 : decode cL_law 1120 = .ok (.iconst 1, 1) := by decide +kernel
theorem dL_law_1121 : decode cL_law 1121 = .ok (.iadd, 1) := by decide +kernel
theorem dL_law_1122 : decode cL_law 1122 = .ok (.iaload, 1) := by decide +kernel
theorem dL_law_1123 : decode cL_law 1123 = .ok (.invokevirtual 141, 3) := by decide +kernel
theorem dL_law_1126 : decode cL_law 1126 = .ok (.if_icmp .eq 310, 3) := by decide +kernel
theorem dL_law_1129 : decode cL_law 1129 = .ok (.iconst 0, 1) := by decide +kernel
theorem dL_law_1130 : decode cL_law 1130 = .ok (.ireturn, 1) := by decide +kernel
theorem dL_law_1131 : decode cL_law 1131 = .ok (.aload_n 1, 1) := by decide +kernel
theorem dL_law_1132 : decode cL_law 1132 = .ok (.aload_n 0, 1) := by decide +kernel
theorem dL_law_1133 : decode cL_law 1133 = .ok (.iload_n 3, 1) := by decide +kernel
theorem dL_law_1134 : decode cL_law 1134 = .ok (.iconst 1, 1) := by decide +kernel
theorem dL_law_1135 : decode cL_law 1135 = .ok (.iadd, 1) := by decide +kernel
theorem dL_law_1136 : decode cL_law 1136 = .ok (.iaload, 1) := by decide +kernel
theorem dL_law_1137 : decode cL_law 1137 = .ok (.aload_n 0, 1) := by decide +kernel
theorem dL_law_1138 : decode cL_law 1138 = .ok (.iload_n 3, 1) := by decide +kernel
theorem dL_law_1139 : decode cL_law 1139 = .ok (.iconst 2, 1) := by decide +kernel
theorem dL_law_1140 : decode cL_law 1140 = .ok (.iadd, 1) := by decide +kernel
theorem dL_law_1141 : decode cL_law 1141 = .ok (.iaload, 1) := by decide +kernel
theorem dL_law_1142 : decode cL_law 1142 = .ok (.invokevirtual 142, 3) := by decide +kernel
theorem dL_law_1145 : decode cL_law 1145 = .ok (.aload_n 2, 1) := by decide +kernel
theorem dL_law_1146 : decode cL_law 1146 = .ok (.aload_n 0, 1) := by decide +kernel
theorem dL_law_1147 : decode cL_law 1147 = .ok (.iload_n 3, 1) := by decide +kernel
theorem dL_law_1148 : decode cL_law 1148 = .ok (.iconst 1, 1) := by decide +kernel
theorem dL_law_1149 : decode cL_law 1149 = .ok (.iadd, 1) := by decide +kernel
theorem dL_law_1150 : decode cL_law 1150 = .ok (.iaload, 1) := by decide +kernel
theorem dL_law_1151 : decode cL_law 1151 = .ok (.aload_n 0, 1) := by decide +kernel
theorem dL_law_1152 : decode cL_law 1152 = .ok (.iload_n 3, 1) := by decide +kernel
theorem dL_law_1153 : decode cL_law 1153 = .ok (.iconst 2, 1) := by decide +kernel
theorem dL_law_1154 : decode cL_law 1154 = .ok (.iadd, 1) := by decide +kernel
theorem dL_law_1155 : decode cL_law 1155 = .ok (.iaload, 1) := by decide +kernel
theorem dL_law_1156 : decode cL_law 1156 = .ok (.invokevirtual 145, 3) := by decide +kernel
theorem dL_law_1159 : decode cL_law 1159 = .ok (.if_icmp .eq 277, 3) := by decide +kernel
theorem dL_law_1162 : decode cL_law 1162 = .ok (.iconst 0, 1) := by decide +kernel
theorem dL_law_1163 : decode cL_law 1163 = .ok (.ireturn, 1) := by decide +kernel
theorem dL_law_1164 : decode cL_law 1164 = .ok (.aload_n 1, 1) := by decide +kernel
theorem dL_law_1165 : decode cL_law 1165 = .ok (.aload_n 0, 1) := by decide +kernel
theorem dL_law_1166 : decode cL_law 1166 = .ok (.iload_n 3, 1) := by decide +kernel
theorem dL_law_1167 : decode cL_law 1167 = .ok (.iconst 1, 1) := by decide +kernel
theorem dL_law_1168 : decode cL_law 1168 = .ok (.iadd, 1) := by decide +kernel
theorem dL_law_1169 : decode cL_law 1169 = .ok (.iaload, 1) := by decide +kernel
theorem dL_law_1170 : decode cL_law 1170 = .ok (.invokevirtual 146, 3) := by decide +kernel
theorem dL_law_1173 : decode cL_law 1173 = .ok (.aload_n 2, 1) := by decide +kernel
theorem dL_law_1174 : decode cL_law 1174 = .ok (.aload_n 0, 1) := by decide +kernel
theorem dL_law_1175 : decode cL_law 1175 = .ok (.iload_n 3, 1) := by decide +kernel
theorem dL_law_1176 : decode cL_law 1176 = .ok (.iconst 1, 1) := by decide +kernel
theorem dL_law_1177 : decode cL_law 1177 = .ok (.iadd, 1) := by decide +kernel
theorem dL_law_1178 : decode cL_law 1178 = .ok (.iaload, 1) := by decide +kernel
theorem dL_law_1179 : decode cL_law 1179 = .ok (.invokevirtual 149, 3) := by decide +kernel
theorem dL_law_1182 : decode cL_law 1182 = .ok (.if_icmp .eq 254, 3) := by decide +kernel
theorem dL_law_1185 : decode cL_law 1185 = .ok (.iconst 0, 1) := by decide +kernel
theorem dL_law_1186 : decode cL_law 1186 = .ok (.ireturn, 1) := by decide +kernel
theorem dL_law_1187 : decode cL_law 1187 = .ok (.aload_n 1, 1) := by decide +kernel
theorem dL_law_1188 : decode cL_law 1188 = .ok (.aload_n 0, 1) := by decide +kernel
theorem dL_law_1189 : decode cL_law 1189 = .ok (.iload_n 3, 1) := by decide +kernel
theorem dL_law_1190 : decode cL_law 1190 = .ok (.iconst 1, 1) := by decide +kernel
theorem dL_law_1191 : decode cL_law 1191 = .ok (.iadd, 1) := by decide +kernel
theorem dL_law_1192 : decode cL_law 1192 = .ok (.iaload, 1) := by decide +kernel
theorem dL_law_1193 : decode cL_law 1193 = .ok (.invokevirtual 150, 3) := by decide +kernel
theorem dL_law_1196 : decode cL_law 1196 = .ok (.aload_n 2, 1) := by decide +kernel
theorem dL_law_1197 : decode cL_law 1197 = .ok (.aload_n 0, 1) := by decide +kernel
theorem dL_law_1198 : decode cL_law 1198 = .ok (.iload_n 3, 1) := by decide +kernel
theorem dL_law_1199 : decode cL_law 1199 = .ok (.iconst 1, 1) := by decide +kernel
theorem dL_law_1200 : decode cL_law 1200 = .ok (.iadd, 1) := by decide +kernel
theorem dL_law_1201 : decode cL_law 1201 = .ok (.iaload, 1) := by decide +kernel
theorem dL_law_1202 : decode cL_law 1202 = .ok (.invokevirtual 153, 3) := by decide +kernel
theorem dL_law_1205 : decode cL_law 1205 = .ok (.if_icmp .eq 231, 3) := by decide +kernel
theorem dL_law_1208 : decode cL_law 1208 = .ok (.iconst 0, 1) := by decide +kernel
theorem dL_law_1209 : decode cL_law 1209 = .ok (.ireturn, 1) := by decide +kernel
theorem dL_law_1210 : decode cL_law 1210 = .ok (.aload_n 1, 1) := by decide +kernel
theorem dL_law_1211 : decode cL_law 1211 = .ok (.aload_n 0, 1) := by decide +kernel
theorem dL_law_1212 : decode cL_law 1212 = .ok (.iload_n 3, 1) := by decide +kernel
theorem dL_law_1213 : decode cL_law 1213 = .ok (.iconst 1, 1) := by decide +kernel
theorem dL_law_1214 : decode cL_law 1214 = .ok (.iadd, 1) := by decide +kernel
theorem dL_law_1215 : decode cL_law 1215 = .ok (.iaload, 1) := by decide +kernel
theorem dL_law_1216 : decode cL_law 1216 = .ok (.aload_n 0, 1) := by decide +kernel
theorem dL_law_1217 : decode cL_law 1217 = .ok (.iload_n 3, 1) := by decide +kernel
theorem dL_law_1218 : decode cL_law 1218 = .ok (.iconst 2, 1) := by decide +kernel
theorem dL_law_1219 : decode cL_law 1219 = .ok (.iadd, 1) := by decide +kernel
theorem dL_law_1220 : decode cL_law 1220 = .ok (.iaload, 1) := by decide +kernel
theorem dL_law_1221 : decode cL_law 1221 = .ok (.invokevirtual 154, 3) := by decide +kernel
theorem dL_law_1224 : decode cL_law 1224 = .ok (.aload_n 2, 1) := by decide +kernel
theorem dL_law_1225 : decode cL_law 1225 = .ok (.aload_n 0, 1) := by decide +kernel
theorem dL_law_1226 : decode cL_law 1226 = .ok (.iload_n 3, 1) := by decide +kernel
theorem dL_law_1227 : decode cL_law 1227 = .ok (.iconst 1, 1) := by decide +kernel
theorem dL_law_1228 : decode cL_law 1228 = .ok (.iadd, 1) := by decide +kernel
theorem dL_law_1229 : decode cL_law 1229 = .ok (.iaload, 1) := by decide +kernel
theorem dL_law_1230 : decode cL_law 1230 = .ok (.aload_n 0, 1) := by decide +kernel
theorem dL_law_1231 : decode cL_law 1231 = .ok (.iload_n 3, 1) := by decide +kernel
theorem dL_law_1232 : decode cL_law 1232 = .ok (.iconst 2, 1) := by decide +kernel
theorem dL_law_1233 : decode cL_law 1233 = .ok (.iadd, 1) := by decide +kernel
theorem dL_law_1234 : decode cL_law 1234 = .ok (.iaload, 1) := by decide +kernel
theorem dL_law_1235 : decode cL_law 1235 = .ok (.invokevirtual 157, 3) := by decide +kernel
theorem dL_law_1238 : decode cL_law 1238 = .ok (.if_icmp .eq 198, 3) := by decide +kernel
theorem dL_law_1241 : decode cL_law 1241 = .ok (.iconst 0, 1) := by decide +kernel
theorem dL_law_1242 : decode cL_law 1242 = .ok (.ireturn, 1) := by decide +kernel
theorem dL_law_1243 : decode cL_law 1243 = .ok (.aload_n 1, 1) := by decide +kernel
theorem dL_law_1244 : decode cL_law 1244 = .ok (.aload_n 0, 1) := by decide +kernel
theorem dL_law_1245 : decode cL_law 1245 = .ok (.iload_n 3, 1) := by decide +kernel
theorem dL_law_1246 : decode cL_law 1246 = .ok (.iconst 1, 1) := by decide +kernel
theorem dL_law_1247 : decode cL_law 1247 = .ok (.iadd, 1) := by decide +kernel
theorem dL_law_1248 : decode cL_law 1248 = .ok (.iaload, 1) := by decide +kernel
theorem dL_law_1249 : decode cL_law 1249 = .ok (.invokevirtual 158, 3) := by decide +kernel
theorem dL_law_1252 : decode cL_law 1252 = .ok (.aload_n 2, 1) := by decide +kernel
theorem dL_law_1253 : decode cL_law 1253 = .ok (.aload_n 0, 1) := by decide +kernel
theorem dL_law_1254 : decode cL_law 1254 = .ok (.iload_n 3, 1) := by decide +kernel
theorem dL_law_1255 : decode cL_law 1255 = .ok (.iconst 1, 1) := by decide +kernel
theorem dL_law_1256 : decode cL_law 1256 = .ok (.iadd, 1) := by decide +kernel
theorem dL_law_1257 : decode cL_law 1257 = .ok (.iaload, 1) := by decide +kernel
theorem dL_law_1258 : decode cL_law 1258 = .ok (.invokevirtual 161, 3) := by decide +kernel
theorem dL_law_1261 : decode cL_law 1261 = .ok (.if_icmp .eq 175, 3) := by decide +kernel
theorem dL_law_1264 : decode cL_law 1264 = .ok (.iconst 0, 1) := by decide +kernel
theorem dL_law_1265 : decode cL_law 1265 = .ok (.ireturn, 1) := by decide +kernel
theorem dL_law_1266 : decode cL_law 1266 = .ok (.aload_n 1, 1) := by decide +kernel
theorem dL_law_1267 : decode cL_law 1267 = .ok (.aload_n 0, 1) := by decide +kernel
theorem dL_law_1268 : decode cL_law 1268 = .ok (.iload_n 3, 1) := by decide +kernel
theorem dL_law_1269 : decode cL_law 1269 = .ok (.iconst 1, 1) := by decide +kernel
theorem dL_law_1270 : decode cL_law 1270 = .ok (.iadd, 1) := by decide +kernel
theorem dL_law_1271 : decode cL_law 1271 = .ok (.iaload, 1) := by decide +kernel
theorem dL_law_1272 : decode cL_law 1272 = .ok (.invokevirtual 162, 3) := by decide +kernel
theorem dL_law_1275 : decode cL_law 1275 = .ok (.aload_n 2, 1) := by decide +kernel
theorem dL_law_1276 : decode cL_law 1276 = .ok (.aload_n 0, 1) := by decide +kernel
theorem dL_law_1277 : decode cL_law 1277 = .ok (.iload_n 3, 1) := by decide +kernel
theorem dL_law_1278 : decode cL_law 1278 = .ok (.iconst 1, 1) := by decide +kernel
theorem dL_law_1279 : decode cL_law 1279 = .ok (.iadd, 1) := by decide +kernel
theorem dL_law_1280 : decode cL_law 1280 = .ok (.iaload, 1) := by decide +kernel
theorem dL_law_1281 : decode cL_law 1281 = .ok (.invokevirtual 165, 3) := by decide +kernel
theorem dL_law_1284 : decode cL_law 1284 = .ok (.if_icmp .eq 152, 3) := by decide +kernel
theorem dL_law_1287 : decode cL_law 1287 = .ok (.iconst 0, 1) := by decide +kernel
theorem dL_law_1288 : decode cL_law 1288 = .ok (.ireturn, 1) := by decide +kernel
theorem dL_law_1289 : decode cL_law 1289 = .ok (.aload_n 1, 1) := by decide +kernel
theorem dL_law_1290 : decode cL_law 1290 = .ok (.aload_n 0, 1) := by decide +kernel
theorem dL_law_1291 : decode cL_law 1291 = .ok (.iload_n 3, 1) := by decide +kernel
theorem dL_law_1292 : decode cL_law 1292 = .ok (.iconst 1, 1) := by decide +kernel
theorem dL_law_1293 : decode cL_law 1293 = .ok (.iadd, 1) := by decide +kernel
theorem dL_law_1294 : decode cL_law 1294 = .ok (.iaload, 1) := by decide +kernel
theorem dL_law_1295 : decode cL_law 1295 = .ok (.aload_n 0, 1) := by decide +kernel
theorem dL_law_1296 : decode cL_law 1296 = .ok (.iload_n 3, 1) := by decide +kernel
theorem dL_law_1297 : decode cL_law 1297 = .ok (.iconst 2, 1) := by decide +kernel
theorem dL_law_1298 : decode cL_law 1298 = .ok (.iadd, 1) := by decide +kernel
theorem dL_law_1299 : decode cL_law 1299 = .ok (.iaload, 1) := by decide +kernel
theorem dL_law_1300 : decode cL_law 1300 = .ok (.invokevirtual 166, 3) := by decide +kernel
theorem dL_law_1303 : decode cL_law 1303 = .ok (.aload_n 2, 1) := by decide +kernel
theorem dL_law_1304 : decode cL_law 1304 = .ok (.aload_n 0, 1) := by decide +kernel
theorem dL_law_1305 : decode cL_law 1305 = .ok (.iload_n 3, 1) := by decide +kernel
theorem dL_law_1306 : decode cL_law 1306 = .ok (.iconst 1, 1) := by decide +kernel
theorem dL_law_1307 : decode cL_law 1307 = .ok (.iadd, 1) := by decide +kernel
theorem dL_law_1308 : decode cL_law 1308 = .ok (.iaload, 1) := by decide +kernel
theorem dL_law_1309 : decode cL_law 1309 = .ok (.aload_n 0, 1) := by decide +kernel
theorem dL_law_1310 : decode cL_law 1310 = .ok (.iload_n 3, 1) := by decide +kernel
theorem dL_law_1311 : decode cL_law 1311 = .ok (.iconst 2, 1) := by decide +kernel
theorem dL_law_1312 : decode cL_law 1312 = .ok (.iadd, 1) := by decide +kernel
theorem dL_law_1313 : decode cL_law 1313 = .ok (.iaload, 1) := by decide +kernel
theorem dL_law_1314 : decode cL_law 1314 = .ok (.invokevirtual 169, 3) := by decide +kernel
theorem dL_law_1317 : decode cL_law 1317 = .ok (.if_icmp .eq 119, 3) := by decide +kernel
theorem dL_law_1320 : decode cL_law 1320 = .ok (.iconst 0, 1) := by decide +kernel
theorem dL_law_1321 : decode cL_law 1321 = .ok (.ireturn, 1) := by decide +kernel
theorem dL_law_1322 : decode cL_law 1322 = .ok (.aload_n 1, 1) := by decide +kernel
theorem dL_law_1323 : decode cL_law 1323 = .ok (.invokevirtual 170, 3) := by decide +kernel
theorem dL_law_1326 : decode cL_law 1326 = .ok (.aload_n 2, 1) := by decide +kernel
theorem dL_law_1327 : decode cL_law 1327 = .ok (.invokevirtual 173, 3) := by decide +kernel
theorem dL_law_1330 : decode cL_law 1330 = .ok (.if_icmp .eq 106, 3) := by decide +kernel
theorem dL_law_1333 : decode cL_law 1333 = .ok (.iconst 0, 1) := by decide +kernel
theorem dL_law_1334 : decode cL_law 1334 = .ok (.ireturn, 1) := by decide +kernel
theorem dL_law_1335 : decode cL_law 1335 = .ok (.aload_n 1, 1) := by decide +kernel
theorem dL_law_1336 : decode cL_law 1336 = .ok (.invokevirtual 174, 3) := by decide +kernel
theorem dL_law_1339 : decode cL_law 1339 = .ok (.aload_n 2, 1) := by decide +kernel
theorem dL_law_1340 : decode cL_law 1340 = .ok (.invokevirtual 178, 3) := by decide +kernel
theorem dL_law_1343 : decode cL_law 1343 = .ok (.lcmp, 1) := by decide +kernel
theorem dL_law_1344 : decode cL_law 1344 = .ok (.ifCond .eq 92, 3) := by decide +kernel
theorem dL_law_1347 : decode cL_law 1347 = .ok (.iconst 0, 1) := by decide +kernel
theorem dL_law_1348 : decode cL_law 1348 = .ok (.ireturn, 1) := by decide +kernel
theorem dL_law_1349 : decode cL_law 1349 = .ok (.aload_n 1, 1) := by decide +kernel
theorem dL_law_1350 : decode cL_law 1350 = .ok (.invokevirtual 179, 3) := by decide +kernel
theorem dL_law_1353 : decode cL_law 1353 = .ok (.aload_n 2, 1) := by decide +kernel
theorem dL_law_1354 : decode cL_law 1354 = .ok (.invokevirtual 182, 3) := by decide +kernel
theorem dL_law_1357 : decode cL_law 1357 = .ok (.lcmp, 1) := by decide +kernel
theorem dL_law_1358 : decode cL_law 1358 = .ok (.ifCond .eq 78, 3) := by decide +kernel
theorem dL_law_1361 : decode cL_law 1361 = .ok (.iconst 0, 1) := by decide +kernel
theorem dL_law_1362 : decode cL_law 1362 = .ok (.ireturn, 1) := by decide +kernel
theorem dL_law_1363 : decode cL_law 1363 = .ok (.aload_n 1, 1) := by decide +kernel
theorem dL_law_1364 : decode cL_law 1364 = .ok (.aload_n 0, 1) := by decide +kernel
theorem dL_law_1365 : decode cL_law 1365 = .ok (.iload_n 3, 1) := by decide +kernel
theorem dL_law_1366 : decode cL_law 1366 = .ok (.iconst 1, 1) := by decide +kernel
theorem dL_law_1367 : decode cL_law 1367 = .ok (.iadd, 1) := by decide +kernel
theorem dL_law_1368 : decode cL_law 1368 = .ok (.iaload, 1) := by decide +kernel
theorem dL_law_1369 : decode cL_law 1369 = .ok (.invokevirtual 183, 3) := by decide +kernel
theorem dL_law_1372 : decode cL_law 1372 = .ok (.aload_n 2, 1) := by decide +kernel
theorem dL_law_1373 : decode cL_law 1373 = .ok (.aload_n 0, 1) := by decide +kernel
theorem dL_law_1374 : decode cL_law 1374 = .ok (.iload_n 3, 1) := by decide +kernel
theorem dL_law_1375 : decode cL_law 1375 = .ok (.iconst 1, 1) := by decide +kernel
theorem dL_law_1376 : decode cL_law 1376 = .ok (.iadd, 1) := by decide +kernel
theorem dL_law_1377 : decode cL_law 1377 = .ok (.iaload, 1) := by decide +kernel
theorem dL_law_1378 : decode cL_law 1378 = .ok (.invokevirtual 186, 3) := by decide +kernel
theorem dL_law_1381 : decode cL_law 1381 = .ok (.if_icmp .eq 55, 3) := by decide +kernel
theorem dL_law_1384 : decode cL_law 1384 = .ok (.iconst 0, 1) := by decide +kernel
theorem dL_law_1385 : decode cL_law 1385 = .ok (.ireturn, 1) := by decide +kernel
theorem dL_law_1386 : decode cL_law 1386 = .ok (.aload_n 1, 1) := by decide +kernel
theorem dL_law_1387 : decode cL_law 1387 = .ok (.invokevirtual 187, 3) := by decide +kernel
theorem dL_law_1390 : decode cL_law 1390 = .ok (.aload_n 2, 1) := by decide +kernel
theorem dL_law_1391 : decode cL_law 1391 = .ok (.invokevirtual 190, 3) := by decide +kernel
theorem dL_law_1394 : decode cL_law 1394 = .ok (.if_icmp .eq 42, 3) := by decide +kernel
theorem dL_law_1397 : decode cL_law 1397 = .ok (.iconst 0, 1) := by decide +kernel
theorem dL_law_1398 : decode cL_law 1398 = .ok (.ireturn, 1) := by decide +kernel
theorem dL_law_1399 : decode cL_law 1399 = .ok (.aload_n 1, 1) := by decide +kernel
theorem dL_law_1400 : decode cL_law 1400 = .ok (.aload_n 0, 1) := by decide +kernel
theorem dL_law_1401 : decode cL_law 1401 = .ok (.iload_n 3, 1) := by decide +kernel
theorem dL_law_1402 : decode cL_law 1402 = .ok (.iconst 1, 1) := by decide +kernel
theorem dL_law_1403 : decode cL_law 1403 = .ok (.iadd, 1) := by decide +kernel
theorem dL_law_1404 : decode cL_law 1404 = .ok (.iaload, 1) := by decide +kernel
theorem dL_law_1405 : decode cL_law 1405 = .ok (.invokevirtual 191, 3) := by decide +kernel
theorem dL_law_1408 : decode cL_law 1408 = .ok (.aload_n 2, 1) := by decide +kernel
theorem dL_law_1409 : decode cL_law 1409 = .ok (.aload_n 0, 1) := by decide +kernel
theorem dL_law_1410 : decode cL_law 1410 = .ok (.iload_n 3, 1) := by decide +kernel
theorem dL_law_1411 : decode cL_law 1411 = .ok (.iconst 1, 1) := by decide +kernel
theorem dL_law_1412 : decode cL_law 1412 = .ok (.iadd, 1) := by decide +kernel
theorem dL_law_1413 : decode cL_law 1413 = .ok (.iaload, 1) := by decide +kernel
theorem dL_law_1414 : decode cL_law 1414 = .ok (.invokevirtual 194, 3) := by decide +kernel
theorem dL_law_1417 : decode cL_law 1417 = .ok (.if_icmp .eq 19, 3) := by decide +kernel
theorem dL_law_1420 : decode cL_law 1420 = .ok (.iconst 0, 1) := by decide +kernel
theorem dL_law_1421 : decode cL_law 1421 = .ok (.ireturn, 1) := by decide +kernel
theorem dL_law_1422 : decode cL_law 1422 = .ok (.aload_n 1, 1) := by decide +kernel
theorem dL_law_1423 : decode cL_law 1423 = .ok (.invokevirtual 195, 3) := by decide +kernel
theorem dL_law_1426 : decode cL_law 1426 = .ok (.aload_n 2, 1) := by decide +kernel
theorem dL_law_1427 : decode cL_law 1427 = .ok (.invokevirtual 198, 3) := by decide +kernel
theorem dL_law_1430 : decode cL_law 1430 = .ok (.lcmp, 1) := by decide +kernel
theorem dL_law_1431 : decode cL_law 1431 = .ok (.ifCond .eq 5, 3) := by decide +kernel
theorem dL_law_1434 : decode cL_law 1434 = .ok (.iconst 0, 1) := by decide +kernel
theorem dL_law_1435 : decode cL_law 1435 = .ok (.ireturn, 1) := by decide +kernel
theorem dL_law_1436 : decode cL_law 1436 = .ok (.iinc 3 6, 3) := by decide +kernel
theorem dL_law_1439 : decode cL_law 1439 = .ok (.goto (-1421), 3) := by decide +kernel
theorem dL_law_1442 : decode cL_law 1442 = .ok (.iconst 1, 1) := by decide +kernel
theorem dL_law_1443 : decode cL_law 1443 = .ok (.ireturn, 1) := by decide +kernel
