theorem dX6_draws_10 : decode cX6_draws 10 = .ok (.bipush 10, 2) := by decide +kernel
theorem dX6_draws_12 : decode cX6_draws 12 = .ok (.iaload, 1) := by decide +kernel
theorem dX6_draws_13 : decode cX6_draws 13 = .ok (.bipush (-4), 2) := by decide +kernel
theorem dX6_draws_15 : decode cX6_draws 15 = .ok (.if_icmp .ne 7, 3) := by decide +kernel
theorem dX6_draws_18 : decode cX6_draws 18 = .ok (.iconst 2, 1) := by decide +kernel
theorem dX6_draws_19 : decode cX6_draws 19 = .ok (.goto 4, 3) := by decide +kernel
theorem dX6_draws_22 : decode cX6_draws 22 = .ok (.iconst 1, 1) := by decide +kernel
theorem dX6_draws_23 : decode cX6_draws 23 = .ok (.idiv, 1) := by decide +kernel
theorem dX6_draws_24 : decode cX6_draws 24 = .ok (.istore_n 2, 1) := by decide +kernel
theorem dX6_draws_25 : decode cX6_draws 25 = .ok (.aload_n 0, 1) := by decide +kernel
theorem dX6_draws_26 : decode cX6_draws 26 = .ok (.getfield 7, 3) := by decide +kernel
theorem dX6_draws_29 : decode cX6_draws 29 = .ok (.iconst 0, 1) := by decide +kernel
theorem dX6_draws_30 : decode cX6_draws 30 = .ok (.iaload, 1) := by decide +kernel
theorem dX6_draws_31 : decode cX6_draws 31 = .ok (.aload_n 0, 1) := by decide +kernel
theorem dX6_draws_32 : decode cX6_draws 32 = .ok (.getfield 7, 3) := by decide +kernel
theorem dX6_draws_35 : decode cX6_draws 35 = .ok (.iconst 1, 1) := by decide +kernel
theorem dX6_draws_36 : decode cX6_draws 36 = .ok (.iaload, 1) := by decide +kernel
theorem dX6_draws_37 : decode cX6_draws 37 = .ok (.isub, 1) := by decide +kernel
theorem dX6_draws_38 : decode cX6_draws 38 = .ok (.istore_n 3, 1) := by decide +kernel
theorem dX6_draws_39 : decode cX6_draws 39 = .ok (.bipush 24, 2) := by decide +kernel
theorem dX6_draws_41 : decode cX6_draws 41 = .ok (.aload_n 0, 1) := by decide +kernel
theorem dX6_draws_42 : decode cX6_draws 42 = .ok (.getfield 7, 3) := by decide +kernel
theorem dX6_draws_45 : decode cX6_draws 45 = .ok (.bipush 7, 2) := by decide +kernel
theorem dX6_draws_47 : decode cX6_draws 47 = .ok (.iaload, 1) := by decide +kernel
theorem dX6_draws_48 : decode cX6_draws 48 = .ok (.isub, 1) := by decide +kernel
theorem dX6_draws_49 : decode cX6_draws 49 = .ok (.istore 4, 2) := by decide +kernel
theorem dX6_draws_51 : decode cX6_draws 51 = .ok (.iload_n 2, 1) := by decide +kernel
theorem dX6_draws_52 : decode cX6_draws 52 = .ok (.iload_n 3, 1) := by decide +kernel
theorem dX6_draws_53 : decode cX6_draws 53 = .ok (.if_icmp .ge 7, 3) := by decide +kernel
theorem dX6_draws_56 : decode cX6_draws 56 = .ok (.iload_n 2, 1) := by decide +kernel
theorem dX6_draws_57 : decode cX6_draws 57 = .ok (.goto 4, 3) := by decide +kernel
theorem dX6_draws_60 : decode cX6_draws 60 = .ok (.iload_n 3, 1) := by decide +kernel
theorem dX6_draws_61 : decode cX6_draws 61 = .ok (.istore 5, 2) := by decide +kernel
theorem dX6_draws_63 : decode cX6_draws 63 = .ok (.iload 5, 2) := by decide +kernel
theorem dX6_draws_65 : decode cX6_draws 65 = .ok (.iload 4, 2) := by decide +kernel
theorem dX6_draws_67 : decode cX6_draws 67 = .ok (.if_icmp .ge 8, 3) := by decide +kernel
theorem dX6_draws_70 : decode cX6_draws 70 = .ok (.iload 5, 2) := by decide +kernel
theorem dX6_draws_72 : decode cX6_draws 72 = .ok (.goto 5, 3) := by decide +kernel
theorem dX6_draws_75 : decode cX6_draws 75 = .ok (.iload 4, 2) := by decide +kernel
theorem dX6_draws_77 : decode cX6_draws 77 = .ok (.istore 5, 2) := by decide +kernel
theorem dX6_draws_79 : decode cX6_draws 79 = .ok (.iload 5, 2) := by decide +kernel
theorem dX6_draws_81 : decode cX6_draws 81 = .ok (.ifCond .gt 4, 3) := by decide +kernel
theorem dX6_draws_84 : decode cX6_draws 84 = .ok (.return_, 1) := by decide +kernel
theorem dX6_draws_85 : decode cX6_draws 85 = .ok (.aload_n 0, 1) := by decide +kernel
theorem dX6_draws_86 : decode cX6_draws 86 = .ok (.getfield 7, 3) := by decide +kernel
theorem dX6_draws_89 : decode cX6_draws 89 = .ok (.iconst 0, 1) := by decide +kernel
theorem dX6_draws_90 : decode cX6_draws 90 = .ok (.dup2, 1) := by decide +kernel
theorem dX6_draws_91 : decode cX6_draws 91 = .ok (.iaload, 1) := by decide +kernel
theorem dX6_draws_92 : decode cX6_draws 92 = .ok (.iload 5, 2) := by decide +kernel
theorem dX6_draws_94 : decode cX6_draws 94 = .ok (.isub, 1) := by decide +kernel
theorem dX6_draws_95 : decode cX6_draws 95 = .ok (.iastore, 1) := by decide +kernel
theorem dX6_draws_96 : decode cX6_draws 96 = .ok (.aload_n 0, 1) := by decide +kernel
theorem dX6_draws_97 : decode cX6_draws 97 = .ok (.getfield 7, 3) := by decide +kernel
theorem dX6_draws_100 : decode cX6_draws 100 = .ok (.bipush 7, 2) := by decide +kernel
theorem dX6_draws_102 : decode cX6_draws 102 = .ok (.dup2, 1) := by decide +kernel
theorem dX6_draws_103 : decode cX6_draws 103 = .ok (.iaload, 1) := by decide +kernel
theorem dX6_draws_104 : decode cX6_draws 104 = .ok (.iload 5, 2) := by decide +kernel
theorem dX6_draws_106 : decode cX6_draws 106 = .ok (.iadd, 1) := by decide +kernel
theorem dX6_draws_107 : decode cX6_draws 107 = .ok (.iastore, 1) := by decide +kernel
theorem dX6_draws_108 : decode cX6_draws 108 = .ok (.aload_n 0, 1) := by decide +kernel
theorem dX6_draws_109 : decode cX6_draws 109 = .ok (.getfield 7, 3) := by decide +kernel
theorem dX6_draws_112 : decode cX6_draws 112 = .ok (.bipush 8, 2) := by decide +kernel
theorem dX6_draws_114 : decode cX6_draws 114 = .ok (.dup2, 1) := by decide +kernel
theorem dX6_draws_115 : decode cX6_draws 115 = .ok (.iaload, 1) := by decide +kernel
theorem dX6_draws_116 : decode cX6_draws 116 = .ok (.iconst 1, 1) := by decide +kernel
theorem dX6_draws_117 : decode cX6_draws 117 = .ok (.iadd, 1) := by decide +kernel
theorem dX6_draws_118 : decode cX6_draws 118 = .ok (.iastore, 1) := by decide +kernel
theorem dX6_draws_119 : decode cX6_draws 119 = .ok (.aload_n 0, 1) := by decide +kernel
theorem dX6_draws_120 : decode cX6_draws 120 = .ok (.getfield 7, 3) := by decide +kernel
theorem dX6_draws_123 : decode cX6_draws 123 = .ok (.bipush 10, 2) := by decide +kernel
theorem dX6_draws_125 : decode cX6_draws 125 = .ok (.iaload, 1) := by decide +kernel
theorem dX6_draws_126 : decode cX6_draws 126 = .ok (.bipush (-4), 2) := by decide +kernel
theorem dX6_draws_128 : decode cX6_draws 128 = .ok (.if_icmp .eq 27, 3) := by decide +kernel
theorem dX6_draws_131 : decode cX6_draws 131 = .ok (.aload_n 0, 1) := by decide +kernel
theorem dX6_draws_132 : decode cX6_draws 132 = .ok (.getfield 7, 3) := by decide +kernel
theorem dX6_draws_135 : decode cX6_draws 135 = .ok (.bipush 14, 2) := by decide +kernel
theorem dX6_draws_137 : decode cX6_draws 137 = .ok (.bipush 7, 2) := by decide +kernel
theorem dX6_draws_139 : decode cX6_draws 139 = .ok (.aload_n 0, 1) := by decide +kernel
theorem dX6_draws_140 : decode cX6_draws 140 = .ok (.getfield 7, 3) := by decide +kernel
theorem dX6_draws_143 : decode cX6_draws 143 = .ok (.bipush 10, 2) := by decide +kernel
theorem dX6_draws_145 : decode cX6_draws 145 = .ok (.iaload, 1) := by decide +kernel
theorem dX6_draws_146 : decode cX6_draws 146 = .ok (.imul, 1) := by decide +kernel
theorem dX6_draws_147 : decode cX6_draws 147 = .ok (.iadd, 1) := by decide +kernel
theorem dX6_draws_148 : decode cX6_draws 148 = .ok (.iconst 4, 1) := by decide +kernel
theorem dX6_draws_149 : decode cX6_draws 149 = .ok (.iadd, 1) := by decide +kernel
theorem dX6_draws_150 : decode cX6_draws 150 = .ok (.dup2, 1) := by decide +kernel
theorem dX6_draws_151 : decode cX6_draws 151 = .ok (.iaload, 1) := by decide +kernel
theorem dX6_draws_152 : decode cX6_draws 152 = .ok (.iconst 1, 1) := by decide +kernel
theorem dX6_draws_153 : decode cX6_draws 153 = .ok (.iadd, 1) := by decide +kernel
theorem dX6_draws_154 : decode cX6_draws 154 = .ok (.iastore, 1) := by decide +kernel
theorem dX6_draws_155 : decode cX6_draws 155 = .ok (.iload_n 1, 1) := by decide +kernel
theorem dX6_draws_156 : decode cX6_draws 156 = .ok (.ifCond .eq 83, 3) := by decide +kernel
theorem dX6_draws_159 : decode cX6_draws 159 = .ok (.aload_n 0, 1) := by decide +kernel
theorem dX6_draws_160 : decode cX6_draws 160 = .ok (.getfield 7, 3) := by decide +kernel
theorem dX6_draws_163 : decode cX6_draws 163 = .ok (.bipush 13, 2) := by decide +kernel
theorem dX6_draws_165 : decode cX6_draws 165 = .ok (.aload_n 0, 1) := by decide +kernel
theorem dX6_draws_166 : decode cX6_draws 166 = .ok (.getfield 7, 3) := by decide +kernel
theorem dX6_draws_169 : decode cX6_draws 169 = .ok (.bipush 13, 2) := by decide +kernel
theorem dX6_draws_171 : decode cX6_draws 171 = .ok (.iaload, 1) := by decide +kernel
theorem dX6_draws_172 : decode cX6_draws 172 = .ok (.i2l, 1) := by decide +kernel
theorem dX6_draws_173 : decode cX6_draws 173 = .ok (.ldc2_w 104, 3) := by decide +kernel
theorem dX6_draws_176 : decode cX6_draws 176 = .ok (.lmul, 1) := by decide +kernel
theorem dX6_draws_177 : decode cX6_draws 177 = .ok (.ldc2_w 106, 3) := by decide +kernel
theorem dX6_draws_180 : decode cX6_draws 180 = .ok (.ladd, 1) := by decide +kernel
theorem dX6_draws_181 : decode cX6_draws 181 = .ok (.ldc2_w 108, 3) := by decide +kernel
theorem dX6_draws_184 : decode cX6_draws 184 = .ok (.land, 1) := by decide +kernel
theorem dX6_draws_185 : decode cX6_draws 185 = .ok (.l2i, 1) := by decide +kernel
theorem dX6_draws_186 : decode cX6_draws 186 = .ok (.iastore, 1) := by decide +kernel
theorem dX6_draws_187 : decode cX6_draws 187 = .ok (.aload_n 0, 1) := by decide +kernel
theorem dX6_draws_188 : decode cX6_draws 188 = .ok (.getfield 7, 3) := by decide +kernel
theorem dX6_draws_191 : decode cX6_draws 191 = .ok (.bipush 13, 2) := by decide +kernel
theorem dX6_draws_193 : decode cX6_draws 193 = .ok (.iaload, 1) := by decide +kernel
theorem dX6_draws_194 : decode cX6_draws 194 = .ok (.ldc 110, 2) := by decide +kernel
theorem dX6_draws_196 : decode cX6_draws 196 = .ok (.idiv, 1) := by decide +kernel
theorem dX6_draws_197 : decode cX6_draws 197 = .ok (.bipush 100, 2) := by decide +kernel
theorem dX6_draws_199 : decode cX6_draws 199 = .ok (.irem, 1) := by decide +kernel
theorem dX6_draws_200 : decode cX6_draws 200 = .ok (.aload_n 0, 1) := by decide +kernel
theorem dX6_draws_201 : decode cX6_draws 201 = .ok (.getfield 7, 3) := by decide +kernel
theorem dX6_draws_204 : decode cX6_draws 204 = .ok (.bipush 8, 2) := by decide +kernel
theorem dX6_draws_206 : decode cX6_draws 206 = .ok (.iaload, 1) := by decide +kernel
theorem dX6_draws_207 : decode cX6_draws 207 = .ok (.bipush 10, 2) := by decide +kernel
theorem dX6_draws_209 : decode cX6_draws 209 = .ok (.idiv, 1) := by decide +kernel
theorem dX6_draws_210 : decode cX6_draws 210 = .ok (.if_icmp .ge 29, 3) := by decide +kernel
theorem dX6_draws_213 : decode cX6_draws 213 = .ok (.aload_n 0, 1) := by decide +kernel
theorem dX6_draws_214 : decode cX6_draws 214 = .ok (.getfield 7, 3) := by decide +kernel
theorem dX6_draws_217 : decode cX6_draws 217 = .ok (.bipush 8, 2) := by decide +kernel
theorem dX6_draws_219 : decode cX6_draws 219 = .ok (.iconst 0, 1) := by decide +kernel
theorem dX6_draws_220 : decode cX6_draws 220 = .ok (.iastore, 1) := by decide +kernel
theorem dX6_draws_221 : decode cX6_draws 221 = .ok (.aload_n 0, 1) := by decide +kernel
theorem dX6_draws_222 : decode cX6_draws 222 = .ok (.getfield 7, 3) := by decide +kernel
theorem dX6_draws_225 : decode cX6_draws 225 = .ok (.bipush 9, 2) := by decide +kernel
theorem dX6_draws_227 : decode cX6_draws 227 = .ok (.iconst 4, 1) := by decide +kernel
theorem dX6_draws_228 : decode cX6_draws 228 = .ok (.iastore, 1) := by decide +kernel
theorem dX6_draws_229 : decode cX6_draws 229 = .ok (.aload_n 0, 1) := by decide +kernel
theorem dX6_draws_230 : decode cX6_draws 230 = .ok (.dup, 1) := by decide +kernel
theorem dX6_draws_231 : decode cX6_draws 231 = .ok (.getfield 111, 3) := by decide +kernel
theorem dX6_draws_234 : decode cX6_draws 234 = .ok (.iconst 1, 1) := by decide +kernel
theorem dX6_draws_235 : decode cX6_draws 235 = .ok (.iadd, 1) := by decide +kernel
theorem dX6_draws_236 : decode cX6_draws 236 = .ok (.putfield 111, 3) := by decide +kernel
theorem dX6_draws_239 : decode cX6_draws 239 = .ok (.return_, 1) := by decide +kernel
theorem dX6_drinksOf_0 : decode cX6_drinksOf 0 = .ok (.aload_n 0, 1) := by decide +kernel
theorem dX6_drinksOf_1 : decode cX6_drinksOf 1 = .ok (.iload_n 1, 1) := by decide +kernel
theorem dX6_drinksOf_2 : decode cX6_drinksOf 2 = .ok (.invokevirtual 82, 3) := by decide +kernel
theorem dX6_drinksOf_5 : decode cX6_drinksOf 5 = .ok (.istore_n 2, 1) := by decide +kernel
theorem dX6_drinksOf_6 : decode cX6_drinksOf 6 = .ok (.aload_n 0, 1) := by decide +kernel
theorem dX6_drinksOf_7 : decode cX6_drinksOf 7 = .ok (.iload_n 1, 1) := by decide +kernel
theorem dX6_drinksOf_8 : decode cX6_drinksOf 8 = .ok (.invokevirtual 63, 3) := by decide +kernel
theorem dX6_drinksOf_11 : decode cX6_drinksOf 11 = .ok (.aload_n 0, 1) := by decide +kernel
theorem dX6_drinksOf_12 : decode cX6_drinksOf 12 = .ok (.iload_n 1, 1) := by decide +kernel
theorem dX6_drinksOf_13 : decode cX6_drinksOf 13 = .ok (.iconst 3, 1) := by decide +kernel
theorem dX6_drinksOf_14 : decode cX6_drinksOf 14 = .ok (.invokevirtual 55, 3) := by decide +kernel
theorem dX6_drinksOf_17 : decode cX6_drinksOf 17 = .ok (.isub, 1) := by decide +kernel
theorem dX6_drinksOf_18 : decode cX6_drinksOf 18 = .ok (.istore_n 3, 1) := by decide +kernel
theorem dX6_drinksOf_19 : decode cX6_drinksOf 19 = .ok (.iload_n 2, 1) := by decide +kernel
theorem dX6_drinksOf_20 : decode cX6_drinksOf 20 = .ok (.iload_n 3, 1) := by decide +kernel
theorem dX6_drinksOf_21 : decode cX6_drinksOf 21 = .ok (.if_icmp .ge 7, 3) := by decide +kernel
theorem dX6_drinksOf_24 : decode cX6_drinksOf 24 = .ok (.iload_n 2, 1) := by decide +kernel
theorem dX6_drinksOf_25 : decode cX6_drinksOf 25 = .ok (.goto 4, 3) := by decide +kernel
theorem dX6_drinksOf_28 : decode cX6_drinksOf 28 = .ok (.iload_n 3, 1) := by decide +kernel
theorem dX6_drinksOf_29 : decode cX6_drinksOf 29 = .ok (.istore_n 2, 1) := by decide +kernel
theorem dX6_drinksOf_30 : decode cX6_drinksOf 30 = .ok (.iload_n 2, 1) := by decide +kernel
theorem dX6_drinksOf_31 : decode cX6_drinksOf 31 = .ok (.aload_n 0, 1) := by decide +kernel
theorem dX6_drinksOf_32 : decode cX6_drinksOf 32 = .ok (.getfield 7, 3) := by decide +kernel
theorem dX6_drinksOf_35 : decode cX6_drinksOf 35 = .ok (.bipush 7, 2) := by decide +kernel
theorem dX6_drinksOf_37 : decode cX6_drinksOf 37 = .ok (.iaload, 1) := by decide +kernel
theorem dX6_drinksOf_38 : decode cX6_drinksOf 38 = .ok (.if_icmp .ge 7, 3) := by decide +kernel
theorem dX6_drinksOf_41 : decode cX6_drinksOf 41 = .ok (.iload_n 2, 1) := by decide +kernel
theorem dX6_drinksOf_42 : decode cX6_drinksOf 42 = .ok (.goto 10, 3) := by decide +kernel
theorem dX6_drinksOf_45 : decode cX6_drinksOf 45 = .ok (.aload_n 0, 1) := by decide +kernel
theorem dX6_drinksOf_46 : decode cX6_drinksOf 46 = .ok (.getfield 7, 3) := by decide +kernel
theorem dX6_drinksOf_49 : decode cX6_drinksOf 49 = .ok (.bipush 7, 2) := by decide +kernel
theorem dX6_drinksOf_51 : decode cX6_drinksOf 51 = .ok (.iaload, 1) := by decide +kernel
theorem dX6_drinksOf_52 : decode cX6_drinksOf 52 = .ok (.ireturn, 1) := by decide +kernel
theorem dX6_goes_0 : decode cX6_goes 0 = .ok (.aload_n 0, 1) := by decide +kernel
theorem dX6_goes_1 : decode cX6_goes 1 = .ok (.getfield 7, 3) := by decide +kernel
theorem dX6_goes_4 : decode cX6_goes 4 = .ok (.iconst 0, 1) := by decide +kernel
theorem dX6_goes_5 : decode cX6_goes 5 = .ok (.dup2, 1) := by decide +kernel
theorem dX6_goes_6 : decode cX6_goes 6 = .ok (.iaload, 1) := by decide +kernel
theorem dX6_goes_7 : decode cX6_goes 7 = .ok (.bipush 60, 2) := by decide +kernel
theorem dX6_goes_9 : decode cX6_goes 9 = .ok (.aload_n 0, 1) := by decide +kernel
theorem dX6_goes_10 : decode cX6_goes 10 = .ok (.getfield 7, 3) := by decide +kernel
theorem dX6_goes_13 : decode cX6_goes 13 = .ok (.iconst 0, 1) := by decide +kernel
theorem dX6_goes_14 : decode cX6_goes 14 = .ok (.iaload, 1) := by decide +kernel
theorem dX6_goes_15 : decode cX6_goes 15 = .ok (.isub, 1) := by decide +kernel
theorem dX6_goes_16 : decode cX6_goes 16 = .ok (.aload_n 0, 1) := by decide +kernel
theorem dX6_goes_17 : decode cX6_goes 17 = .ok (.getfield 7, 3) := by decide +kernel
theorem dX6_goes_20 : decode cX6_goes 20 = .ok (.iconst 2, 1) := by decide +kernel
theorem dX6_goes_21 : decode cX6_goes 21 = .ok (.iaload, 1) := by decide +kernel
theorem dX6_goes_22 : decode cX6_goes 22 = .ok (.idiv, 1) := by decide +kernel
theorem dX6_goes_23 : decode cX6_goes 23 = .ok (.iadd, 1) := by decide +kernel
theorem dX6_goes_24 : decode cX6_goes 24 = .ok (.iastore, 1) := by decide +kernel
theorem dX6_goes_25 : decode cX6_goes 25 = .ok (.aload_n 0, 1) := by decide +kernel
theorem dX6_goes_26 : decode cX6_goes 26 = .ok (.getfield 7, 3) := by decide +kernel
theorem dX6_goes_29 : decode cX6_goes 29 = .ok (.bipush 9, 2) := by decide +kernel
theorem dX6_goes_31 : decode cX6_goes 31 = .ok (.iaload, 1) := by decide +kernel
theorem dX6_goes_32 : decode cX6_goes 32 = .ok (.ifCond .ne 23, 3) := by decide +kernel
theorem dX6_goes_35 : decode cX6_goes 35 = .ok (.aload_n 0, 1) := by decide +kernel
theorem dX6_goes_36 : decode cX6_goes 36 = .ok (.getfield 7, 3) := by decide +kernel
theorem dX6_goes_39 : decode cX6_goes 39 = .ok (.iconst 0, 1) := by decide +kernel
theorem dX6_goes_40 : decode cX6_goes 40 = .ok (.iaload, 1) := by decide +kernel
theorem dX6_goes_41 : decode cX6_goes 41 = .ok (.aload_n 0, 1) := by decide +kernel
theorem dX6_goes_42 : decode cX6_goes 42 = .ok (.getfield 7, 3) := by decide +kernel
theorem dX6_goes_45 : decode cX6_goes 45 = .ok (.iconst 5, 1) := by decide +kernel
theorem dX6_goes_46 : decode cX6_goes 46 = .ok (.iaload, 1) := by decide +kernel
theorem dX6_goes_47 : decode cX6_goes 47 = .ok (.if_icmp .lt 8, 3) := by decide +kernel
theorem dX6_goes_50 : decode cX6_goes 50 = .ok (.aload_n 0, 1) := by decide +kernel
theorem dX6_goes_51 : decode cX6_goes 51 = .ok (.iload_n 1, 1) := by decide +kernel
theorem dX6_goes_52 : decode cX6_goes 52 = .ok (.invokevirtual 114, 3) := by decide +kernel
theorem dX6_goes_55 : decode cX6_goes 55 = .ok (.aload_n 0, 1) := by decide +kernel
theorem dX6_goes_56 : decode cX6_goes 56 = .ok (.getfield 16, 3) := by decide +kernel
theorem dX6_goes_59 : decode cX6_goes 59 = .ok (.aload_n 0, 1) := by decide +kernel
theorem dX6_goes_60 : decode cX6_goes 60 = .ok (.getfield 7, 3) := by decide +kernel
theorem dX6_goes_63 : decode cX6_goes 63 = .ok (.bipush 6, 2) := by decide +kernel
theorem dX6_goes_65 : decode cX6_goes 65 = .ok (.iaload, 1) := by decide +kernel
theorem dX6_goes_66 : decode cX6_goes 66 = .ok (.if_icmp .eq 14, 3) := by decide +kernel
theorem dX6_goes_69 : decode cX6_goes 69 = .ok (.aload_n 0, 1) := by decide +kernel
theorem dX6_goes_70 : decode cX6_goes 70 = .ok (.aload_n 0, 1) := by decide +kernel
theorem dX6_goes_71 : decode cX6_goes 71 = .ok (.getfield 7, 3) := by decide +kernel
theorem dX6_goes_74 : decode cX6_goes 74 = .ok (.bipush 6, 2) := by decide +kernel
theorem dX6_goes_76 : decode cX6_goes 76 = .ok (.iaload, 1) := by decide +kernel
theorem dX6_goes_77 : decode cX6_goes 77 = .ok (.invokevirtual 100, 3) := by decide +kernel
theorem dX6_goes_80 : decode cX6_goes 80 = .ok (.aload_n 0, 1) := by decide +kernel
theorem dX6_goes_81 : decode cX6_goes 81 = .ok (.getfield 7, 3) := by decide +kernel
theorem dX6_goes_84 : decode cX6_goes 84 = .ok (.iconst 4, 1) := by decide +kernel
theorem dX6_goes_85 : decode cX6_goes 85 = .ok (.iaload, 1) := by decide +kernel
theorem dX6_goes_86 : decode cX6_goes 86 = .ok (.istore_n 3, 1) := by decide +kernel
theorem dX6_goes_87 : decode cX6_goes 87 = .ok (.iconst 0, 1) := by decide +kernel
theorem dX6_goes_88 : decode cX6_goes 88 = .ok (.istore 4, 2) := by decide +kernel
theorem dX6_goes_90 : decode cX6_goes 90 = .ok (.iconst 0, 1) := by decide +kernel
theorem dX6_goes_91 : decode cX6_goes 91 = .ok (.istore 5, 2) := by decide +kernel
theorem dX6_goes_93 : decode cX6_goes 93 = .ok (.iconst 0, 1) := by decide +kernel
theorem dX6_goes_94 : decode cX6_goes 94 = .ok (.istore 6, 2) := by decide +kernel
theorem dX6_goes_96 : decode cX6_goes 96 = .ok (.iload 6, 2) := by decide +kernel
theorem dX6_goes_98 : decode cX6_goes 98 = .ok (.aload_n 0, 1) := by decide +kernel
theorem dX6_goes_99 : decode cX6_goes 99 = .ok (.getfield 7, 3) := by decide +kernel
theorem dX6_goes_102 : decode cX6_goes 102 = .ok (.bipush 12, 2) := by decide +kernel
theorem dX6_goes_104 : decode cX6_goes 104 = .ok (.iaload, 1) := by decide +kernel
theorem dX6_goes_105 : decode cX6_goes 105 = .ok (.if_icmp .ge 169, 3) := by decide +kernel
theorem dX6_goes_108 : decode cX6_goes 108 = .ok (.aload_n 0, 1) := by decide +kernel
theorem dX6_goes_109 : decode cX6_goes 109 = .ok (.getfield 13, 3) := by decide +kernel
theorem dX6_goes_112 : decode cX6_goes 112 = .ok (.iload 6, 2) := by decide +kernel
theorem dX6_goes_114 : decode cX6_goes 114 = .ok (.iaload, 1) := by decide +kernel
theorem dX6_goes_115 : decode cX6_goes 115 = .ok (.istore 7, 2) := by decide +kernel
theorem dX6_goes_117 : decode cX6_goes 117 = .ok (.iconst 0, 1) := by decide +kernel
theorem dX6_goes_118 : decode cX6_goes 118 = .ok (.istore 8, 2) := by decide +kernel
theorem dX6_goes_120 : decode cX6_goes 120 = .ok (.iload_n 3, 1) := by decide +kernel
theorem dX6_goes_121 : decode cX6_goes 121 = .ok (.ifCond .le 95, 3) := by decide +kernel
theorem dX6_goes_124 : decode cX6_goes 124 = .ok (.aload_n 0, 1) := by decide +kernel
theorem dX6_goes_125 : decode cX6_goes 125 = .ok (.iload 7, 2) := by decide +kernel
theorem dX6_goes_127 : decode cX6_goes 127 = .ok (.invokevirtual 67, 3) := by decide +kernel
theorem dX6_goes_130 : decode cX6_goes 130 = .ok (.ifCond .ne 86, 3) := by decide +kernel
theorem dX6_goes_133 : decode cX6_goes 133 = .ok (.aload_n 0, 1) := by decide +kernel
theorem dX6_goes_134 : decode cX6_goes 134 = .ok (.iload 7, 2) := by decide +kernel
theorem dX6_goes_136 : decode cX6_goes 136 = .ok (.bipush 6, 2) := by decide +kernel
theorem dX6_goes_138 : decode cX6_goes 138 = .ok (.invokevirtual 55, 3) := by decide +kernel
theorem dX6_goes_141 : decode cX6_goes 141 = .ok (.ifCond .ne 75, 3) := by decide +kernel
theorem dX6_goes_144 : decode cX6_goes 144 = .ok (.iload 7, 2) := by decide +kernel
theorem dX6_goes_146 : decode cX6_goes 146 = .ok (.aload_n 0, 1) := by decide +kernel
theorem dX6_goes_147 : decode cX6_goes 147 = .ok (.getfield 7, 3) := by decide +kernel
theorem dX6_goes_150 : decode cX6_goes 150 = .ok (.bipush 10, 2) := by decide +kernel
theorem dX6_goes_152 : decode cX6_goes 152 = .ok (.iaload, 1) := by decide +kernel
theorem dX6_goes_153 : decode cX6_goes 153 = .ok (.if_icmp .eq 63, 3) := by decide +kernel
theorem dX6_goes_156 : decode cX6_goes 156 = .ok (.iload_n 2, 1) := by decide +kernel
theorem dX6_goes_157 : decode cX6_goes 157 = .ok (.iload 7, 2) := by decide +kernel
theorem dX6_goes_159 : decode cX6_goes 159 = .ok (.ishr, 1) := by decide +kernel
theorem dX6_goes_160 : decode cX6_goes 160 = .ok (.iconst 1, 1) := by decide +kernel
theorem dX6_goes_161 : decode cX6_goes 161 = .ok (.iand, 1) := by decide +kernel
theorem dX6_goes_162 : decode cX6_goes 162 = .ok (.iconst 1, 1) := by decide +kernel
theorem dX6_goes_163 : decode cX6_goes 163 = .ok (.if_icmp .ne 53, 3) := by decide +kernel
theorem dX6_goes_166 : decode cX6_goes 166 = .ok (.iinc 3 (-1), 3) := by decide +kernel
theorem dX6_goes_169 : decode cX6_goes 169 = .ok (.aload_n 0, 1) := by decide +kernel
theorem dX6_goes_170 : decode cX6_goes 170 = .ok (.iload 7, 2) := by decide +kernel
theorem dX6_goes_172 : decode cX6_goes 172 = .ok (.invokevirtual 118, 3) := by decide +kernel
theorem dX6_goes_175 : decode cX6_goes 175 = .ok (.istore 8, 2) := by decide +kernel
theorem dX6_goes_177 : decode cX6_goes 177 = .ok (.aload_n 0, 1) := by decide +kernel
theorem dX6_goes_178 : decode cX6_goes 178 = .ok (.getfield 7, 3) := by decide +kernel
theorem dX6_goes_181 : decode cX6_goes 181 = .ok (.bipush 7, 2) := by decide +kernel
theorem dX6_goes_183 : decode cX6_goes 183 = .ok (.dup2, 1) := by decide +kernel
theorem dX6_goes_184 : decode cX6_goes 184 = .ok (.iaload, 1) := by decide +kernel
theorem dX6_goes_185 : decode cX6_goes 185 = .ok (.iload 8, 2) := by decide +kernel
theorem dX6_goes_187 : decode cX6_goes 187 = .ok (.isub, 1) := by decide +kernel
theorem dX6_goes_188 : decode cX6_goes 188 = .ok (.iastore, 1) := by decide +kernel
theorem dX6_goes_189 : decode cX6_goes 189 = .ok (.aload_n 0, 1) := by decide +kernel
theorem dX6_goes_190 : decode cX6_goes 190 = .ok (.getfield 7, 3) := by decide +kernel
theorem dX6_goes_193 : decode cX6_goes 193 = .ok (.bipush 14, 2) := by decide +kernel
theorem dX6_goes_195 : decode cX6_goes 195 = .ok (.bipush 7, 2) := by decide +kernel
theorem dX6_goes_197 : decode cX6_goes 197 = .ok (.iload 7, 2) := by decide +kernel
theorem dX6_goes_199 : decode cX6_goes 199 = .ok (.imul, 1) := by decide +kernel
theorem dX6_goes_200 : decode cX6_goes 200 = .ok (.iadd, 1) := by decide +kernel
theorem dX6_goes_201 : decode cX6_goes 201 = .ok (.iconst 3, 1) := by decide +kernel
theorem dX6_goes_202 : decode cX6_goes 202 = .ok (.iadd, 1) := by decide +kernel
theorem dX6_goes_203 : decode cX6_goes 203 = .ok (.dup2, 1) := by decide +kernel
theorem dX6_goes_204 : decode cX6_goes 204 = .ok (.iaload, 1) := by decide +kernel
theorem dX6_goes_205 : decode cX6_goes 205 = .ok (.iload 8, 2) := by decide +kernel
theorem dX6_goes_207 : decode cX6_goes 207 = .ok (.iadd, 1) := by decide +kernel
theorem dX6_goes_208 : decode cX6_goes 208 = .ok (.iastore, 1) := by decide +kernel
theorem dX6_goes_209 : decode cX6_goes 209 = .ok (.iload 4, 2) := by decide +kernel
theorem dX6_goes_211 : decode cX6_goes 211 = .ok (.iload 8, 2) := by decide +kernel
theorem dX6_goes_213 : decode cX6_goes 213 = .ok (.iadd, 1) := by decide +kernel
theorem dX6_goes_214 : decode cX6_goes 214 = .ok (.istore 4, 2) := by decide +kernel
theorem dX6_goes_216 : decode cX6_goes 216 = .ok (.iload 5, 2) := by decide +kernel
theorem dX6_goes_218 : decode cX6_goes 218 = .ok (.iload 8, 2) := by decide +kernel
theorem dX6_goes_220 : decode cX6_goes 220 = .ok (.ifCond .le 10, 3) := by decide +kernel
theorem dX6_goes_223 : decode cX6_goes 223 = .ok (.iconst 1, 1) := by decide +kernel
theorem dX6_goes_224 : decode cX6_goes 224 = .ok (.iload 7, 2) := by decide +kernel
theorem dX6_goes_226 : decode cX6_goes 226 = .ok (.ishl, 1) := by decide +kernel
theorem dX6_goes_227 : decode cX6_goes 227 = .ok (.goto 4, 3) := by decide +kernel
theorem dX6_goes_230 : decode cX6_goes 230 = .ok (.iconst 0, 1) := by decide +kernel
theorem dX6_goes_231 : decode cX6_goes 231 = .ok (.ior, 1) := by decide +kernel
theorem dX6_goes_232 : decode cX6_goes 232 = .ok (.istore 5, 2) := by decide +kernel
theorem dX6_goes_234 : decode cX6_goes 234 = .ok (.aload_n 0, 1) := by decide +kernel
theorem dX6_goes_235 : decode cX6_goes 235 = .ok (.getfield 7, 3) := by decide +kernel
theorem dX6_goes_238 : decode cX6_goes 238 = .ok (.bipush 14, 2) := by decide +kernel
theorem dX6_goes_240 : decode cX6_goes 240 = .ok (.bipush 7, 2) := by decide +kernel
theorem dX6_goes_242 : decode cX6_goes 242 = .ok (.iload 7, 2) := by decide +kernel
theorem dX6_goes_244 : decode cX6_goes 244 = .ok (.imul, 1) := by decide +kernel
theorem dX6_goes_245 : decode cX6_goes 245 = .ok (.iadd, 1) := by decide +kernel
theorem dX6_goes_246 : decode cX6_goes 246 = .ok (.iconst 5, 1) := by decide +kernel
theorem dX6_goes_247 : decode cX6_goes 247 = .ok (.iadd, 1) := by decide +kernel
theorem dX6_goes_248 : decode cX6_goes 248 = .ok (.iload 8, 2) := by decide +kernel
theorem dX6_goes_250 : decode cX6_goes 250 = .ok (.ifCond .le 16, 3) := by decide +kernel
theorem dX6_goes_253 : decode cX6_goes 253 = .ok (.aload_n 0, 1) := by decide +kernel
theorem dX6_goes_254 : decode cX6_goes 254 = .ok (.iload 7, 2) := by decide +kernel
theorem dX6_goes_256 : decode cX6_goes 256 = .ok (.iconst 5, 1) := by decide +kernel
theorem dX6_goes_257 : decode cX6_goes 257 = .ok (.invokevirtual 55, 3) := by decide +kernel
theorem dX6_goes_260 : decode cX6_goes 260 = .ok (.iload 8, 2) := by decide +kernel
theorem dX6_goes_262 : decode cX6_goes 262 = .ok (.iadd, 1) := by decide +kernel
theorem dX6_goes_263 : decode cX6_goes 263 = .ok (.goto 4, 3) := by decide +kernel
theorem dX6_goes_266 : decode cX6_goes 266 = .ok (.iconst 0, 1) := by decide +kernel
theorem dX6_goes_267 : decode cX6_goes 267 = .ok (.iastore, 1) := by decide +kernel
theorem dX6_goes_268 : decode cX6_goes 268 = .ok (.iinc 6 1, 3) := by decide +kernel
theorem dX6_goes_271 : decode cX6_goes 271 = .ok (.goto (-175), 3) := by decide +kernel
theorem dX6_goes_274 : decode cX6_goes 274 = .ok (.iconst 0, 1) := by decide +kernel
theorem dX6_goes_275 : decode cX6_goes 275 = .ok (.istore 6, 2) := by decide +kernel
theorem dX6_goes_277 : decode cX6_goes 277 = .ok (.iload 6, 2) := by decide +kernel
theorem dX6_goes_279 : decode cX6_goes 279 = .ok (.aload_n 0, 1) := by decide +kernel
theorem dX6_goes_280 : decode cX6_goes 280 = .ok (.getfield 7, 3) := by decide +kernel
theorem dX6_goes_283 : decode cX6_goes 283 = .ok (.bipush 12, 2) := by decide +kernel
theorem dX6_goes_285 : decode cX6_goes 285 = .ok (.iaload, 1) := by decide +kernel
theorem dX6_goes_286 : decode cX6_goes 286 = .ok (.if_icmp .ge 96, 3) := by decide +kernel
theorem dX6_goes_289 : decode cX6_goes 289 = .ok (.bipush 14, 2) := by decide +kernel
theorem dX6_goes_291 : decode cX6_goes 291 = .ok (.bipush 7, 2) := by decide +kernel
theorem dX6_goes_293 : decode cX6_goes 293 = .ok (.iload 6, 2) := by decide +kernel
theorem dX6_goes_295 : decode cX6_goes 295 = .ok (.imul, 1) := by decide +kernel
theorem dX6_goes_296 : decode cX6_goes 296 = .ok (.iadd, 1) := by decide +kernel
theorem dX6_goes_297 : decode cX6_goes 297 = .ok (.istore 7, 2) := by decide +kernel
theorem dX6_goes_299 : decode cX6_goes 299 = .ok (.aload_n 0, 1) := by decide +kernel
theorem dX6_goes_300 : decode cX6_goes 300 = .ok (.getfield 7, 3) := by decide +kernel
theorem dX6_goes_303 : decode cX6_goes 303 = .ok (.iload 7, 2) := by decide +kernel
theorem dX6_goes_305 : decode cX6_goes 305 = .ok (.bipush 6, 2) := by decide +kernel
theorem dX6_goes_307 : decode cX6_goes 307 = .ok (.iadd, 1) := by decide +kernel
theorem dX6_goes_308 : decode cX6_goes 308 = .ok (.dup2, 1) := by decide +kernel
theorem dX6_goes_309 : decode cX6_goes 309 = .ok (.iaload, 1) := by decide +kernel
theorem dX6_goes_310 : decode cX6_goes 310 = .ok (.aload_n 0, 1) := by decide +kernel
theorem dX6_goes_311 : decode cX6_goes 311 = .ok (.getfield 7, 3) := by decide +kernel
theorem dX6_goes_314 : decode cX6_goes 314 = .ok (.iload 7, 2) := by decide +kernel
theorem dX6_goes_316 : decode cX6_goes 316 = .ok (.bipush 6, 2) := by decide +kernel
theorem dX6_goes_318 : decode cX6_goes 318 = .ok (.iadd, 1) := by decide +kernel
theorem dX6_goes_319 : decode cX6_goes 319 = .ok (.iaload, 1) := by decide +kernel
theorem dX6_goes_320 : decode cX6_goes 320 = .ok (.ifCond .le 7, 3) := by decide +kernel
theorem dX6_goes_323 : decode cX6_goes 323 = .ok (.iconst 1, 1) := by decide +kernel
theorem dX6_goes_324 : decode cX6_goes 324 = .ok (.goto 4, 3) := by decide +kernel
theorem dX6_goes_327 : decode cX6_goes 327 = .ok (.iconst 0, 1) := by decide +kernel
theorem dX6_goes_328 : decode cX6_goes 328 = .ok (.isub, 1) := by decide +kernel
theorem dX6_goes_329 : decode cX6_goes 329 = .ok (.iastore, 1) := by decide +kernel
theorem dX6_goes_330 : decode cX6_goes 330 = .ok (.aload_n 0, 1) := by decide +kernel
theorem dX6_goes_331 : decode cX6_goes 331 = .ok (.getfield 7, 3) := by decide +kernel
theorem dX6_goes_334 : decode cX6_goes 334 = .ok (.iload 7, 2) := by decide +kernel
theorem dX6_goes_336 : decode cX6_goes 336 = .ok (.iaload, 1) := by decide +kernel
theorem dX6_goes_337 : decode cX6_goes 337 = .ok (.iconst 3, 1) := by decide +kernel
theorem dX6_goes_338 : decode cX6_goes 338 = .ok (.if_icmp .ne 38, 3) := by decide +kernel
theorem dX6_goes_341 : decode cX6_goes 341 = .ok (.aload_n 0, 1) := by decide +kernel
theorem dX6_goes_342 : decode cX6_goes 342 = .ok (.getfield 7, 3) := by decide +kernel
theorem dX6_goes_345 : decode cX6_goes 345 = .ok (.iload 7, 2) := by decide +kernel
theorem dX6_goes_347 : decode cX6_goes 347 = .ok (.iconst 5, 1) := by decide +kernel
theorem dX6_goes_348 : decode cX6_goes 348 = .ok (.iadd, 1) := by decide +kernel
theorem dX6_goes_349 : decode cX6_goes 349 = .ok (.iaload, 1) := by decide +kernel
theorem dX6_goes_350 : decode cX6_goes 350 = .ok (.bipush 12, 2) := by decide +kernel
theorem dX6_goes_352 : decode cX6_goes 352 = .ok (.if_icmp .lt 24, 3) := by decide +kernel
theorem dX6_goes_355 : decode cX6_goes 355 = .ok (.aload_n 0, 1) := by decide +kernel
theorem dX6_goes_356 : decode cX6_goes 356 = .ok (.getfield 7, 3) := by decide +kernel
theorem dX6_goes_359 : decode cX6_goes 359 = .ok (.iload 7, 2) := by decide +kernel
theorem dX6_goes_361 : decode cX6_goes 361 = .ok (.iconst 5, 1) := by decide +kernel
theorem dX6_goes_362 : decode cX6_goes 362 = .ok (.iadd, 1) := by decide +kernel
theorem dX6_goes_363 : decode cX6_goes 363 = .ok (.iconst 0, 1) := by decide +kernel
theorem dX6_goes_364 : decode cX6_goes 364 = .ok (.iastore, 1) := by decide +kernel
theorem dX6_goes_365 : decode cX6_goes 365 = .ok (.aload_n 0, 1) := by decide +kernel
theorem dX6_goes_366 : decode cX6_goes 366 = .ok (.getfield 7, 3) := by decide +kernel
theorem dX6_goes_369 : decode cX6_goes 369 = .ok (.iload 7, 2) := by decide +kernel
theorem dX6_goes_371 : decode cX6_goes 371 = .ok (.bipush 6, 2) := by decide +kernel
theorem dX6_goes_373 : decode cX6_goes 373 = .ok (.iadd, 1) := by decide +kernel
theorem dX6_goes_374 : decode cX6_goes 374 = .ok (.iconst 5, 1) := by decide +kernel
theorem dX6_goes_375 : decode cX6_goes 375 = .ok (.iastore, 1) := by decide +kernel
theorem dX6_goes_376 : decode cX6_goes 376 = .ok (.iinc 6 1, 3) := by decide +kernel
theorem dX6_goes_379 : decode cX6_goes 379 = .ok (.goto (-102), 3) := by decide +kernel
theorem dX6_goes_382 : decode cX6_goes 382 = .ok (.aload_n 0, 1) := by decide +kernel
theorem dX6_goes_383 : decode cX6_goes 383 = .ok (.getfield 7, 3) := by decide +kernel
theorem dX6_goes_386 : decode cX6_goes 386 = .ok (.bipush 9, 2) := by decide +kernel
theorem dX6_goes_388 : decode cX6_goes 388 = .ok (.dup2, 1) := by decide +kernel
theorem dX6_goes_389 : decode cX6_goes 389 = .ok (.iaload, 1) := by decide +kernel
theorem dX6_goes_390 : decode cX6_goes 390 = .ok (.aload_n 0, 1) := by decide +kernel
theorem dX6_goes_391 : decode cX6_goes 391 = .ok (.getfield 7, 3) := by decide +kernel
theorem dX6_goes_394 : decode cX6_goes 394 = .ok (.bipush 9, 2) := by decide +kernel
theorem dX6_goes_396 : decode cX6_goes 396 = .ok (.iaload, 1) := by decide +kernel
theorem dX6_goes_397 : decode cX6_goes 397 = .ok (.ifCond .le 7, 3) := by decide +kernel
theorem dX6_goes_400 : decode cX6_goes 400 = .ok (.iconst 1, 1) := by decide +kernel
theorem dX6_goes_401 : decode cX6_goes 401 = .ok (.goto 4, 3) := by decide +kernel
theorem dX6_goes_404 : decode cX6_goes 404 = .ok (.iconst 0, 1) := by decide +kernel
theorem dX6_goes_405 : decode cX6_goes 405 = .ok (.isub, 1) := by decide +kernel
theorem dX6_goes_406 : decode cX6_goes 406 = .ok (.iastore, 1) := by decide +kernel
theorem dX6_goes_407 : decode cX6_goes 407 = .ok (.aload_n 0, 1) := by decide +kernel
theorem dX6_goes_408 : decode cX6_goes 408 = .ok (.getfield 7, 3) := by decide +kernel
theorem dX6_goes_411 : decode cX6_goes 411 = .ok (.bipush 11, 2) := by decide +kernel
theorem dX6_goes_413 : decode cX6_goes 413 = .ok (.dup2, 1) := by decide +kernel
theorem dX6_goes_414 : decode cX6_goes 414 = .ok (.iaload, 1) := by decide +kernel
theorem dX6_goes_415 : decode cX6_goes 415 = .ok (.iconst 1, 1) := by decide +kernel
theorem dX6_goes_416 : decode cX6_goes 416 = .ok (.iadd, 1) := by decide +kernel
theorem dX6_goes_417 : decode cX6_goes 417 = .ok (.iastore, 1) := by decide +kernel
theorem dX6_goes_418 : decode cX6_goes 418 = .ok (.iload 4, 2) := by decide +kernel
theorem dX6_goes_420 : decode cX6_goes 420 = .ok (.ireturn, 1) := by decide +kernel
theorem dX6_notes_0 : decode cX6_notes 0 = .ok (.aload_n 0, 1) := by decide +kernel
theorem dX6_notes_1 : decode cX6_notes 1 = .ok (.getfield 74, 3) := by decide +kernel
theorem dX6_notes_4 : decode cX6_notes 4 = .ok (.bipush 8, 2) := by decide +kernel
theorem dX6_notes_6 : decode cX6_notes 6 = .ok (.if_icmp .ne 40, 3) := by decide +kernel
theorem dX6_notes_9 : decode cX6_notes 9 = .ok (.bipush 63, 2) := by decide +kernel
theorem dX6_notes_11 : decode cX6_notes 11 = .ok (.istore_n 1, 1) := by decide +kernel
theorem dX6_notes_12 : decode cX6_notes 12 = .ok (.iload_n 1, 1) := by decide +kernel
theorem dX6_notes_13 : decode cX6_notes 13 = .ok (.sipush 504, 3) := by decide +kernel
theorem dX6_notes_16 : decode cX6_notes 16 = .ok (.if_icmp .ge 24, 3) := by decide +kernel
theorem dX6_notes_19 : decode cX6_notes 19 = .ok (.aload_n 0, 1) := by decide +kernel
theorem dX6_notes_20 : decode cX6_notes 20 = .ok (.getfield 20, 3) := by decide +kernel
theorem dX6_notes_23 : decode cX6_notes 23 = .ok (.iload_n 1, 1) := by decide +kernel
theorem dX6_notes_24 : decode cX6_notes 24 = .ok (.bipush 63, 2) := by decide +kernel
theorem dX6_notes_26 : decode cX6_notes 26 = .ok (.isub, 1) := by decide +kernel
theorem dX6_notes_27 : decode cX6_notes 27 = .ok (.aload_n 0, 1) := by decide +kernel
theorem dX6_notes_28 : decode cX6_notes 28 = .ok (.getfield 20, 3) := by decide +kernel
theorem dX6_notes_31 : decode cX6_notes 31 = .ok (.iload_n 1, 1) := by decide +kernel
theorem dX6_notes_32 : decode cX6_notes 32 = .ok (.iaload, 1) := by decide +kernel
theorem dX6_notes_33 : decode cX6_notes 33 = .ok (.iastore, 1) := by decide +kernel
theorem dX6_notes_34 : decode cX6_notes 34 = .ok (.iinc 1 1, 3) := by decide +kernel
theorem dX6_notes_37 : decode cX6_notes 37 = .ok (.goto (-25), 3) := by decide +kernel
theorem dX6_notes_40 : decode cX6_notes 40 = .ok (.aload_n 0, 1) := by decide +kernel
theorem dX6_notes_41 : decode cX6_notes 41 = .ok (.bipush 7, 2) := by decide +kernel
theorem dX6_notes_43 : decode cX6_notes 43 = .ok (.putfield 74, 3) := by decide +kernel
theorem dX6_notes_46 : decode cX6_notes 46 = .ok (.iconst 0, 1) := by decide +kernel
theorem dX6_notes_47 : decode cX6_notes 47 = .ok (.istore_n 1, 1) := by decide +kernel
theorem dX6_notes_48 : decode cX6_notes 48 = .ok (.iload_n 1, 1) := by decide +kernel
theorem dX6_notes_49 : decode cX6_notes 49 = .ok (.bipush 63, 2) := by decide +kernel
theorem dX6_notes_51 : decode cX6_notes 51 = .ok (.if_icmp .ge 29, 3) := by decide +kernel
theorem dX6_notes_54 : decode cX6_notes 54 = .ok (.aload_n 0, 1) := by decide +kernel
theorem dX6_notes_55 : decode cX6_notes 55 = .ok (.getfield 20, 3) := by decide +kernel
theorem dX6_notes_58 : decode cX6_notes 58 = .ok (.bipush 63, 2) := by decide +kernel
theorem dX6_notes_60 : decode cX6_notes 60 = .ok (.aload_n 0, 1) := by decide +kernel
theorem dX6_notes_61 : decode cX6_notes 61 = .ok (.getfield 74, 3) := by decide +kernel
theorem dX6_notes_64 : decode cX6_notes 64 = .ok (.imul, 1) := by decide +kernel
theorem dX6_notes_65 : decode cX6_notes 65 = .ok (.iload_n 1, 1) := by decide +kernel
theorem dX6_notes_66 : decode cX6_notes 66 = .ok (.iadd, 1) := by decide +kernel
theorem dX6_notes_67 : decode cX6_notes 67 = .ok (.aload_n 0, 1) := by decide +kernel
theorem dX6_notes_68 : decode cX6_notes 68 = .ok (.getfield 7, 3) := by decide +kernel
theorem dX6_notes_71 : decode cX6_notes 71 = .ok (.iload_n 1, 1) := by decide +kernel
theorem dX6_notes_72 : decode cX6_notes 72 = .ok (.iaload, 1) := by decide +kernel
theorem dX6_notes_73 : decode cX6_notes 73 = .ok (.iastore, 1) := by decide +kernel
theorem dX6_notes_74 : decode cX6_notes 74 = .ok (.iinc 1 1, 3) := by decide +kernel
theorem dX6_notes_77 : decode cX6_notes 77 = .ok (.goto (-29), 3) := by decide +kernel
theorem dX6_notes_80 : decode cX6_notes 80 = .ok (.aload_n 0, 1) := by decide +kernel
theorem dX6_notes_81 : decode cX6_notes 81 = .ok (.dup, 1) := by decide +kernel
theorem dX6_notes_82 : decode cX6_notes 82 = .ok (.getfield 74, 3) := by decide +kernel
theorem dX6_notes_85 : decode cX6_notes 85 = .ok (.iconst 1, 1) := by decide +kernel
theorem dX6_notes_86 : decode cX6_notes 86 = .ok (.iadd, 1) := by decide +kernel
theorem dX6_notes_87 : decode cX6_notes 87 = .ok (.putfield 74, 3) := by decide +kernel
theorem dX6_notes_90 : decode cX6_notes 90 = .ok (.return_, 1) := by decide +kernel
theorem dX6_gone_0 : decode cX6_gone 0 = .ok (.iconst 0, 1) := by decide +kernel
theorem dX6_gone_1 : decode cX6_gone 1 = .ok (.istore_n 3, 1) := by decide +kernel
theorem dX6_gone_2 : decode cX6_gone 2 = .ok (.iconst 0, 1) := by decide +kernel
theorem dX6_gone_3 : decode cX6_gone 3 = .ok (.istore 4, 2) := by decide +kernel
theorem dX6_gone_5 : decode cX6_gone 5 = .ok (.iload 4, 2) := by decide +kernel
theorem dX6_gone_7 : decode cX6_gone 7 = .ok (.iload_n 1, 1) := by decide +kernel
theorem dX6_gone_8 : decode cX6_gone 8 = .ok (.if_icmp .ge 23, 3) := by decide +kernel
theorem dX6_gone_11 : decode cX6_gone 11 = .ok (.aload_n 0, 1) := by decide +kernel
theorem dX6_gone_12 : decode cX6_gone 12 = .ok (.invokevirtual 121, 3) := by decide +kernel
theorem dX6_gone_15 : decode cX6_gone 15 = .ok (.iload_n 3, 1) := by decide +kernel
theorem dX6_gone_16 : decode cX6_gone 16 = .ok (.aload_n 0, 1) := by decide +kernel
theorem dX6_gone_17 : decode cX6_gone 17 = .ok (.iload_n 2, 1) := by decide +kernel
theorem dX6_gone_18 : decode cX6_gone 18 = .ok (.bipush 127, 2) := by decide +kernel
theorem dX6_gone_20 : decode cX6_gone 20 = .ok (.invokevirtual 124, 3) := by decide +kernel
theorem dX6_gone_23 : decode cX6_gone 23 = .ok (.iadd, 1) := by decide +kernel
theorem dX6_gone_24 : decode cX6_gone 24 = .ok (.istore_n 3, 1) := by decide +kernel
theorem dX6_gone_25 : decode cX6_gone 25 = .ok (.iinc 4 1, 3) := by decide +kernel
theorem dX6_gone_28 : decode cX6_gone 28 = .ok (.goto (-23), 3) := by decide +kernel
theorem dX6_gone_31 : decode cX6_gone 31 = .ok (.iload_n 3, 1) := by decide +kernel
theorem dX6_gone_32 : decode cX6_gone 32 = .ok (.ireturn, 1) := by decide +kernel
theorem dX6_minutes_0 : decode cX6_minutes 0 = .ok (.iload_n 1, 1) := by decide +kernel
theorem dX6_minutes_1 : decode cX6_minutes 1 = .ok (.i2l, 1) := by decide +kernel
theorem dX6_minutes_2 : decode cX6_minutes 2 = .ok (.lconst 1, 1) := by decide +kernel
theorem dX6_minutes_3 : decode cX6_minutes 3 = .ok (.ldc2_w 128, 3) := by decide +kernel
theorem dX6_minutes_6 : decode cX6_minutes 6 = .ok (.invokestatic 51, 3) := by decide +kernel
theorem dX6_minutes_9 : decode cX6_minutes 9 = .ok (.ifCond .ne 5, 3) := by decide +kernel
theorem dX6_minutes_12 : decode cX6_minutes 12 = .ok (.iconst (-1), 1) := by decide +kernel
theorem dX6_minutes_13 : decode cX6_minutes 13 = .ok (.ireturn, 1) := by decide +kernel
theorem dX6_minutes_14 : decode cX6_minutes 14 = .ok (.aload_n 0, 1) := by decide +kernel
theorem dX6_minutes_15 : decode cX6_minutes 15 = .ok (.getfield 7, 3) := by decide +kernel
theorem dX6_minutes_18 : decode cX6_minutes 18 = .ok (.bipush 11, 2) := by decide +kernel
theorem dX6_minutes_20 : decode cX6_minutes 20 = .ok (.iaload, 1) := by decide +kernel
theorem dX6_minutes_21 : decode cX6_minutes 21 = .ok (.iload_n 1, 1) := by decide +kernel
theorem dX6_minutes_22 : decode cX6_minutes 22 = .ok (.iadd, 1) := by decide +kernel
theorem dX6_minutes_23 : decode cX6_minutes 23 = .ok (.sipush 9999, 3) := by decide +kernel
theorem dX6_minutes_26 : decode cX6_minutes 26 = .ok (.if_icmp .le 8, 3) := by decide +kernel
theorem dX6_minutes_29 : decode cX6_minutes 29 = .ok (.bipush (-3), 2) := by decide +kernel
theorem dX6_minutes_31 : decode cX6_minutes 31 = .ok (.goto 9, 3) := by decide +kernel
theorem dX6_minutes_34 : decode cX6_minutes 34 = .ok (.aload_n 0, 1) := by decide +kernel
theorem dX6_minutes_35 : decode cX6_minutes 35 = .ok (.iload_n 1, 1) := by decide +kernel
theorem dX6_minutes_36 : decode cX6_minutes 36 = .ok (.iconst 0, 1) := by decide +kernel
theorem dX6_minutes_37 : decode cX6_minutes 37 = .ok (.invokevirtual 130, 3) := by decide +kernel
theorem dX6_minutes_40 : decode cX6_minutes 40 = .ok (.ireturn, 1) := by decide +kernel
theorem dX6_drift_0 : decode cX6_drift 0 = .ok (.iload_n 1, 1) := by decide +kernel
theorem dX6_drift_1 : decode cX6_drift 1 = .ok (.i2l, 1) := by decide +kernel
theorem dX6_drift_2 : decode cX6_drift 2 = .ok (.lconst 1, 1) := by decide +kernel
theorem dX6_drift_3 : decode cX6_drift 3 = .ok (.ldc2_w 128, 3) := by decide +kernel
theorem dX6_drift_6 : decode cX6_drift 6 = .ok (.invokestatic 51, 3) := by decide +kernel
theorem dX6_drift_9 : decode cX6_drift 9 = .ok (.ifCond .ne 5, 3) := by decide +kernel
theorem dX6_drift_12 : decode cX6_drift 12 = .ok (.iconst (-1), 1) := by decide +kernel
theorem dX6_drift_13 : decode cX6_drift 13 = .ok (.ireturn, 1) := by decide +kernel
theorem dX6_drift_14 : decode cX6_drift 14 = .ok (.aload_n 0, 1) := by decide +kernel
theorem dX6_drift_15 : decode cX6_drift 15 = .ok (.getfield 7, 3) := by decide +kernel
theorem dX6_drift_18 : decode cX6_drift 18 = .ok (.bipush 11, 2) := by decide +kernel
theorem dX6_drift_20 : decode cX6_drift 20 = .ok (.iaload, 1) := by decide +kernel
theorem dX6_drift_21 : decode cX6_drift 21 = .ok (.iload_n 1, 1) := by decide +kernel
theorem dX6_drift_22 : decode cX6_drift 22 = .ok (.iadd, 1) := by decide +kernel
theorem dX6_drift_23 : decode cX6_drift 23 = .ok (.sipush 9999, 3) := by decide +kernel
theorem dX6_drift_26 : decode cX6_drift 26 = .ok (.if_icmp .le 6, 3) := by decide +kernel
theorem dX6_drift_29 : decode cX6_drift 29 = .ok (.bipush (-3), 2) := by decide +kernel
theorem dX6_drift_31 : decode cX6_drift 31 = .ok (.ireturn, 1) := by decide +kernel
theorem dX6_drift_32 : decode cX6_drift 32 = .ok (.aload_n 0, 1) := by decide +kernel
theorem dX6_drift_33 : decode cX6_drift 33 = .ok (.iconst 0, 1) := by decide +kernel
theorem dX6_drift_34 : decode cX6_drift 34 = .ok (.putfield 111, 3) := by decide +kernel
theorem dX6_drift_37 : decode cX6_drift 37 = .ok (.aload_n 0, 1) := by decide +kernel
theorem dX6_drift_38 : decode cX6_drift 38 = .ok (.iload_n 1, 1) := by decide +kernel
theorem dX6_drift_39 : decode cX6_drift 39 = .ok (.iconst 1, 1) := by decide +kernel
theorem dX6_drift_40 : decode cX6_drift 40 = .ok (.invokevirtual 130, 3) := by decide +kernel
theorem dX6_drift_43 : decode cX6_drift 43 = .ok (.pop, 1) := by decide +kernel
theorem dX6_drift_44 : decode cX6_drift 44 = .ok (.aload_n 0, 1) := by decide +kernel
theorem dX6_drift_45 : decode cX6_drift 45 = .ok (.getfield 111, 3) := by decide +kernel
theorem dX6_drift_48 : decode cX6_drift 48 = .ok (.ireturn, 1) := by decide +kernel
theorem dX6_undo_0 : decode cX6_undo 0 = .ok (.aload_n 0, 1) := by decide +kernel
theorem dX6_undo_1 : decode cX6_undo 1 = .ok (.getfield 74, 3) := by decide +kernel
theorem dX6_undo_4 : decode cX6_undo 4 = .ok (.ifCond .ne 6, 3) := by decide +kernel
theorem dX6_undo_7 : decode cX6_undo 7 = .ok (.bipush (-4), 2) := by decide +kernel
theorem dX6_undo_9 : decode cX6_undo 9 = .ok (.ireturn, 1) := by decide +kernel
theorem dX6_undo_10 : decode cX6_undo 10 = .ok (.aload_n 0, 1) := by decide +kernel
theorem dX6_undo_11 : decode cX6_undo 11 = .ok (.dup, 1) := by decide +kernel
theorem dX6_undo_12 : decode cX6_undo 12 = .ok (.getfield 74, 3) := by decide +kernel
theorem dX6_undo_15 : decode cX6_undo 15 = .ok (.iconst 1, 1) := by decide +kernel
theorem dX6_undo_16 : decode cX6_undo 16 = .ok (.isub, 1) := by decide +kernel
theorem dX6_undo_17 : decode cX6_undo 17 = .ok (.putfield 74, 3) := by decide +kernel
theorem dX6_undo_20 : decode cX6_undo 20 = .ok (.bipush 63, 2) := by decide +kernel
theorem dX6_undo_22 : decode cX6_undo 22 = .ok (.aload_n 0, 1) := by decide +kernel
theorem dX6_undo_23 : decode cX6_undo 23 = .ok (.getfield 74, 3) := by decide +kernel
theorem dX6_undo_26 : decode cX6_undo 26 = .ok (.imul, 1) := by decide +kernel
theorem dX6_undo_27 : decode cX6_undo 27 = .ok (.istore_n 1, 1) := by decide +kernel
theorem dX6_undo_28 : decode cX6_undo 28 = .ok (.aload_n 0, 1) := by decide +kernel
theorem dX6_undo_29 : decode cX6_undo 29 = .ok (.getfield 7, 3) := by decide +kernel
theorem dX6_undo_32 : decode cX6_undo 32 = .ok (.iconst 0, 1) := by decide +kernel
theorem dX6_undo_33 : decode cX6_undo 33 = .ok (.aload_n 0, 1) := by decide +kernel
theorem dX6_undo_34 : decode cX6_undo 34 = .ok (.getfield 20, 3) := by decide +kernel
theorem dX6_undo_37 : decode cX6_undo 37 = .ok (.iload_n 1, 1) := by decide +kernel
theorem dX6_undo_38 : decode cX6_undo 38 = .ok (.iconst 0, 1) := by decide +kernel
theorem dX6_undo_39 : decode cX6_undo 39 = .ok (.iadd, 1) := by decide +kernel
theorem dX6_undo_40 : decode cX6_undo 40 = .ok (.iaload, 1) := by decide +kernel
theorem dX6_undo_41 : decode cX6_undo 41 = .ok (.iastore, 1) := by decide +kernel
theorem dX6_undo_42 : decode cX6_undo 42 = .ok (.aload_n 0, 1) := by decide +kernel
theorem dX6_undo_43 : decode cX6_undo 43 = .ok (.getfield 7, 3) := by decide +kernel
theorem dX6_undo_46 : decode cX6_undo 46 = .ok (.bipush 7, 2) := by decide +kernel
theorem dX6_undo_48 : decode cX6_undo 48 = .ok (.aload_n 0, 1) := by decide +kernel
theorem dX6_undo_49 : decode cX6_undo 49 = .ok (.getfield 20, 3) := by decide +kernel
theorem dX6_undo_52 : decode cX6_undo 52 = .ok (.iload_n 1, 1) := by decide +kernel
theorem dX6_undo_53 : decode cX6_undo 53 = .ok (.bipush 7, 2) := by decide +kernel
theorem dX6_undo_55 : decode cX6_undo 55 = .ok (.iadd, 1) := by decide +kernel
theorem dX6_undo_56 : decode cX6_undo 56 = .ok (.iaload, 1) := by decide +kernel
theorem dX6_undo_57 : decode cX6_undo 57 = .ok (.iastore, 1) := by decide +kernel
theorem dX6_undo_58 : decode cX6_undo 58 = .ok (.aload_n 0, 1) := by decide +kernel
theorem dX6_undo_59 : decode cX6_undo 59 = .ok (.getfield 7, 3) := by decide +kernel
theorem dX6_undo_62 : decode cX6_undo 62 = .ok (.bipush 8, 2) := by decide +kernel
theorem dX6_undo_64 : decode cX6_undo 64 = .ok (.aload_n 0, 1) := by decide +kernel
theorem dX6_undo_65 : decode cX6_undo 65 = .ok (.getfield 20, 3) := by decide +kernel
theorem dX6_undo_68 : decode cX6_undo 68 = .ok (.iload_n 1, 1) := by decide +kernel
theorem dX6_undo_69 : decode cX6_undo 69 = .ok (.bipush 8, 2) := by decide +kernel
theorem dX6_undo_71 : decode cX6_undo 71 = .ok (.iadd, 1) := by decide +kernel
theorem dX6_undo_72 : decode cX6_undo 72 = .ok (.iaload, 1) := by decide +kernel
theorem dX6_undo_73 : decode cX6_undo 73 = .ok (.iastore, 1) := by decide +kernel
theorem dX6_undo_74 : decode cX6_undo 74 = .ok (.aload_n 0, 1) := by decide +kernel
theorem dX6_undo_75 : decode cX6_undo 75 = .ok (.getfield 7, 3) := by decide +kernel
theorem dX6_undo_78 : decode cX6_undo 78 = .ok (.bipush 9, 2) := by decide +kernel
theorem dX6_undo_80 : decode cX6_undo 80 = .ok (.aload_n 0, 1) := by decide +kernel
theorem dX6_undo_81 : decode cX6_undo 81 = .ok (.getfield 20, 3) := by decide +kernel
theorem dX6_undo_84 : decode cX6_undo 84 = .ok (.iload_n 1, 1) := by decide +kernel
theorem dX6_undo_85 : decode cX6_undo 85 = .ok (.bipush 9, 2) := by decide +kernel
theorem dX6_undo_87 : decode cX6_undo 87 = .ok (.iadd, 1) := by decide +kernel
theorem dX6_undo_88 : decode cX6_undo 88 = .ok (.iaload, 1) := by decide +kernel
theorem dX6_undo_89 : decode cX6_undo 89 = .ok (.iastore, 1) := by decide +kernel
theorem dX6_undo_90 : decode cX6_undo 90 = .ok (.aload_n 0, 1) := by decide +kernel
theorem dX6_undo_91 : decode cX6_undo 91 = .ok (.getfield 7, 3) := by decide +kernel
theorem dX6_undo_94 : decode cX6_undo 94 = .ok (.bipush 11, 2) := by decide +kernel
theorem dX6_undo_96 : decode cX6_undo 96 = .ok (.aload_n 0, 1) := by decide +kernel
theorem dX6_undo_97 : decode cX6_undo 97 = .ok (.getfield 20, 3) := by decide +kernel
theorem dX6_undo_100 : decode cX6_undo 100 = .ok (.iload_n 1, 1) := by decide +kernel
theorem dX6_undo_101 : decode cX6_undo 101 = .ok (.bipush 11, 2) := by decide +kernel
theorem dX6_undo_103 : decode cX6_undo 103 = .ok (.iadd, 1) := by decide +kernel
theorem dX6_undo_104 : decode cX6_undo 104 = .ok (.iaload, 1) := by decide +kernel
theorem dX6_undo_105 : decode cX6_undo 105 = .ok (.iastore, 1) := by decide +kernel
theorem dX6_undo_106 : decode cX6_undo 106 = .ok (.aload_n 0, 1) := by decide +kernel
theorem dX6_undo_107 : decode cX6_undo 107 = .ok (.getfield 7, 3) := by decide +kernel
theorem dX6_undo_110 : decode cX6_undo 110 = .ok (.bipush 13, 2) := by decide +kernel
theorem dX6_undo_112 : decode cX6_undo 112 = .ok (.aload_n 0, 1) := by decide +kernel
theorem dX6_undo_113 : decode cX6_undo 113 = .ok (.getfield 20, 3) := by decide +kernel
theorem dX6_undo_116 : decode cX6_undo 116 = .ok (.iload_n 1, 1) := by decide +kernel
theorem dX6_undo_117 : decode cX6_undo 117 = .ok (.bipush 13, 2) := by decide +kernel
theorem dX6_undo_119 : decode cX6_undo 119 = .ok (.iadd, 1) := by decide +kernel
theorem dX6_undo_120 : decode cX6_undo 120 = .ok (.iaload, 1) := by decide +kernel
theorem dX6_undo_121 : decode cX6_undo 121 = .ok (.iastore, 1) := by decide +kernel
theorem dX6_undo_122 : decode cX6_undo 122 = .ok (.iconst 0, 1) := by decide +kernel
theorem dX6_undo_123 : decode cX6_undo 123 = .ok (.istore_n 2, 1) := by decide +kernel
theorem dX6_undo_124 : decode cX6_undo 124 = .ok (.iload_n 2, 1) := by decide +kernel
theorem dX6_undo_125 : decode cX6_undo 125 = .ok (.aload_n 0, 1) := by decide +kernel
theorem dX6_undo_126 : decode cX6_undo 126 = .ok (.getfield 7, 3) := by decide +kernel
theorem dX6_undo_129 : decode cX6_undo 129 = .ok (.bipush 12, 2) := by decide +kernel
theorem dX6_undo_131 : decode cX6_undo 131 = .ok (.iaload, 1) := by decide +kernel
theorem dX6_undo_132 : decode cX6_undo 132 = .ok (.if_icmp .ge 53, 3) := by decide +kernel
theorem dX6_undo_135 : decode cX6_undo 135 = .ok (.iconst 3, 1) := by decide +kernel
theorem dX6_undo_136 : decode cX6_undo 136 = .ok (.istore_n 3, 1) := by decide +kernel
theorem dX6_undo_137 : decode cX6_undo 137 = .ok (.iload_n 3, 1) := by decide +kernel
theorem dX6_undo_138 : decode cX6_undo 138 = .ok (.bipush 7, 2) := by decide +kernel
theorem dX6_undo_140 : decode cX6_undo 140 = .ok (.if_icmp .ge 39, 3) := by decide +kernel
theorem dX6_undo_143 : decode cX6_undo 143 = .ok (.aload_n 0, 1) := by decide +kernel
theorem dX6_undo_144 : decode cX6_undo 144 = .ok (.getfield 7, 3) := by decide +kernel
theorem dX6_undo_147 : decode cX6_undo 147 = .ok (.bipush 14, 2) := by decide +kernel
theorem dX6_undo_149 : decode cX6_undo 149 = .ok (.bipush 7, 2) := by decide +kernel
theorem dX6_undo_151 : decode cX6_undo 151 = .ok (.iload_n 2, 1) := by decide +kernel
theorem dX6_undo_152 : decode cX6_undo 152 = .ok (.imul, 1) := by decide +kernel
theorem dX6_undo_153 : decode cX6_undo 153 = .ok (.iadd, 1) := by decide +kernel
theorem dX6_undo_154 : decode cX6_undo 154 = .ok (.iload_n 3, 1) := by decide +kernel
theorem dX6_undo_155 : decode cX6_undo 155 = .ok (.iadd, 1) := by decide +kernel
theorem dX6_undo_156 : decode cX6_undo 156 = .ok (.aload_n 0, 1) := by decide +kernel
theorem dX6_undo_157 : decode cX6_undo 157 = .ok (.getfield 20, 3) := by decide +kernel
theorem dX6_undo_160 : decode cX6_undo 160 = .ok (.iload_n 1, 1) := by decide +kernel
theorem dX6_undo_161 : decode cX6_undo 161 = .ok (.bipush 14, 2) := by decide +kernel
theorem dX6_undo_163 : decode cX6_undo 163 = .ok (.iadd, 1) := by decide +kernel
theorem dX6_undo_164 : decode cX6_undo 164 = .ok (.bipush 7, 2) := by decide +kernel
theorem dX6_undo_166 : decode cX6_undo 166 = .ok (.iload_n 2, 1) := by decide +kernel
theorem dX6_undo_167 : decode cX6_undo 167 = .ok (.imul, 1) := by decide +kernel
theorem dX6_undo_168 : decode cX6_undo 168 = .ok (.iadd, 1) := by decide +kernel
theorem dX6_undo_169 : decode cX6_undo 169 = .ok (.iload_n 3, 1) := by decide +kernel
theorem dX6_undo_170 : decode cX6_undo 170 = .ok (.iadd, 1) := by decide +kernel
theorem dX6_undo_171 : decode cX6_undo 171 = .ok (.iaload, 1) := by decide +kernel
theorem dX6_undo_172 : decode cX6_undo 172 = .ok (.iastore, 1) := by decide +kernel
theorem dX6_undo_173 : decode cX6_undo 173 = .ok (.iinc 3 1, 3) := by decide +kernel
theorem dX6_undo_176 : decode cX6_undo 176 = .ok (.goto (-39), 3) := by decide +kernel
theorem dX6_undo_179 : decode cX6_undo 179 = .ok (.iinc 2 1, 3) := by decide +kernel
theorem dX6_undo_182 : decode cX6_undo 182 = .ok (.goto (-58), 3) := by decide +kernel
theorem dX6_undo_185 : decode cX6_undo 185 = .ok (.aload_n 0, 1) := by decide +kernel
theorem dX6_undo_186 : decode cX6_undo 186 = .ok (.getfield 74, 3) := by decide +kernel
theorem dX6_undo_189 : decode cX6_undo 189 = .ok (.ireturn, 1) := by decide +kernel
theorem dX6_seed_0 : decode cX6_seed 0 = .ok (.iload_n 1, 1) := by decide +kernel
theorem dX6_seed_1 : decode cX6_seed 1 = .ok (.ifCond .ge 5, 3) := by decide +kernel
theorem dX6_seed_4 : decode cX6_seed 4 = .ok (.iconst (-1), 1) := by decide +kernel
theorem dX6_seed_5 : decode cX6_seed 5 = .ok (.ireturn, 1) := by decide +kernel
theorem dX6_seed_6 : decode cX6_seed 6 = .ok (.aload_n 0, 1) := by decide +kernel
theorem dX6_seed_7 : decode cX6_seed 7 = .ok (.getfield 7, 3) := by decide +kernel
theorem dX6_seed_10 : decode cX6_seed 10 = .ok (.bipush 13, 2) := by decide +kernel
theorem dX6_seed_12 : decode cX6_seed 12 = .ok (.iaload, 1) := by decide +kernel
theorem dX6_seed_13 : decode cX6_seed 13 = .ok (.istore_n 2, 1) := by decide +kernel
theorem dX6_seed_14 : decode cX6_seed 14 = .ok (.aload_n 0, 1) := by decide +kernel
theorem dX6_seed_15 : decode cX6_seed 15 = .ok (.getfield 7, 3) := by decide +kernel
theorem dX6_seed_18 : decode cX6_seed 18 = .ok (.bipush 13, 2) := by decide +kernel
theorem dX6_seed_20 : decode cX6_seed 20 = .ok (.iload_n 1, 1) := by decide +kernel
theorem dX6_seed_21 : decode cX6_seed 21 = .ok (.iastore, 1) := by decide +kernel
theorem dX6_seed_22 : decode cX6_seed 22 = .ok (.iload_n 2, 1) := by decide +kernel
theorem dX6_seed_23 : decode cX6_seed 23 = .ok (.ireturn, 1) := by decide +kernel
theorem dX6_count_0 : decode cX6_count 0 = .ok (.iconst 0, 1) := by decide +kernel
theorem dX6_count_1 : decode cX6_count 1 = .ok (.istore_n 2, 1) := by decide +kernel
theorem dX6_count_2 : decode cX6_count 2 = .ok (.iconst 0, 1) := by decide +kernel
theorem dX6_count_3 : decode cX6_count 3 = .ok (.istore_n 3, 1) := by decide +kernel
theorem dX6_count_4 : decode cX6_count 4 = .ok (.iload_n 3, 1) := by decide +kernel
theorem dX6_count_5 : decode cX6_count 5 = .ok (.aload_n 0, 1) := by decide +kernel
theorem dX6_count_6 : decode cX6_count 6 = .ok (.getfield 7, 3) := by decide +kernel
theorem dX6_count_9 : decode cX6_count 9 = .ok (.bipush 12, 2) := by decide +kernel
theorem dX6_count_11 : decode cX6_count 11 = .ok (.iaload, 1) := by decide +kernel
theorem dX6_count_12 : decode cX6_count 12 = .ok (.if_icmp .ge 18, 3) := by decide +kernel
theorem dX6_count_15 : decode cX6_count 15 = .ok (.iload_n 2, 1) := by decide +kernel
theorem dX6_count_16 : decode cX6_count 16 = .ok (.aload_n 0, 1) := by decide +kernel
theorem dX6_count_17 : decode cX6_count 17 = .ok (.iload_n 3, 1) := by decide +kernel
theorem dX6_count_18 : decode cX6_count 18 = .ok (.iconst 3, 1) := by decide +kernel
theorem dX6_count_19 : decode cX6_count 19 = .ok (.invokevirtual 55, 3) := by decide +kernel
theorem dX6_count_22 : decode cX6_count 22 = .ok (.iadd, 1) := by decide +kernel
theorem dX6_count_23 : decode cX6_count 23 = .ok (.istore_n 2, 1) := by decide +kernel
theorem dX6_count_24 : decode cX6_count 24 = .ok (.iinc 3 1, 3) := by decide +kernel
theorem dX6_count_27 : decode cX6_count 27 = .ok (.goto (-23), 3) := by decide +kernel
theorem dX6_count_30 : decode cX6_count 30 = .ok (.iload_n 1, 1) := by decide +kernel
theorem dX6_count_31 : decode cX6_count 31 = .ok (.tableswitch 144 0 15 #[77, 85, 93, 100, 108, 116, 124, 129, 134, 144, 144, 144, 144, 144, 144, 136], 77) := by decide +kernel
theorem dX6_count_108 : decode cX6_count 108 = .ok (.aload_n 0, 1) := by decide +kernel
theorem dX6_count_109 : decode cX6_count 109 = .ok (.getfield 7, 3) := by decide +kernel
theorem dX6_count_112 : decode cX6_count 112 = .ok (.bipush 12, 2) := by decide +kernel
theorem dX6_count_114 : decode cX6_count 114 = .ok (.iaload, 1) := by decide +kernel
theorem dX6_count_115 : decode cX6_count 115 = .ok (.ireturn, 1) := by decide +kernel
theorem dX6_count_116 : decode cX6_count 116 = .ok (.aload_n 0, 1) := by decide +kernel
theorem dX6_count_117 : decode cX6_count 117 = .ok (.getfield 7, 3) := by decide +kernel
theorem dX6_count_120 : decode cX6_count 120 = .ok (.bipush 11, 2) := by decide +kernel
theorem dX6_count_122 : decode cX6_count 122 = .ok (.iaload, 1) := by decide +kernel
theorem dX6_count_123 : decode cX6_count 123 = .ok (.ireturn, 1) := by decide +kernel
theorem dX6_count_124 : decode cX6_count 124 = .ok (.aload_n 0, 1) := by decide +kernel
theorem dX6_count_125 : decode cX6_count 125 = .ok (.getfield 7, 3) := by decide +kernel
theorem dX6_count_128 : decode cX6_count 128 = .ok (.iconst 0, 1) := by decide +kernel
theorem dX6_count_129 : decode cX6_count 129 = .ok (.iaload, 1) := by decide +kernel
theorem dX6_count_130 : decode cX6_count 130 = .ok (.ireturn, 1) := by decide +kernel
theorem dX6_count_131 : decode cX6_count 131 = .ok (.aload_n 0, 1) := by decide +kernel
theorem dX6_count_132 : decode cX6_count 132 = .ok (.getfield 7, 3) := by decide +kernel
theorem dX6_count_135 : decode cX6_count 135 = .ok (.bipush 7, 2) := by decide +kernel
theorem dX6_count_137 : decode cX6_count 137 = .ok (.iaload, 1) := by decide +kernel
theorem dX6_count_138 : decode cX6_count 138 = .ok (.ireturn, 1) := by decide +kernel
theorem dX6_count_139 : decode cX6_count 139 = .ok (.aload_n 0, 1) := by decide +kernel
theorem dX6_count_140 : decode cX6_count 140 = .ok (.getfield 7, 3) := by decide +kernel
theorem dX6_count_143 : decode cX6_count 143 = .ok (.bipush 8, 2) := by decide +kernel
theorem dX6_count_145 : decode cX6_count 145 = .ok (.iaload, 1) := by decide +kernel
theorem dX6_count_146 : decode cX6_count 146 = .ok (.ireturn, 1) := by decide +kernel
theorem dX6_count_147 : decode cX6_count 147 = .ok (.aload_n 0, 1) := by decide +kernel
theorem dX6_count_148 : decode cX6_count 148 = .ok (.getfield 7, 3) := by decide +kernel
theorem dX6_count_151 : decode cX6_count 151 = .ok (.bipush 9, 2) := by decide +kernel
theorem dX6_count_153 : decode cX6_count 153 = .ok (.iaload, 1) := by decide +kernel
theorem dX6_count_154 : decode cX6_count 154 = .ok (.ireturn, 1) := by decide +kernel
theorem dX6_count_155 : decode cX6_count 155 = .ok (.aload_n 0, 1) := by decide +kernel
theorem dX6_count_156 : decode cX6_count 156 = .ok (.getfield 74, 3) := by decide +kernel
theorem dX6_count_159 : decode cX6_count 159 = .ok (.ireturn, 1) := by decide +kernel
theorem dX6_count_160 : decode cX6_count 160 = .ok (.aload_n 0, 1) := by decide +kernel
theorem dX6_count_161 : decode cX6_count 161 = .ok (.invokevirtual 134, 3) := by decide +kernel
theorem dX6_count_164 : decode cX6_count 164 = .ok (.ireturn, 1) := by decide +kernel
theorem dX6_count_165 : decode cX6_count 165 = .ok (.iload_n 2, 1) := by decide +kernel
theorem dX6_count_166 : decode cX6_count 166 = .ok (.ireturn, 1) := by decide +kernel
theorem dX6_count_167 : decode cX6_count 167 = .ok (.aload_n 0, 1) := by decide +kernel
theorem dX6_count_168 : decode cX6_count 168 = .ok (.getfield 7, 3) := by decide +kernel
theorem dX6_count_171 : decode cX6_count 171 = .ok (.bipush 10, 2) := by decide +kernel
theorem dX6_count_173 : decode cX6_count 173 = .ok (.iaload, 1) := by decide +kernel
theorem dX6_count_174 : decode cX6_count 174 = .ok (.ireturn, 1) := by decide +kernel
theorem dX6_count_175 : decode cX6_count 175 = .ok (.iload_n 1, 1) := by decide +kernel
theorem dX6_count_176 : decode cX6_count 176 = .ok (.i2l, 1) := by decide +kernel
theorem dX6_count_177 : decode cX6_count 177 = .ok (.ldc2_w 72, 3) := by decide +kernel
theorem dX6_count_180 : decode cX6_count 180 = .ok (.ldc2_w 138, 3) := by decide +kernel
theorem dX6_count_183 : decode cX6_count 183 = .ok (.invokestatic 51, 3) := by decide +kernel
theorem dX6_count_186 : decode cX6_count 186 = .ok (.ifCond .eq 15, 3) := by decide +kernel
theorem dX6_count_189 : decode cX6_count 189 = .ok (.aload_n 0, 1) := by decide +kernel
theorem dX6_count_190 : decode cX6_count 190 = .ok (.getfield 7, 3) := by decide +kernel
theorem dX6_count_193 : decode cX6_count 193 = .ok (.iload_n 1, 1) := by decide +kernel
theorem dX6_count_194 : decode cX6_count 194 = .ok (.bipush 8, 2) := by decide +kernel
theorem dX6_count_196 : decode cX6_count 196 = .ok (.isub, 1) := by decide +kernel
theorem dX6_count_197 : decode cX6_count 197 = .ok (.iaload, 1) := by decide +kernel
theorem dX6_count_198 : decode cX6_count 198 = .ok (.goto 4, 3) := by decide +kernel
theorem dX6_count_201 : decode cX6_count 201 = .ok (.iconst (-1), 1) := by decide +kernel
theorem dX6_count_202 : decode cX6_count 202 = .ok (.ireturn, 1) := by decide +kernel
theorem dX6_asides_0 : decode cX6_asides 0 = .ok (.iconst 0, 1) := by decide +kernel
theorem dX6_asides_1 : decode cX6_asides 1 = .ok (.istore_n 1, 1) := by decide +kernel
theorem dX6_asides_2 : decode cX6_asides 2 = .ok (.iload_n 1, 1) := by decide +kernel
theorem dX6_asides_3 : decode cX6_asides 3 = .ok (.bipush 63, 2) := by decide +kernel
theorem dX6_asides_5 : decode cX6_asides 5 = .ok (.if_icmp .ge 21, 3) := by decide +kernel
theorem dX6_asides_8 : decode cX6_asides 8 = .ok (.aload_n 0, 1) := by decide +kernel
theorem dX6_asides_9 : decode cX6_asides 9 = .ok (.getfield 23, 3) := by decide +kernel
theorem dX6_asides_12 : decode cX6_asides 12 = .ok (.iload_n 1, 1) := by decide +kernel
theorem dX6_asides_13 : decode cX6_asides 13 = .ok (.aload_n 0, 1) := by decide +kernel
theorem dX6_asides_14 : decode cX6_asides 14 = .ok (.getfield 7, 3) := by decide +kernel
theorem dX6_asides_17 : decode cX6_asides 17 = .ok (.iload_n 1, 1) := by decide +kernel
theorem dX6_asides_18 : decode cX6_asides 18 = .ok (.iaload, 1) := by decide +kernel
theorem dX6_asides_19 : decode cX6_asides 19 = .ok (.iastore, 1) := by decide +kernel
theorem dX6_asides_20 : decode cX6_asides 20 = .ok (.iinc 1 1, 3) := by decide +kernel
theorem dX6_asides_23 : decode cX6_asides 23 = .ok (.goto (-21), 3) := by decide +kernel
theorem dX6_asides_26 : decode cX6_asides 26 = .ok (.return_, 1) := by decide +kernel
theorem dX6_backs_0 : decode cX6_backs 0 = .ok (.iconst 0, 1) := by decide +kernel
theorem dX6_backs_1 : decode cX6_backs 1 = .ok (.istore_n 1, 1) := by decide +kernel
theorem dX6_backs_2 : decode cX6_backs 2 = .ok (.iload_n 1, 1) := by decide +kernel
theorem dX6_backs_3 : decode cX6_backs 3 = .ok (.bipush 63, 2) := by decide +kernel
theorem dX6_backs_5 : decode cX6_backs 5 = .ok (.if_icmp .ge 21, 3) := by decide +kernel
theorem dX6_backs_8 : decode cX6_backs 8 = .ok (.aload_n 0, 1) := by decide +kernel
theorem dX6_backs_9 : decode cX6_backs 9 = .ok (.getfield 7, 3) := by decide +kernel
theorem dX6_backs_12 : decode cX6_backs 12 = .ok (.iload_n 1, 1) := by decide +kernel
theorem dX6_backs_13 : decode cX6_backs 13 = .ok (.aload_n 0, 1) := by decide +kernel
theorem dX6_backs_14 : decode cX6_backs 14 = .ok (.getfield 23, 3) := by decide +kernel
theorem dX6_backs_17 : decode cX6_backs 17 = .ok (.iload_n 1, 1) := by decide +kernel
theorem dX6_backs_18 : decode cX6_backs 18 = .ok (.iaload, 1) := by decide +kernel
theorem dX6_backs_19 : decode cX6_backs 19 = .ok (.iastore, 1) := by decide +kernel
theorem dX6_backs_20 : decode cX6_backs 20 = .ok (.iinc 1 1, 3) := by decide +kernel
theorem dX6_backs_23 : decode cX6_backs 23 = .ok (.goto (-21), 3) := by decide +kernel
theorem dX6_backs_26 : decode cX6_backs 26 = .ok (.return_, 1) := by decide +kernel
theorem dX6_water_0 : decode cX6_water 0 = .ok (.iload_n 1, 1) := by decide +kernel
theorem dX6_water_1 : decode cX6_water 1 = .ok (.i2l, 1) := by decide +kernel
theorem dX6_water_2 : decode cX6_water 2 = .ok (.lconst 0, 1) := by decide +kernel
theorem dX6_water_3 : decode cX6_water 3 = .ok (.ldc2_w 140, 3) := by decide +kernel
theorem dX6_water_6 : decode cX6_water 6 = .ok (.invokestatic 51, 3) := by decide +kernel
theorem dX6_water_9 : decode cX6_water 9 = .ok (.ifCond .ne 5, 3) := by decide +kernel
theorem dX6_water_12 : decode cX6_water 12 = .ok (.iconst (-1), 1) := by decide +kernel
theorem dX6_water_13 : decode cX6_water 13 = .ok (.ireturn, 1) := by decide +kernel
theorem dX6_water_14 : decode cX6_water 14 = .ok (.aload_n 0, 1) := by decide +kernel
theorem dX6_water_15 : decode cX6_water 15 = .ok (.invokevirtual 142, 3) := by decide +kernel
theorem dX6_water_18 : decode cX6_water 18 = .ok (.iconst 0, 1) := by decide +kernel
theorem dX6_water_19 : decode cX6_water 19 = .ok (.istore_n 2, 1) := by decide +kernel
theorem dX6_water_20 : decode cX6_water 20 = .ok (.iload_n 2, 1) := by decide +kernel
theorem dX6_water_21 : decode cX6_water 21 = .ok (.iload_n 1, 1) := by decide +kernel
theorem dX6_water_22 : decode cX6_water 22 = .ok (.if_icmp .ge 17, 3) := by decide +kernel
theorem dX6_water_25 : decode cX6_water 25 = .ok (.aload_n 0, 1) := by decide +kernel
theorem dX6_water_26 : decode cX6_water 26 = .ok (.iconst 0, 1) := by decide +kernel
theorem dX6_water_27 : decode cX6_water 27 = .ok (.bipush 127, 2) := by decide +kernel
theorem dX6_water_29 : decode cX6_water 29 = .ok (.invokevirtual 124, 3) := by decide +kernel
theorem dX6_water_32 : decode cX6_water 32 = .ok (.pop, 1) := by decide +kernel
theorem dX6_water_33 : decode cX6_water 33 = .ok (.iinc 2 1, 3) := by decide +kernel
theorem dX6_water_36 : decode cX6_water 36 = .ok (.goto (-16), 3) := by decide +kernel
theorem dX6_water_39 : decode cX6_water 39 = .ok (.aload_n 0, 1) := by decide +kernel
theorem dX6_water_40 : decode cX6_water 40 = .ok (.getfield 7, 3) := by decide +kernel
theorem dX6_water_43 : decode cX6_water 43 = .ok (.iconst 0, 1) := by decide +kernel
theorem dX6_water_44 : decode cX6_water 44 = .ok (.iaload, 1) := by decide +kernel
theorem dX6_water_45 : decode cX6_water 45 = .ok (.istore_n 2, 1) := by decide +kernel
theorem dX6_water_46 : decode cX6_water 46 = .ok (.aload_n 0, 1) := by decide +kernel
theorem dX6_water_47 : decode cX6_water 47 = .ok (.invokevirtual 145, 3) := by decide +kernel
theorem dX6_water_50 : decode cX6_water 50 = .ok (.iload_n 2, 1) := by decide +kernel
theorem dX6_water_51 : decode cX6_water 51 = .ok (.ireturn, 1) := by decide +kernel
theorem dX6_goesOn_0 : decode cX6_goesOn 0 = .ok (.bipush (-4), 2) := by decide +kernel
theorem dX6_goesOn_2 : decode cX6_goesOn 2 = .ok (.istore_n 2, 1) := by decide +kernel
theorem dX6_goesOn_3 : decode cX6_goesOn 3 = .ok (.iconst 0, 1) := by decide +kernel
theorem dX6_goesOn_4 : decode cX6_goesOn 4 = .ok (.istore_n 3, 1) := by decide +kernel
theorem dX6_goesOn_5 : decode cX6_goesOn 5 = .ok (.iload_n 3, 1) := by decide +kernel
theorem dX6_goesOn_6 : decode cX6_goesOn 6 = .ok (.bipush 7, 2) := by decide +kernel
theorem dX6_goesOn_8 : decode cX6_goesOn 8 = .ok (.if_icmp .ge 17, 3) := by decide +kernel
theorem dX6_goesOn_11 : decode cX6_goesOn 11 = .ok (.aload_n 0, 1) := by decide +kernel
theorem dX6_goesOn_12 : decode cX6_goesOn 12 = .ok (.getfield 26, 3) := by decide +kernel
theorem dX6_goesOn_15 : decode cX6_goesOn 15 = .ok (.iload_n 3, 1) := by decide +kernel
theorem dX6_goesOn_16 : decode cX6_goesOn 16 = .ok (.bipush (-4), 2) := by decide +kernel
theorem dX6_goesOn_18 : decode cX6_goesOn 18 = .ok (.iastore, 1) := by decide +kernel
theorem dX6_goesOn_19 : decode cX6_goesOn 19 = .ok (.iinc 3 1, 3) := by decide +kernel
theorem dX6_goesOn_22 : decode cX6_goesOn 22 = .ok (.goto (-17), 3) := by decide +kernel
theorem dX6_goesOn_25 : decode cX6_goesOn 25 = .ok (.iconst 0, 1) := by decide +kernel
theorem dX6_goesOn_26 : decode cX6_goesOn 26 = .ok (.istore_n 3, 1) := by decide +kernel
theorem dX6_goesOn_27 : decode cX6_goesOn 27 = .ok (.iload_n 3, 1) := by decide +kernel
theorem dX6_goesOn_28 : decode cX6_goesOn 28 = .ok (.sipush 241, 3) := by decide +kernel
theorem dX6_goesOn_31 : decode cX6_goesOn 31 = .ok (.if_icmp .ge 100, 3) := by decide +kernel
theorem dX6_goesOn_34 : decode cX6_goesOn 34 = .ok (.iconst 0, 1) := by decide +kernel
theorem dX6_goesOn_35 : decode cX6_goesOn 35 = .ok (.istore 4, 2) := by decide +kernel
theorem dX6_goesOn_37 : decode cX6_goesOn 37 = .ok (.iload 4, 2) := by decide +kernel
theorem dX6_goesOn_39 : decode cX6_goesOn 39 = .ok (.aload_n 0, 1) := by decide +kernel
theorem dX6_goesOn_40 : decode cX6_goesOn 40 = .ok (.getfield 7, 3) := by decide +kernel
theorem dX6_goesOn_43 : decode cX6_goesOn 43 = .ok (.bipush 12, 2) := by decide +kernel
theorem dX6_goesOn_45 : decode cX6_goesOn 45 = .ok (.iaload, 1) := by decide +kernel
theorem dX6_goesOn_46 : decode cX6_goesOn 46 = .ok (.if_icmp .ge 48, 3) := by decide +kernel
theorem dX6_goesOn_49 : decode cX6_goesOn 49 = .ok (.aload_n 0, 1) := by decide +kernel
theorem dX6_goesOn_50 : decode cX6_goesOn 50 = .ok (.getfield 26, 3) := by decide +kernel
theorem dX6_goesOn_53 : decode cX6_goesOn 53 = .ok (.iload 4, 2) := by decide +kernel
theorem dX6_goesOn_55 : decode cX6_goesOn 55 = .ok (.aload_n 0, 1) := by decide +kernel
theorem dX6_goesOn_56 : decode cX6_goesOn 56 = .ok (.getfield 26, 3) := by decide +kernel
theorem dX6_goesOn_59 : decode cX6_goesOn 59 = .ok (.iload 4, 2) := by decide +kernel
theorem dX6_goesOn_61 : decode cX6_goesOn 61 = .ok (.iaload, 1) := by decide +kernel
theorem dX6_goesOn_62 : decode cX6_goesOn 62 = .ok (.bipush (-4), 2) := by decide +kernel
theorem dX6_goesOn_64 : decode cX6_goesOn 64 = .ok (.if_icmp .ne 16, 3) := by decide +kernel
theorem dX6_goesOn_67 : decode cX6_goesOn 67 = .ok (.aload_n 0, 1) := by decide +kernel
theorem dX6_goesOn_68 : decode cX6_goesOn 68 = .ok (.iload 4, 2) := by decide +kernel
theorem dX6_goesOn_70 : decode cX6_goesOn 70 = .ok (.invokevirtual 67, 3) := by decide +kernel
theorem dX6_goesOn_73 : decode cX6_goesOn 73 = .ok (.ifCond .eq 7, 3) := by decide +kernel
theorem dX6_goesOn_76 : decode cX6_goesOn 76 = .ok (.iload_n 3, 1) := by decide +kernel
theorem dX6_goesOn_77 : decode cX6_goesOn 77 = .ok (.goto 10, 3) := by decide +kernel
theorem dX6_goesOn_80 : decode cX6_goesOn 80 = .ok (.aload_n 0, 1) := by decide +kernel
theorem dX6_goesOn_81 : decode cX6_goesOn 81 = .ok (.getfield 26, 3) := by decide +kernel
theorem dX6_goesOn_84 : decode cX6_goesOn 84 = .ok (.iload 4, 2) := by decide +kernel
theorem dX6_goesOn_86 : decode cX6_goesOn 86 = .ok (.iaload, 1) := by decide +kernel
theorem dX6_goesOn_87 : decode cX6_goesOn 87 = .ok (.iastore, 1) := by decide +kernel
theorem dX6_goesOn_88 : decode cX6_goesOn 88 = .ok (.iinc 4 1, 3) := by decide +kernel
theorem dX6_goesOn_91 : decode cX6_goesOn 91 = .ok (.goto (-54), 3) := by decide +kernel
theorem dX6_goesOn_94 : decode cX6_goesOn 94 = .ok (.iload_n 2, 1) := by decide +kernel
theorem dX6_goesOn_95 : decode cX6_goesOn 95 = .ok (.bipush (-4), 2) := by decide +kernel
theorem dX6_goesOn_97 : decode cX6_goesOn 97 = .ok (.if_icmp .ne 18, 3) := by decide +kernel
theorem dX6_goesOn_100 : decode cX6_goesOn 100 = .ok (.iload_n 1, 1) := by decide +kernel
theorem dX6_goesOn_101 : decode cX6_goesOn 101 = .ok (.aload_n 0, 1) := by decide +kernel
theorem dX6_goesOn_102 : decode cX6_goesOn 102 = .ok (.invokevirtual 134, 3) := by decide +kernel
theorem dX6_goesOn_105 : decode cX6_goesOn 105 = .ok (.iconst (-1), 1) := by decide +kernel
theorem dX6_goesOn_106 : decode cX6_goesOn 106 = .ok (.ixor, 1) := by decide +kernel
theorem dX6_goesOn_107 : decode cX6_goesOn 107 = .ok (.iand, 1) := by decide +kernel
theorem dX6_goesOn_108 : decode cX6_goesOn 108 = .ok (.ifCond .ne 7, 3) := by decide +kernel
theorem dX6_goesOn_111 : decode cX6_goesOn 111 = .ok (.iload_n 3, 1) := by decide +kernel
theorem dX6_goesOn_112 : decode cX6_goesOn 112 = .ok (.goto 4, 3) := by decide +kernel
theorem dX6_goesOn_115 : decode cX6_goesOn 115 = .ok (.iload_n 2, 1) := by decide +kernel
theorem dX6_goesOn_116 : decode cX6_goesOn 116 = .ok (.istore_n 2, 1) := by decide +kernel
theorem dX6_goesOn_117 : decode cX6_goesOn 117 = .ok (.aload_n 0, 1) := by decide +kernel
theorem dX6_goesOn_118 : decode cX6_goesOn 118 = .ok (.iconst 0, 1) := by decide +kernel
theorem dX6_goesOn_119 : decode cX6_goesOn 119 = .ok (.bipush 127, 2) := by decide +kernel
theorem dX6_goesOn_121 : decode cX6_goesOn 121 = .ok (.invokevirtual 124, 3) := by decide +kernel
theorem dX6_goesOn_124 : decode cX6_goesOn 124 = .ok (.pop, 1) := by decide +kernel
theorem dX6_goesOn_125 : decode cX6_goesOn 125 = .ok (.iinc 3 1, 3) := by decide +kernel
theorem dX6_goesOn_128 : decode cX6_goesOn 128 = .ok (.goto (-101), 3) := by decide +kernel
theorem dX6_goesOn_131 : decode cX6_goesOn 131 = .ok (.aload_n 0, 1) := by decide +kernel
theorem dX6_goesOn_132 : decode cX6_goesOn 132 = .ok (.invokevirtual 145, 3) := by decide +kernel
theorem dX6_goesOn_135 : decode cX6_goesOn 135 = .ok (.iload_n 2, 1) := by decide +kernel
theorem dX6_goesOn_136 : decode cX6_goesOn 136 = .ok (.ireturn, 1) := by decide +kernel
theorem dX6_others_0 : decode cX6_others 0 = .ok (.iconst 1, 1) := by decide +kernel
theorem dX6_others_1 : decode cX6_others 1 = .ok (.aload_n 0, 1) := by decide +kernel
theorem dX6_others_2 : decode cX6_others 2 = .ok (.getfield 7, 3) := by decide +kernel
theorem dX6_others_5 : decode cX6_others 5 = .ok (.bipush 12, 2) := by decide +kernel
theorem dX6_others_7 : decode cX6_others 7 = .ok (.iaload, 1) := by decide +kernel
theorem dX6_others_8 : decode cX6_others 8 = .ok (.ishl, 1) := by decide +kernel
theorem dX6_others_9 : decode cX6_others 9 = .ok (.iconst 1, 1) := by decide +kernel
theorem dX6_others_10 : decode cX6_others 10 = .ok (.isub, 1) := by decide +kernel
theorem dX6_others_11 : decode cX6_others 11 = .ok (.istore_n 1, 1) := by decide +kernel
theorem dX6_others_12 : decode cX6_others 12 = .ok (.aload_n 0, 1) := by decide +kernel
theorem dX6_others_13 : decode cX6_others 13 = .ok (.getfield 7, 3) := by decide +kernel
theorem dX6_others_16 : decode cX6_others 16 = .ok (.bipush 10, 2) := by decide +kernel
theorem dX6_others_18 : decode cX6_others 18 = .ok (.iaload, 1) := by decide +kernel
theorem dX6_others_19 : decode cX6_others 19 = .ok (.bipush (-4), 2) := by decide +kernel
theorem dX6_others_21 : decode cX6_others 21 = .ok (.if_icmp .ne 7, 3) := by decide +kernel
theorem dX6_others_24 : decode cX6_others 24 = .ok (.iload_n 1, 1) := by decide +kernel
theorem dX6_others_25 : decode cX6_others 25 = .ok (.goto 16, 3) := by decide +kernel
theorem dX6_others_28 : decode cX6_others 28 = .ok (.iload_n 1, 1) := by decide +kernel
theorem dX6_others_29 : decode cX6_others 29 = .ok (.iconst 1, 1) := by decide +kernel
theorem dX6_others_30 : decode cX6_others 30 = .ok (.aload_n 0, 1) := by decide +kernel
theorem dX6_others_31 : decode cX6_others 31 = .ok (.getfield 7, 3) := by decide +kernel
theorem dX6_others_34 : decode cX6_others 34 = .ok (.bipush 10, 2) := by decide +kernel
theorem dX6_others_36 : decode cX6_others 36 = .ok (.iaload, 1) := by decide +kernel
theorem dX6_others_37 : decode cX6_others 37 = .ok (.ishl, 1) := by decide +kernel
theorem dX6_others_38 : decode cX6_others 38 = .ok (.iconst (-1), 1) := by decide +kernel
theorem dX6_others_39 : decode cX6_others 39 = .ok (.ixor, 1) := by decide +kernel
theorem dX6_others_40 : decode cX6_others 40 = .ok (.iand, 1) := by decide +kernel
theorem dX6_others_41 : decode cX6_others 41 = .ok (.ireturn, 1) := by decide +kernel
theorem dX6_done_0 : decode cX6_done 0 = .ok (.aload_n 0, 1) := by decide +kernel
theorem dX6_done_1 : decode cX6_done 1 = .ok (.iload_n 1, 1) := by decide +kernel
theorem dX6_done_2 : decode cX6_done 2 = .ok (.invokevirtual 77, 3) := by decide +kernel
theorem dX6_done_5 : decode cX6_done 5 = .ok (.ifCond .ne 5, 3) := by decide +kernel
theorem dX6_done_8 : decode cX6_done 8 = .ok (.iconst (-1), 1) := by decide +kernel
theorem dX6_done_9 : decode cX6_done 9 = .ok (.ireturn, 1) := by decide +kernel
theorem dX6_done_10 : decode cX6_done 10 = .ok (.aload_n 0, 1) := by decide +kernel
theorem dX6_done_11 : decode cX6_done 11 = .ok (.invokevirtual 142, 3) := by decide +kernel
theorem dX6_done_14 : decode cX6_done 14 = .ok (.aload_n 0, 1) := by decide +kernel
theorem dX6_done_15 : decode cX6_done 15 = .ok (.iconst 0, 1) := by decide +kernel
theorem dX6_done_16 : decode cX6_done 16 = .ok (.invokevirtual 148, 3) := by decide +kernel
theorem dX6_done_19 : decode cX6_done 19 = .ok (.pop, 1) := by decide +kernel
theorem dX6_done_20 : decode cX6_done 20 = .ok (.aload_n 0, 1) := by decide +kernel
theorem dX6_done_21 : decode cX6_done 21 = .ok (.getfield 26, 3) := by decide +kernel
theorem dX6_done_24 : decode cX6_done 24 = .ok (.iload_n 1, 1) := by decide +kernel
theorem dX6_done_25 : decode cX6_done 25 = .ok (.iaload, 1) := by decide +kernel
theorem dX6_done_26 : decode cX6_done 26 = .ok (.ireturn, 1) := by decide +kernel
theorem dX6_all_0 : decode cX6_all 0 = .ok (.aload_n 0, 1) := by decide +kernel
theorem dX6_all_1 : decode cX6_all 1 = .ok (.invokevirtual 142, 3) := by decide +kernel
theorem dX6_all_4 : decode cX6_all 4 = .ok (.aload_n 0, 1) := by decide +kernel
theorem dX6_all_5 : decode cX6_all 5 = .ok (.aload_n 0, 1) := by decide +kernel
theorem dX6_all_6 : decode cX6_all 6 = .ok (.invokevirtual 151, 3) := by decide +kernel
theorem dX6_all_9 : decode cX6_all 9 = .ok (.invokevirtual 148, 3) := by decide +kernel
theorem dX6_all_12 : decode cX6_all 12 = .ok (.ireturn, 1) := by decide +kernel
theorem dX6_height_0 : decode cX6_height 0 = .ok (.iload_n 1, 1) := by decide +kernel
theorem dX6_height_1 : decode cX6_height 1 = .ok (.i2l, 1) := by decide +kernel
theorem dX6_height_2 : decode cX6_height 2 = .ok (.lconst 0, 1) := by decide +kernel
theorem dX6_height_3 : decode cX6_height 3 = .ok (.lconst 1, 1) := by decide +kernel
theorem dX6_height_4 : decode cX6_height 4 = .ok (.invokestatic 51, 3) := by decide +kernel
theorem dX6_height_7 : decode cX6_height 7 = .ok (.ifCond .ne 5, 3) := by decide +kernel
theorem dX6_height_10 : decode cX6_height 10 = .ok (.iconst (-1), 1) := by decide +kernel
theorem dX6_height_11 : decode cX6_height 11 = .ok (.ireturn, 1) := by decide +kernel
theorem dX6_height_12 : decode cX6_height 12 = .ok (.aload_n 0, 1) := by decide +kernel
theorem dX6_height_13 : decode cX6_height 13 = .ok (.invokevirtual 142, 3) := by decide +kernel
theorem dX6_height_16 : decode cX6_height 16 = .ok (.bipush (-4), 2) := by decide +kernel
theorem dX6_height_18 : decode cX6_height 18 = .ok (.istore_n 2, 1) := by decide +kernel
theorem dX6_height_19 : decode cX6_height 19 = .ok (.bipush (-4), 2) := by decide +kernel
theorem dX6_height_21 : decode cX6_height 21 = .ok (.istore_n 3, 1) := by decide +kernel
theorem dX6_height_22 : decode cX6_height 22 = .ok (.iconst 0, 1) := by decide +kernel
theorem dX6_height_23 : decode cX6_height 23 = .ok (.istore 4, 2) := by decide +kernel
theorem dX6_height_25 : decode cX6_height 25 = .ok (.iload 4, 2) := by decide +kernel
theorem dX6_height_27 : decode cX6_height 27 = .ok (.bipush 61, 2) := by decide +kernel
theorem dX6_height_29 : decode cX6_height 29 = .ok (.if_icmp .ge 77, 3) := by decide +kernel
theorem dX6_height_32 : decode cX6_height 32 = .ok (.aload_n 0, 1) := by decide +kernel
theorem dX6_height_33 : decode cX6_height 33 = .ok (.getfield 7, 3) := by decide +kernel
theorem dX6_height_36 : decode cX6_height 36 = .ok (.iconst 5, 1) := by decide +kernel
theorem dX6_height_37 : decode cX6_height 37 = .ok (.iload 4, 2) := by decide +kernel
theorem dX6_height_39 : decode cX6_height 39 = .ok (.iastore, 1) := by decide +kernel
theorem dX6_height_40 : decode cX6_height 40 = .ok (.aload_n 0, 1) := by decide +kernel
theorem dX6_height_41 : decode cX6_height 41 = .ok (.aload_n 0, 1) := by decide +kernel
theorem dX6_height_42 : decode cX6_height 42 = .ok (.invokevirtual 151, 3) := by decide +kernel
theorem dX6_height_45 : decode cX6_height 45 = .ok (.invokevirtual 148, 3) := by decide +kernel
theorem dX6_height_48 : decode cX6_height 48 = .ok (.istore 5, 2) := by decide +kernel
theorem dX6_height_50 : decode cX6_height 50 = .ok (.iload 5, 2) := by decide +kernel
theorem dX6_height_52 : decode cX6_height 52 = .ok (.bipush (-4), 2) := by decide +kernel
theorem dX6_height_54 : decode cX6_height 54 = .ok (.if_icmp .eq 19, 3) := by decide +kernel
theorem dX6_height_57 : decode cX6_height 57 = .ok (.iload_n 3, 1) := by decide +kernel
theorem dX6_height_58 : decode cX6_height 58 = .ok (.bipush (-4), 2) := by decide +kernel
theorem dX6_height_60 : decode cX6_height 60 = .ok (.if_icmp .eq 9, 3) := by decide +kernel
theorem dX6_height_63 : decode cX6_height 63 = .ok (.iload 5, 2) := by decide +kernel
theorem dX6_height_65 : decode cX6_height 65 = .ok (.iload_n 3, 1) := by decide +kernel
theorem dX6_height_66 : decode cX6_height 66 = .ok (.if_icmp .ge 7, 3) := by decide +kernel
theorem dX6_height_69 : decode cX6_height 69 = .ok (.iconst 1, 1) := by decide +kernel
theorem dX6_height_70 : decode cX6_height 70 = .ok (.goto 4, 3) := by decide +kernel
theorem dX6_height_73 : decode cX6_height 73 = .ok (.iconst 0, 1) := by decide +kernel
theorem dX6_height_74 : decode cX6_height 74 = .ok (.istore 6, 2) := by decide +kernel
theorem dX6_height_76 : decode cX6_height 76 = .ok (.iload 6, 2) := by decide +kernel
theorem dX6_height_78 : decode cX6_height 78 = .ok (.ifCond .eq 8, 3) := by decide +kernel
theorem dX6_height_81 : decode cX6_height 81 = .ok (.iload 4, 2) := by decide +kernel
theorem dX6_height_83 : decode cX6_height 83 = .ok (.goto 4, 3) := by decide +kernel
theorem dX6_height_86 : decode cX6_height 86 = .ok (.iload_n 2, 1) := by decide +kernel
theorem dX6_height_87 : decode cX6_height 87 = .ok (.istore_n 2, 1) := by decide +kernel
theorem dX6_height_88 : decode cX6_height 88 = .ok (.iload 6, 2) := by decide +kernel
theorem dX6_height_90 : decode cX6_height 90 = .ok (.ifCond .eq 8, 3) := by decide +kernel
theorem dX6_height_93 : decode cX6_height 93 = .ok (.iload 5, 2) := by decide +kernel
theorem dX6_height_95 : decode cX6_height 95 = .ok (.goto 4, 3) := by decide +kernel
theorem dX6_height_98 : decode cX6_height 98 = .ok (.iload_n 3, 1) := by decide +kernel
theorem dX6_height_99 : decode cX6_height 99 = .ok (.istore_n 3, 1) := by decide +kernel
theorem dX6_height_100 : decode cX6_height 100 = .ok (.iinc 4 1, 3) := by decide +kernel
theorem dX6_height_103 : decode cX6_height 103 = .ok (.goto (-78), 3) := by decide +kernel
theorem dX6_height_106 : decode cX6_height 106 = .ok (.iload_n 1, 1) := by decide +kernel
theorem dX6_height_107 : decode cX6_height 107 = .ok (.ifCond .ne 7, 3) := by decide +kernel
theorem dX6_height_110 : decode cX6_height 110 = .ok (.iload_n 2, 1) := by decide +kernel
theorem dX6_height_111 : decode cX6_height 111 = .ok (.goto 4, 3) := by decide +kernel
theorem dX6_height_114 : decode cX6_height 114 = .ok (.iload_n 3, 1) := by decide +kernel
theorem dX6_height_115 : decode cX6_height 115 = .ok (.ireturn, 1) := by decide +kernel
theorem dX6_pulls_0 : decode cX6_pulls 0 = .ok (.iload_n 1, 1) := by decide +kernel
theorem dX6_pulls_1 : decode cX6_pulls 1 = .ok (.i2l, 1) := by decide +kernel
theorem dX6_pulls_2 : decode cX6_pulls 2 = .ok (.lconst 0, 1) := by decide +kernel
theorem dX6_pulls_3 : decode cX6_pulls 3 = .ok (.lconst 1, 1) := by decide +kernel
theorem dX6_pulls_4 : decode cX6_pulls 4 = .ok (.invokestatic 51, 3) := by decide +kernel
theorem dX6_pulls_7 : decode cX6_pulls 7 = .ok (.ifCond .ne 5, 3) := by decide +kernel
theorem dX6_pulls_10 : decode cX6_pulls 10 = .ok (.iconst (-1), 1) := by decide +kernel
theorem dX6_pulls_11 : decode cX6_pulls 11 = .ok (.ireturn, 1) := by decide +kernel
theorem dX6_pulls_12 : decode cX6_pulls 12 = .ok (.aload_n 0, 1) := by decide +kernel
theorem dX6_pulls_13 : decode cX6_pulls 13 = .ok (.invokevirtual 142, 3) := by decide +kernel
theorem dX6_pulls_16 : decode cX6_pulls 16 = .ok (.bipush (-4), 2) := by decide +kernel
theorem dX6_pulls_18 : decode cX6_pulls 18 = .ok (.istore_n 2, 1) := by decide +kernel
theorem dX6_pulls_19 : decode cX6_pulls 19 = .ok (.bipush (-4), 2) := by decide +kernel
theorem dX6_pulls_21 : decode cX6_pulls 21 = .ok (.istore_n 3, 1) := by decide +kernel
theorem dX6_pulls_22 : decode cX6_pulls 22 = .ok (.iconst (-1), 1) := by decide +kernel
theorem dX6_pulls_23 : decode cX6_pulls 23 = .ok (.istore 4, 2) := by decide +kernel
theorem dX6_pulls_25 : decode cX6_pulls 25 = .ok (.iload 4, 2) := by decide +kernel
theorem dX6_pulls_27 : decode cX6_pulls 27 = .ok (.aload_n 0, 1) := by decide +kernel
theorem dX6_pulls_28 : decode cX6_pulls 28 = .ok (.getfield 23, 3) := by decide +kernel
theorem dX6_pulls_31 : decode cX6_pulls 31 = .ok (.bipush 12, 2) := by decide +kernel
theorem dX6_pulls_33 : decode cX6_pulls 33 = .ok (.iaload, 1) := by decide +kernel
theorem dX6_pulls_34 : decode cX6_pulls 34 = .ok (.if_icmp .ge 98, 3) := by decide +kernel
theorem dX6_pulls_37 : decode cX6_pulls 37 = .ok (.aload_n 0, 1) := by decide +kernel
theorem dX6_pulls_38 : decode cX6_pulls 38 = .ok (.getfield 7, 3) := by decide +kernel
theorem dX6_pulls_41 : decode cX6_pulls 41 = .ok (.bipush 10, 2) := by decide +kernel
theorem dX6_pulls_43 : decode cX6_pulls 43 = .ok (.iload 4, 2) := by decide +kernel
theorem dX6_pulls_45 : decode cX6_pulls 45 = .ok (.ifCond .ge 8, 3) := by decide +kernel
theorem dX6_pulls_48 : decode cX6_pulls 48 = .ok (.bipush (-4), 2) := by decide +kernel
theorem dX6_pulls_50 : decode cX6_pulls 50 = .ok (.goto 5, 3) := by decide +kernel
theorem dX6_pulls_53 : decode cX6_pulls 53 = .ok (.iload 4, 2) := by decide +kernel
theorem dX6_pulls_55 : decode cX6_pulls 55 = .ok (.iastore, 1) := by decide +kernel
theorem dX6_pulls_56 : decode cX6_pulls 56 = .ok (.aload_n 0, 1) := by decide +kernel
theorem dX6_pulls_57 : decode cX6_pulls 57 = .ok (.aload_n 0, 1) := by decide +kernel
theorem dX6_pulls_58 : decode cX6_pulls 58 = .ok (.invokevirtual 151, 3) := by decide +kernel
theorem dX6_pulls_61 : decode cX6_pulls 61 = .ok (.invokevirtual 148, 3) := by decide +kernel
theorem dX6_pulls_64 : decode cX6_pulls 64 = .ok (.istore 5, 2) := by decide +kernel
theorem dX6_pulls_66 : decode cX6_pulls 66 = .ok (.iload 5, 2) := by decide +kernel
theorem dX6_pulls_68 : decode cX6_pulls 68 = .ok (.bipush (-4), 2) := by decide +kernel
theorem dX6_pulls_70 : decode cX6_pulls 70 = .ok (.if_icmp .eq 19, 3) := by decide +kernel
theorem dX6_pulls_73 : decode cX6_pulls 73 = .ok (.iload_n 3, 1) := by decide +kernel
theorem dX6_pulls_74 : decode cX6_pulls 74 = .ok (.bipush (-4), 2) := by decide +kernel
theorem dX6_pulls_76 : decode cX6_pulls 76 = .ok (.if_icmp .eq 9, 3) := by decide +kernel
theorem dX6_pulls_79 : decode cX6_pulls 79 = .ok (.iload 5, 2) := by decide +kernel
theorem dX6_pulls_81 : decode cX6_pulls 81 = .ok (.iload_n 3, 1) := by decide +kernel
theorem dX6_pulls_82 : decode cX6_pulls 82 = .ok (.if_icmp .ge 7, 3) := by decide +kernel
theorem dX6_pulls_85 : decode cX6_pulls 85 = .ok (.iconst 1, 1) := by decide +kernel
theorem dX6_pulls_86 : decode cX6_pulls 86 = .ok (.goto 4, 3) := by decide +kernel
theorem dX6_pulls_89 : decode cX6_pulls 89 = .ok (.iconst 0, 1) := by decide +kernel
theorem dX6_pulls_90 : decode cX6_pulls 90 = .ok (.istore 6, 2) := by decide +kernel
theorem dX6_pulls_92 : decode cX6_pulls 92 = .ok (.iload 6, 2) := by decide +kernel
theorem dX6_pulls_94 : decode cX6_pulls 94 = .ok (.ifCond .eq 18, 3) := by decide +kernel
theorem dX6_pulls_97 : decode cX6_pulls 97 = .ok (.iload 4, 2) := by decide +kernel
theorem dX6_pulls_99 : decode cX6_pulls 99 = .ok (.ifCond .ge 8, 3) := by decide +kernel
theorem dX6_pulls_102 : decode cX6_pulls 102 = .ok (.bipush 7, 2) := by decide +kernel
theorem dX6_pulls_104 : decode cX6_pulls 104 = .ok (.goto 9, 3) := by decide +kernel
theorem dX6_pulls_107 : decode cX6_pulls 107 = .ok (.iload 4, 2) := by decide +kernel
theorem dX6_pulls_109 : decode cX6_pulls 109 = .ok (.goto 4, 3) := by decide +kernel
theorem dX6_pulls_112 : decode cX6_pulls 112 = .ok (.iload_n 2, 1) := by decide +kernel
theorem dX6_pulls_113 : decode cX6_pulls 113 = .ok (.istore_n 2, 1) := by decide +kernel
theorem dX6_pulls_114 : decode cX6_pulls 114 = .ok (.iload 6, 2) := by decide +kernel
theorem dX6_pulls_116 : decode cX6_pulls 116 = .ok (.ifCond .eq 8, 3) := by decide +kernel
theorem dX6_pulls_119 : decode cX6_pulls 119 = .ok (.iload 5, 2) := by decide +kernel
theorem dX6_pulls_121 : decode cX6_pulls 121 = .ok (.goto 4, 3) := by decide +kernel
theorem dX6_pulls_124 : decode cX6_pulls 124 = .ok (.iload_n 3, 1) := by decide +kernel
theorem dX6_pulls_125 : decode cX6_pulls 125 = .ok (.istore_n 3, 1) := by decide +kernel
theorem dX6_pulls_126 : decode cX6_pulls 126 = .ok (.iinc 4 1, 3) := by decide +kernel
theorem dX6_pulls_129 : decode cX6_pulls 129 = .ok (.goto (-104), 3) := by decide +kernel
theorem dX6_pulls_132 : decode cX6_pulls 132 = .ok (.iload_n 1, 1) := by decide +kernel
theorem dX6_pulls_133 : decode cX6_pulls 133 = .ok (.ifCond .ne 7, 3) := by decide +kernel
theorem dX6_pulls_136 : decode cX6_pulls 136 = .ok (.iload_n 2, 1) := by decide +kernel
theorem dX6_pulls_137 : decode cX6_pulls 137 = .ok (.goto 4, 3) := by decide +kernel
theorem dX6_pulls_140 : decode cX6_pulls 140 = .ok (.iload_n 3, 1) := by decide +kernel
theorem dX6_pulls_141 : decode cX6_pulls 141 = .ok (.ireturn, 1) := by decide +kernel
theorem dX6_waitsOf_0 : decode cX6_waitsOf 0 = .ok (.aload_n 0, 1) := by decide +kernel
theorem dX6_waitsOf_1 : decode cX6_waitsOf 1 = .ok (.invokevirtual 142, 3) := by decide +kernel
theorem dX6_waitsOf_4 : decode cX6_waitsOf 4 = .ok (.aload_n 0, 1) := by decide +kernel
theorem dX6_waitsOf_5 : decode cX6_waitsOf 5 = .ok (.getfield 7, 3) := by decide +kernel
theorem dX6_waitsOf_8 : decode cX6_waitsOf 8 = .ok (.bipush 6, 2) := by decide +kernel
theorem dX6_waitsOf_10 : decode cX6_waitsOf 10 = .ok (.iload_n 2, 1) := by decide +kernel
theorem dX6_waitsOf_11 : decode cX6_waitsOf 11 = .ok (.iastore, 1) := by decide +kernel
theorem dX6_waitsOf_12 : decode cX6_waitsOf 12 = .ok (.aload_n 0, 1) := by decide +kernel
theorem dX6_waitsOf_13 : decode cX6_waitsOf 13 = .ok (.iconst 0, 1) := by decide +kernel
theorem dX6_waitsOf_14 : decode cX6_waitsOf 14 = .ok (.invokevirtual 148, 3) := by decide +kernel
theorem dX6_waitsOf_17 : decode cX6_waitsOf 17 = .ok (.pop, 1) := by decide +kernel
theorem dX6_waitsOf_18 : decode cX6_waitsOf 18 = .ok (.iconst 0, 1) := by decide +kernel
theorem dX6_waitsOf_19 : decode cX6_waitsOf 19 = .ok (.istore_n 3, 1) := by decide +kernel
theorem dX6_waitsOf_20 : decode cX6_waitsOf 20 = .ok (.iconst 0, 1) := by decide +kernel
theorem dX6_waitsOf_21 : decode cX6_waitsOf 21 = .ok (.istore 4, 2) := by decide +kernel
theorem dX6_waitsOf_23 : decode cX6_waitsOf 23 = .ok (.iload 4, 2) := by decide +kernel
theorem dX6_waitsOf_25 : decode cX6_waitsOf 25 = .ok (.aload_n 0, 1) := by decide +kernel
theorem dX6_waitsOf_26 : decode cX6_waitsOf 26 = .ok (.getfield 7, 3) := by decide +kernel
theorem dX6_waitsOf_29 : decode cX6_waitsOf 29 = .ok (.bipush 12, 2) := by decide +kernel
theorem dX6_waitsOf_31 : decode cX6_waitsOf 31 = .ok (.iaload, 1) := by decide +kernel
theorem dX6_waitsOf_32 : decode cX6_waitsOf 32 = .ok (.if_icmp .ge 76, 3) := by decide +kernel
theorem dX6_waitsOf_35 : decode cX6_waitsOf 35 = .ok (.aload_n 0, 1) := by decide +kernel
theorem dX6_waitsOf_36 : decode cX6_waitsOf 36 = .ok (.iload 4, 2) := by decide +kernel
theorem dX6_waitsOf_38 : decode cX6_waitsOf 38 = .ok (.iconst 2, 1) := by decide +kernel
theorem dX6_waitsOf_39 : decode cX6_waitsOf 39 = .ok (.invokevirtual 55, 3) := by decide +kernel
theorem dX6_waitsOf_42 : decode cX6_waitsOf 42 = .ok (.iload_n 1, 1) := by decide +kernel
theorem dX6_waitsOf_43 : decode cX6_waitsOf 43 = .ok (.if_icmp .ne 19, 3) := by decide +kernel
theorem dX6_waitsOf_46 : decode cX6_waitsOf 46 = .ok (.iload 4, 2) := by decide +kernel
theorem dX6_waitsOf_48 : decode cX6_waitsOf 48 = .ok (.aload_n 0, 1) := by decide +kernel
theorem dX6_waitsOf_49 : decode cX6_waitsOf 49 = .ok (.getfield 7, 3) := by decide +kernel
theorem dX6_waitsOf_52 : decode cX6_waitsOf 52 = .ok (.bipush 10, 2) := by decide +kernel
theorem dX6_waitsOf_54 : decode cX6_waitsOf 54 = .ok (.iaload, 1) := by decide +kernel
theorem dX6_waitsOf_55 : decode cX6_waitsOf 55 = .ok (.if_icmp .eq 7, 3) := by decide +kernel
theorem dX6_waitsOf_58 : decode cX6_waitsOf 58 = .ok (.iconst 1, 1) := by decide +kernel
theorem dX6_waitsOf_59 : decode cX6_waitsOf 59 = .ok (.goto 4, 3) := by decide +kernel
theorem dX6_waitsOf_62 : decode cX6_waitsOf 62 = .ok (.iconst 0, 1) := by decide +kernel
theorem dX6_waitsOf_63 : decode cX6_waitsOf 63 = .ok (.istore 5, 2) := by decide +kernel
theorem dX6_waitsOf_65 : decode cX6_waitsOf 65 = .ok (.iload_n 3, 1) := by decide +kernel
theorem dX6_waitsOf_66 : decode cX6_waitsOf 66 = .ok (.iload 5, 2) := by decide +kernel
theorem dX6_waitsOf_68 : decode cX6_waitsOf 68 = .ok (.ifCond .ne 7, 3) := by decide +kernel
theorem dX6_waitsOf_71 : decode cX6_waitsOf 71 = .ok (.iconst 0, 1) := by decide +kernel
theorem dX6_waitsOf_72 : decode cX6_waitsOf 72 = .ok (.goto 28, 3) := by decide +kernel
theorem dX6_waitsOf_75 : decode cX6_waitsOf 75 = .ok (.aload_n 0, 1) := by decide +kernel
theorem dX6_waitsOf_76 : decode cX6_waitsOf 76 = .ok (.getfield 26, 3) := by decide +kernel
theorem dX6_waitsOf_79 : decode cX6_waitsOf 79 = .ok (.iload 4, 2) := by decide +kernel
theorem dX6_waitsOf_81 : decode cX6_waitsOf 81 = .ok (.iaload, 1) := by decide +kernel
theorem dX6_waitsOf_82 : decode cX6_waitsOf 82 = .ok (.bipush (-4), 2) := by decide +kernel
theorem dX6_waitsOf_84 : decode cX6_waitsOf 84 = .ok (.if_icmp .ne 9, 3) := by decide +kernel
theorem dX6_waitsOf_87 : decode cX6_waitsOf 87 = .ok (.sipush 240, 3) := by decide +kernel
theorem dX6_waitsOf_90 : decode cX6_waitsOf 90 = .ok (.goto 10, 3) := by decide +kernel
theorem dX6_waitsOf_93 : decode cX6_waitsOf 93 = .ok (.aload_n 0, 1) := by decide +kernel
theorem dX6_waitsOf_94 : decode cX6_waitsOf 94 = .ok (.getfield 26, 3) := by decide +kernel
theorem dX6_waitsOf_97 : decode cX6_waitsOf 97 = .ok (.iload 4, 2) := by decide +kernel
theorem dX6_waitsOf_99 : decode cX6_waitsOf 99 = .ok (.iaload, 1) := by decide +kernel
theorem dX6_waitsOf_100 : decode cX6_waitsOf 100 = .ok (.iadd, 1) := by decide +kernel
theorem dX6_waitsOf_101 : decode cX6_waitsOf 101 = .ok (.istore_n 3, 1) := by decide +kernel
theorem dX6_waitsOf_102 : decode cX6_waitsOf 102 = .ok (.iinc 4 1, 3) := by decide +kernel
theorem dX6_waitsOf_105 : decode cX6_waitsOf 105 = .ok (.goto (-82), 3) := by decide +kernel
theorem dX6_waitsOf_108 : decode cX6_waitsOf 108 = .ok (.iload_n 3, 1) := by decide +kernel
theorem dX6_waitsOf_109 : decode cX6_waitsOf 109 = .ok (.ireturn, 1) := by decide +kernel
theorem dX6_waits_0 : decode cX6_waits 0 = .ok (.iload_n 1, 1) := by decide +kernel
theorem dX6_waits_1 : decode cX6_waits 1 = .ok (.i2l, 1) := by decide +kernel
theorem dX6_waits_2 : decode cX6_waits 2 = .ok (.lconst 0, 1) := by decide +kernel
theorem dX6_waits_3 : decode cX6_waits 3 = .ok (.lconst 1, 1) := by decide +kernel
theorem dX6_waits_4 : decode cX6_waits 4 = .ok (.invokestatic 51, 3) := by decide +kernel
theorem dX6_waits_7 : decode cX6_waits 7 = .ok (.ifCond .eq 24, 3) := by decide +kernel
theorem dX6_waits_10 : decode cX6_waits 10 = .ok (.iload_n 2, 1) := by decide +kernel
theorem dX6_waits_11 : decode cX6_waits 11 = .ok (.i2l, 1) := by decide +kernel
theorem dX6_waits_12 : decode cX6_waits 12 = .ok (.lconst 0, 1) := by decide +kernel
theorem dX6_waits_13 : decode cX6_waits 13 = .ok (.ldc2_w 70, 3) := by decide +kernel
theorem dX6_waits_16 : decode cX6_waits 16 = .ok (.invokestatic 51, 3) := by decide +kernel
theorem dX6_waits_19 : decode cX6_waits 19 = .ok (.ifCond .eq 12, 3) := by decide +kernel
theorem dX6_waits_22 : decode cX6_waits 22 = .ok (.aload_n 0, 1) := by decide +kernel
theorem dX6_waits_23 : decode cX6_waits 23 = .ok (.iload_n 1, 1) := by decide +kernel
theorem dX6_waits_24 : decode cX6_waits 24 = .ok (.iload_n 2, 1) := by decide +kernel
theorem dX6_waits_25 : decode cX6_waits 25 = .ok (.invokevirtual 154, 3) := by decide +kernel
theorem dX6_waits_28 : decode cX6_waits 28 = .ok (.goto 4, 3) := by decide +kernel
theorem dX6_waits_31 : decode cX6_waits 31 = .ok (.iconst (-1), 1) := by decide +kernel
theorem dX6_waits_32 : decode cX6_waits 32 = .ok (.ireturn, 1) := by decide +kernel
theorem dX6_lawBy_0 : decode cX6_lawBy 0 = .ok (.iconst 0, 1) := by decide +kernel
theorem dX6_lawBy_1 : decode cX6_lawBy 1 = .ok (.istore_n 3, 1) := by decide +kernel
theorem dX6_lawBy_2 : decode cX6_lawBy 2 = .ok (.iconst (-1), 1) := by decide +kernel
theorem dX6_lawBy_3 : decode cX6_lawBy 3 = .ok (.istore 4, 2) := by decide +kernel
theorem dX6_lawBy_5 : decode cX6_lawBy 5 = .ok (.iconst 0, 1) := by decide +kernel
theorem dX6_lawBy_6 : decode cX6_lawBy 6 = .ok (.istore 5, 2) := by decide +kernel
theorem dX6_lawBy_8 : decode cX6_lawBy 8 = .ok (.iload 5, 2) := by decide +kernel
theorem dX6_lawBy_10 : decode cX6_lawBy 10 = .ok (.iconst 4, 1) := by decide +kernel
theorem dX6_lawBy_11 : decode cX6_lawBy 11 = .ok (.if_icmp .ge 100, 3) := by decide +kernel
theorem dX6_lawBy_14 : decode cX6_lawBy 14 = .ok (.aload_n 0, 1) := by decide +kernel
theorem dX6_lawBy_15 : decode cX6_lawBy 15 = .ok (.iconst 0, 1) := by decide +kernel
theorem dX6_lawBy_16 : decode cX6_lawBy 16 = .ok (.iload 5, 2) := by decide +kernel
theorem dX6_lawBy_18 : decode cX6_lawBy 18 = .ok (.invokevirtual 154, 3) := by decide +kernel
theorem dX6_lawBy_21 : decode cX6_lawBy 21 = .ok (.istore 6, 2) := by decide +kernel
theorem dX6_lawBy_23 : decode cX6_lawBy 23 = .ok (.aload_n 0, 1) := by decide +kernel
theorem dX6_lawBy_24 : decode cX6_lawBy 24 = .ok (.iconst 1, 1) := by decide +kernel
theorem dX6_lawBy_25 : decode cX6_lawBy 25 = .ok (.iload 5, 2) := by decide +kernel
theorem dX6_lawBy_27 : decode cX6_lawBy 27 = .ok (.invokevirtual 154, 3) := by decide +kernel
theorem dX6_lawBy_30 : decode cX6_lawBy 30 = .ok (.istore 7, 2) := by decide +kernel
theorem dX6_lawBy_32 : decode cX6_lawBy 32 = .ok (.iload_n 2, 1) := by decide +kernel
theorem dX6_lawBy_33 : decode cX6_lawBy 33 = .ok (.ifCond .eq 20, 3) := by decide +kernel
theorem dX6_lawBy_36 : decode cX6_lawBy 36 = .ok (.iload 6, 2) := by decide +kernel
theorem dX6_lawBy_38 : decode cX6_lawBy 38 = .ok (.iload 7, 2) := by decide +kernel
theorem dX6_lawBy_40 : decode cX6_lawBy 40 = .ok (.if_icmp .le 8, 3) := by decide +kernel
theorem dX6_lawBy_43 : decode cX6_lawBy 43 = .ok (.iload 6, 2) := by decide +kernel
theorem dX6_lawBy_45 : decode cX6_lawBy 45 = .ok (.goto 13, 3) := by decide +kernel
theorem dX6_lawBy_48 : decode cX6_lawBy 48 = .ok (.iload 7, 2) := by decide +kernel
theorem dX6_lawBy_50 : decode cX6_lawBy 50 = .ok (.goto 8, 3) := by decide +kernel
theorem dX6_lawBy_53 : decode cX6_lawBy 53 = .ok (.iload 6, 2) := by decide +kernel
theorem dX6_lawBy_55 : decode cX6_lawBy 55 = .ok (.iload 7, 2) := by decide +kernel
theorem dX6_lawBy_57 : decode cX6_lawBy 57 = .ok (.iadd, 1) := by decide +kernel
theorem dX6_lawBy_58 : decode cX6_lawBy 58 = .ok (.istore 8, 2) := by decide +kernel
theorem dX6_lawBy_60 : decode cX6_lawBy 60 = .ok (.iload 4, 2) := by decide +kernel
theorem dX6_lawBy_62 : decode cX6_lawBy 62 = .ok (.ifCond .lt 10, 3) := by decide +kernel
theorem dX6_lawBy_65 : decode cX6_lawBy 65 = .ok (.iload 8, 2) := by decide +kernel
theorem dX6_lawBy_67 : decode cX6_lawBy 67 = .ok (.iload 4, 2) := by decide +kernel
theorem dX6_lawBy_69 : decode cX6_lawBy 69 = .ok (.if_icmp .ge 7, 3) := by decide +kernel
theorem dX6_lawBy_72 : decode cX6_lawBy 72 = .ok (.iconst 1, 1) := by decide +kernel
theorem dX6_lawBy_73 : decode cX6_lawBy 73 = .ok (.goto 4, 3) := by decide +kernel
theorem dX6_lawBy_76 : decode cX6_lawBy 76 = .ok (.iconst 0, 1) := by decide +kernel
theorem dX6_lawBy_77 : decode cX6_lawBy 77 = .ok (.istore 9, 2) := by decide +kernel
