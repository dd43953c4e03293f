set_option maxRecDepth 20000 in
theorem dX7_init_0 : decode cX7_init 0 = .ok (.aload_n 0, 1) := by decide +kernel
set_option maxRecDepth 20000 in
theorem dX7_init_1 : decode cX7_init 1 = .ok (.invokespecial 1, 3) := by decide +kernel
set_option maxRecDepth 20000 in
theorem dX7_init_4 : decode cX7_init 4 = .ok (.aload_n 0, 1) := by decide +kernel
set_option maxRecDepth 20000 in
theorem dX7_init_5 : decode cX7_init 5 = .ok (.bipush 6, 2) := by decide +kernel
set_option maxRecDepth 20000 in
theorem dX7_init_7 : decode cX7_init 7 = .ok (.anewarray 9, 3) := by decide +kernel
set_option maxRecDepth 20000 in
theorem dX7_init_10 : decode cX7_init 10 = .ok (.putfield 11, 3) := by decide +kernel
set_option maxRecDepth 20000 in
theorem dX7_init_13 : decode cX7_init 13 = .ok (.aload_n 0, 1) := by decide +kernel
set_option maxRecDepth 20000 in
theorem dX7_init_14 : decode cX7_init 14 = .ok (.iconst 4, 1) := by decide +kernel
set_option maxRecDepth 20000 in
theorem dX7_init_15 : decode cX7_init 15 = .ok (.anewarray 15, 3) := by decide +kernel
set_option maxRecDepth 20000 in
theorem dX7_init_18 : decode cX7_init 18 = .ok (.putfield 17, 3) := by decide +kernel
set_option maxRecDepth 20000 in
theorem dX7_init_21 : decode cX7_init 21 = .ok (.aload_n 0, 1) := by decide +kernel
set_option maxRecDepth 20000 in
theorem dX7_init_22 : decode cX7_init 22 = .ok (.new 21, 3) := by decide +kernel
set_option maxRecDepth 20000 in
theorem dX7_init_25 : decode cX7_init 25 = .ok (.dup, 1) := by decide +kernel
set_option maxRecDepth 20000 in
theorem dX7_init_26 : decode cX7_init 26 = .ok (.invokespecial 23, 3) := by decide +kernel
set_option maxRecDepth 20000 in
theorem dX7_init_29 : decode cX7_init 29 = .ok (.putfield 24, 3) := by decide +kernel
set_option maxRecDepth 20000 in
theorem dX7_init_32 : decode cX7_init 32 = .ok (.aload_n 0, 1) := by decide +kernel
set_option maxRecDepth 20000 in
theorem dX7_init_33 : decode cX7_init 33 = .ok (.new 28, 3) := by decide +kernel
set_option maxRecDepth 20000 in
theorem dX7_init_36 : decode cX7_init 36 = .ok (.dup, 1) := by decide +kernel
set_option maxRecDepth 20000 in
theorem dX7_init_37 : decode cX7_init 37 = .ok (.invokespecial 30, 3) := by decide +kernel
set_option maxRecDepth 20000 in
theorem dX7_init_40 : decode cX7_init 40 = .ok (.putfield 31, 3) := by decide +kernel
set_option maxRecDepth 20000 in
theorem dX7_init_43 : decode cX7_init 43 = .ok (.aload_n 0, 1) := by decide +kernel
set_option maxRecDepth 20000 in
theorem dX7_init_44 : decode cX7_init 44 = .ok (.iconst 3, 1) := by decide +kernel
set_option maxRecDepth 20000 in
theorem dX7_init_45 : decode cX7_init 45 = .ok (.anewarray 21, 3) := by decide +kernel
set_option maxRecDepth 20000 in
theorem dX7_init_48 : decode cX7_init 48 = .ok (.putfield 35, 3) := by decide +kernel
set_option maxRecDepth 20000 in
theorem dX7_init_51 : decode cX7_init 51 = .ok (.aload_n 0, 1) := by decide +kernel
set_option maxRecDepth 20000 in
theorem dX7_init_52 : decode cX7_init 52 = .ok (.iconst 3, 1) := by decide +kernel
set_option maxRecDepth 20000 in
theorem dX7_init_53 : decode cX7_init 53 = .ok (.anewarray 28, 3) := by decide +kernel
set_option maxRecDepth 20000 in
theorem dX7_init_56 : decode cX7_init 56 = .ok (.putfield 39, 3) := by decide +kernel
set_option maxRecDepth 20000 in
theorem dX7_init_59 : decode cX7_init 59 = .ok (.aload_n 0, 1) := by decide +kernel
set_option maxRecDepth 20000 in
theorem dX7_init_60 : decode cX7_init 60 = .ok (.new 21, 3) := by decide +kernel
set_option maxRecDepth 20000 in
theorem dX7_init_63 : decode cX7_init 63 = .ok (.dup, 1) := by decide +kernel
set_option maxRecDepth 20000 in
theorem dX7_init_64 : decode cX7_init 64 = .ok (.invokespecial 23, 3) := by decide +kernel
set_option maxRecDepth 20000 in
theorem dX7_init_67 : decode cX7_init 67 = .ok (.putfield 43, 3) := by decide +kernel
set_option maxRecDepth 20000 in
theorem dX7_init_70 : decode cX7_init 70 = .ok (.aload_n 0, 1) := by decide +kernel
set_option maxRecDepth 20000 in
theorem dX7_init_71 : decode cX7_init 71 = .ok (.new 46, 3) := by decide +kernel
set_option maxRecDepth 20000 in
theorem dX7_init_74 : decode cX7_init 74 = .ok (.dup, 1) := by decide +kernel
set_option maxRecDepth 20000 in
theorem dX7_init_75 : decode cX7_init 75 = .ok (.invokespecial 48, 3) := by decide +kernel
set_option maxRecDepth 20000 in
theorem dX7_init_78 : decode cX7_init 78 = .ok (.putfield 49, 3) := by decide +kernel
set_option maxRecDepth 20000 in
theorem dX7_init_81 : decode cX7_init 81 = .ok (.aload_n 0, 1) := by decide +kernel
set_option maxRecDepth 20000 in
theorem dX7_init_82 : decode cX7_init 82 = .ok (.new 53, 3) := by decide +kernel
set_option maxRecDepth 20000 in
theorem dX7_init_85 : decode cX7_init 85 = .ok (.dup, 1) := by decide +kernel
set_option maxRecDepth 20000 in
theorem dX7_init_86 : decode cX7_init 86 = .ok (.invokespecial 55, 3) := by decide +kernel
set_option maxRecDepth 20000 in
theorem dX7_init_89 : decode cX7_init 89 = .ok (.putfield 56, 3) := by decide +kernel
set_option maxRecDepth 20000 in
theorem dX7_init_92 : decode cX7_init 92 = .ok (.aload_n 0, 1) := by decide +kernel
set_option maxRecDepth 20000 in
theorem dX7_init_93 : decode cX7_init 93 = .ok (.bipush 8, 2) := by decide +kernel
set_option maxRecDepth 20000 in
theorem dX7_init_95 : decode cX7_init 95 = .ok (.bipush 96, 2) := by decide +kernel
set_option maxRecDepth 20000 in
theorem dX7_init_97 : decode cX7_init 97 = .ok (.multianewarray 60 2, 4) := by decide +kernel
set_option maxRecDepth 20000 in
theorem dX7_init_101 : decode cX7_init 101 = .ok (.putfield 62, 3) := by decide +kernel
set_option maxRecDepth 20000 in
theorem dX7_init_104 : decode cX7_init 104 = .ok (.aload_n 0, 1) := by decide +kernel
set_option maxRecDepth 20000 in
theorem dX7_init_105 : decode cX7_init 105 = .ok (.bipush 6, 2) := by decide +kernel
set_option maxRecDepth 20000 in
theorem dX7_init_107 : decode cX7_init 107 = .ok (.newarray .int, 2) := by decide +kernel
set_option maxRecDepth 20000 in
theorem dX7_init_109 : decode cX7_init 109 = .ok (.putfield 65, 3) := by decide +kernel
set_option maxRecDepth 20000 in
theorem dX7_init_112 : decode cX7_init 112 = .ok (.aload_n 0, 1) := by decide +kernel
set_option maxRecDepth 20000 in
theorem dX7_init_113 : decode cX7_init 113 = .ok (.iconst 0, 1) := by decide +kernel
set_option maxRecDepth 20000 in
theorem dX7_init_114 : decode cX7_init 114 = .ok (.putfield 69, 3) := by decide +kernel
set_option maxRecDepth 20000 in
theorem dX7_init_117 : decode cX7_init 117 = .ok (.aload_n 0, 1) := by decide +kernel
set_option maxRecDepth 20000 in
theorem dX7_init_118 : decode cX7_init 118 = .ok (.iconst 0, 1) := by decide +kernel
set_option maxRecDepth 20000 in
theorem dX7_init_119 : decode cX7_init 119 = .ok (.putfield 73, 3) := by decide +kernel
set_option maxRecDepth 20000 in
theorem dX7_init_122 : decode cX7_init 122 = .ok (.aload_n 0, 1) := by decide +kernel
set_option maxRecDepth 20000 in
theorem dX7_init_123 : decode cX7_init 123 = .ok (.lconst 0, 1) := by decide +kernel
set_option maxRecDepth 20000 in
theorem dX7_init_124 : decode cX7_init 124 = .ok (.putfield 76, 3) := by decide +kernel
set_option maxRecDepth 20000 in
theorem dX7_init_127 : decode cX7_init 127 = .ok (.aload_n 0, 1) := by decide +kernel
set_option maxRecDepth 20000 in
theorem dX7_init_128 : decode cX7_init 128 = .ok (.lconst 1, 1) := by decide +kernel
set_option maxRecDepth 20000 in
theorem dX7_init_129 : decode cX7_init 129 = .ok (.putfield 80, 3) := by decide +kernel
set_option maxRecDepth 20000 in
theorem dX7_init_132 : decode cX7_init 132 = .ok (.iconst 0, 1) := by decide +kernel
set_option maxRecDepth 20000 in
theorem dX7_init_133 : decode cX7_init 133 = .ok (.istore_n 1, 1) := by decide +kernel
set_option maxRecDepth 20000 in
theorem dX7_init_134 : decode cX7_init 134 = .ok (.iload_n 1, 1) := by decide +kernel
set_option maxRecDepth 20000 in
theorem dX7_init_135 : decode cX7_init 135 = .ok (.bipush 6, 2) := by decide +kernel
set_option maxRecDepth 20000 in
theorem dX7_init_137 : decode cX7_init 137 = .ok (.if_icmp .ge 22, 3) := by decide +kernel
set_option maxRecDepth 20000 in
theorem dX7_init_140 : decode cX7_init 140 = .ok (.aload_n 0, 1) := by decide +kernel
set_option maxRecDepth 20000 in
theorem dX7_init_141 : decode cX7_init 141 = .ok (.getfield 11, 3) := by decide +kernel
set_option maxRecDepth 20000 in
theorem dX7_init_144 : decode cX7_init 144 = .ok (.iload_n 1, 1) := by decide +kernel
set_option maxRecDepth 20000 in
theorem dX7_init_145 : decode cX7_init 145 = .ok (.new 9, 3) := by decide +kernel
set_option maxRecDepth 20000 in
theorem dX7_init_148 : decode cX7_init 148 = .ok (.dup, 1) := by decide +kernel
set_option maxRecDepth 20000 in
theorem dX7_init_149 : decode cX7_init 149 = .ok (.invokespecial 83, 3) := by decide +kernel
set_option maxRecDepth 20000 in
theorem dX7_init_152 : decode cX7_init 152 = .ok (.aastore, 1) := by decide +kernel
set_option maxRecDepth 20000 in
theorem dX7_init_153 : decode cX7_init 153 = .ok (.iinc 1 1, 3) := by decide +kernel
set_option maxRecDepth 20000 in
theorem dX7_init_156 : decode cX7_init 156 = .ok (.goto (-22), 3) := by decide +kernel
set_option maxRecDepth 20000 in
theorem dX7_init_159 : decode cX7_init 159 = .ok (.iconst 0, 1) := by decide +kernel
set_option maxRecDepth 20000 in
theorem dX7_init_160 : decode cX7_init 160 = .ok (.istore_n 1, 1) := by decide +kernel
set_option maxRecDepth 20000 in
theorem dX7_init_161 : decode cX7_init 161 = .ok (.iload_n 1, 1) := by decide +kernel
set_option maxRecDepth 20000 in
theorem dX7_init_162 : decode cX7_init 162 = .ok (.iconst 4, 1) := by decide +kernel
set_option maxRecDepth 20000 in
theorem dX7_init_163 : decode cX7_init 163 = .ok (.if_icmp .ge 22, 3) := by decide +kernel
set_option maxRecDepth 20000 in
theorem dX7_init_166 : decode cX7_init 166 = .ok (.aload_n 0, 1) := by decide +kernel
set_option maxRecDepth 20000 in
theorem dX7_init_167 : decode cX7_init 167 = .ok (.getfield 17, 3) := by decide +kernel
set_option maxRecDepth 20000 in
theorem dX7_init_170 : decode cX7_init 170 = .ok (.iload_n 1, 1) := by decide +kernel
set_option maxRecDepth 20000 in
theorem dX7_init_171 : decode cX7_init 171 = .ok (.new 15, 3) := by decide +kernel
set_option maxRecDepth 20000 in
theorem dX7_init_174 : decode cX7_init 174 = .ok (.dup, 1) := by decide +kernel
set_option maxRecDepth 20000 in
theorem dX7_init_175 : decode cX7_init 175 = .ok (.invokespecial 84, 3) := by decide +kernel
set_option maxRecDepth 20000 in
theorem dX7_init_178 : decode cX7_init 178 = .ok (.aastore, 1) := by decide +kernel
set_option maxRecDepth 20000 in
theorem dX7_init_179 : decode cX7_init 179 = .ok (.iinc 1 1, 3) := by decide +kernel
set_option maxRecDepth 20000 in
theorem dX7_init_182 : decode cX7_init 182 = .ok (.goto (-21), 3) := by decide +kernel
set_option maxRecDepth 20000 in
theorem dX7_init_185 : decode cX7_init 185 = .ok (.iconst 0, 1) := by decide +kernel
set_option maxRecDepth 20000 in
theorem dX7_init_186 : decode cX7_init 186 = .ok (.istore_n 1, 1) := by decide +kernel
set_option maxRecDepth 20000 in
theorem dX7_init_187 : decode cX7_init 187 = .ok (.iload_n 1, 1) := by decide +kernel
set_option maxRecDepth 20000 in
theorem dX7_init_188 : decode cX7_init 188 = .ok (.iconst 3, 1) := by decide +kernel
set_option maxRecDepth 20000 in
theorem dX7_init_189 : decode cX7_init 189 = .ok (.if_icmp .ge 45, 3) := by decide +kernel
set_option maxRecDepth 20000 in
theorem dX7_init_192 : decode cX7_init 192 = .ok (.aload_n 0, 1) := by decide +kernel
set_option maxRecDepth 20000 in
theorem dX7_init_193 : decode cX7_init 193 = .ok (.getfield 35, 3) := by decide +kernel
set_option maxRecDepth 20000 in
theorem dX7_init_196 : decode cX7_init 196 = .ok (.iload_n 1, 1) := by decide +kernel
set_option maxRecDepth 20000 in
theorem dX7_init_197 : decode cX7_init 197 = .ok (.new 21, 3) := by decide +kernel
set_option maxRecDepth 20000 in
theorem dX7_init_200 : decode cX7_init 200 = .ok (.dup, 1) := by decide +kernel
set_option maxRecDepth 20000 in
theorem dX7_init_201 : decode cX7_init 201 = .ok (.invokespecial 23, 3) := by decide +kernel
set_option maxRecDepth 20000 in
theorem dX7_init_204 : decode cX7_init 204 = .ok (.aastore, 1) := by decide +kernel
set_option maxRecDepth 20000 in
theorem dX7_init_205 : decode cX7_init 205 = .ok (.aload_n 0, 1) := by decide +kernel
set_option maxRecDepth 20000 in
theorem dX7_init_206 : decode cX7_init 206 = .ok (.getfield 39, 3) := by decide +kernel
set_option maxRecDepth 20000 in
theorem dX7_init_209 : decode cX7_init 209 = .ok (.iload_n 1, 1) := by decide +kernel
set_option maxRecDepth 20000 in
theorem dX7_init_210 : decode cX7_init 210 = .ok (.new 28, 3) := by decide +kernel
set_option maxRecDepth 20000 in
theorem dX7_init_213 : decode cX7_init 213 = .ok (.dup, 1) := by decide +kernel
set_option maxRecDepth 20000 in
theorem dX7_init_214 : decode cX7_init 214 = .ok (.invokespecial 30, 3) := by decide +kernel
set_option maxRecDepth 20000 in
theorem dX7_init_217 : decode cX7_init 217 = .ok (.aastore, 1) := by decide +kernel
set_option maxRecDepth 20000 in
theorem dX7_init_218 : decode cX7_init 218 = .ok (.aload_n 0, 1) := by decide +kernel
set_option maxRecDepth 20000 in
theorem dX7_init_219 : decode cX7_init 219 = .ok (.getfield 39, 3) := by decide +kernel
set_option maxRecDepth 20000 in
theorem dX7_init_222 : decode cX7_init 222 = .ok (.iload_n 1, 1) := by decide +kernel
set_option maxRecDepth 20000 in
theorem dX7_init_223 : decode cX7_init 223 = .ok (.aaload, 1) := by decide +kernel
set_option maxRecDepth 20000 in
theorem dX7_init_224 : decode cX7_init 224 = .ok (.iconst (-1), 1) := by decide +kernel
set_option maxRecDepth 20000 in
theorem dX7_init_225 : decode cX7_init 225 = .ok (.putfield 85, 3) := by decide +kernel
set_option maxRecDepth 20000 in
theorem dX7_init_228 : decode cX7_init 228 = .ok (.iinc 1 1, 3) := by decide +kernel
set_option maxRecDepth 20000 in
theorem dX7_init_231 : decode cX7_init 231 = .ok (.goto (-44), 3) := by decide +kernel
set_option maxRecDepth 20000 in
theorem dX7_init_234 : decode cX7_init 234 = .ok (.return_, 1) := by decide +kernel
set_option maxRecDepth 20000 in
theorem dX7_row_0 : decode cX7_row 0 = .ok (.iload_n 1, 1) := by decide +kernel
set_option maxRecDepth 20000 in
theorem dX7_row_1 : decode cX7_row 1 = .ok (.invokestatic 88, 3) := by decide +kernel
set_option maxRecDepth 20000 in
theorem dX7_row_4 : decode cX7_row 4 = .ok (.ifCond .eq 9, 3) := by decide +kernel
set_option maxRecDepth 20000 in
theorem dX7_row_7 : decode cX7_row 7 = .ok (.iload_n 2, 1) := by decide +kernel
set_option maxRecDepth 20000 in
theorem dX7_row_8 : decode cX7_row 8 = .ok (.bipush 40, 2) := by decide +kernel
set_option maxRecDepth 20000 in
theorem dX7_row_10 : decode cX7_row 10 = .ok (.if_icmp .le 5, 3) := by decide +kernel
set_option maxRecDepth 20000 in
theorem dX7_row_13 : decode cX7_row 13 = .ok (.iconst (-1), 1) := by decide +kernel
set_option maxRecDepth 20000 in
theorem dX7_row_14 : decode cX7_row 14 = .ok (.ireturn, 1) := by decide +kernel
set_option maxRecDepth 20000 in
theorem dX7_row_15 : decode cX7_row 15 = .ok (.iload_n 2, 1) := by decide +kernel
set_option maxRecDepth 20000 in
theorem dX7_row_16 : decode cX7_row 16 = .ok (.ifCond .ge 9, 3) := by decide +kernel
set_option maxRecDepth 20000 in
theorem dX7_row_19 : decode cX7_row 19 = .ok (.aload_n 0, 1) := by decide +kernel
set_option maxRecDepth 20000 in
theorem dX7_row_20 : decode cX7_row 20 = .ok (.iconst 5, 1) := by decide +kernel
set_option maxRecDepth 20000 in
theorem dX7_row_21 : decode cX7_row 21 = .ok (.invokevirtual 92, 3) := by decide +kernel
set_option maxRecDepth 20000 in
theorem dX7_row_24 : decode cX7_row 24 = .ok (.ireturn, 1) := by decide +kernel
set_option maxRecDepth 20000 in
theorem dX7_row_25 : decode cX7_row 25 = .ok (.aload_n 0, 1) := by decide +kernel
set_option maxRecDepth 20000 in
theorem dX7_row_26 : decode cX7_row 26 = .ok (.getfield 11, 3) := by decide +kernel
set_option maxRecDepth 20000 in
theorem dX7_row_29 : decode cX7_row 29 = .ok (.iload_n 1, 1) := by decide +kernel
set_option maxRecDepth 20000 in
theorem dX7_row_30 : decode cX7_row 30 = .ok (.aaload, 1) := by decide +kernel
set_option maxRecDepth 20000 in
theorem dX7_row_31 : decode cX7_row 31 = .ok (.iload_n 2, 1) := by decide +kernel
set_option maxRecDepth 20000 in
theorem dX7_row_32 : decode cX7_row 32 = .ok (.invokevirtual 96, 3) := by decide +kernel
set_option maxRecDepth 20000 in
theorem dX7_row_35 : decode cX7_row 35 = .ok (.iload_n 2, 1) := by decide +kernel
set_option maxRecDepth 20000 in
theorem dX7_row_36 : decode cX7_row 36 = .ok (.ireturn, 1) := by decide +kernel
set_option maxRecDepth 20000 in
theorem dX7_lay_0 : decode cX7_lay 0 = .ok (.aload_n 0, 1) := by decide +kernel
set_option maxRecDepth 20000 in
theorem dX7_lay_1 : decode cX7_lay 1 = .ok (.iload_n 1, 1) := by decide +kernel
set_option maxRecDepth 20000 in
theorem dX7_lay_2 : decode cX7_lay 2 = .ok (.iload_n 2, 1) := by decide +kernel
set_option maxRecDepth 20000 in
theorem dX7_lay_3 : decode cX7_lay 3 = .ok (.invokevirtual 100, 3) := by decide +kernel
set_option maxRecDepth 20000 in
theorem dX7_lay_6 : decode cX7_lay 6 = .ok (.istore 4, 2) := by decide +kernel
set_option maxRecDepth 20000 in
theorem dX7_lay_8 : decode cX7_lay 8 = .ok (.iload 4, 2) := by decide +kernel
set_option maxRecDepth 20000 in
theorem dX7_lay_10 : decode cX7_lay 10 = .ok (.ifCond .eq 6, 3) := by decide +kernel
set_option maxRecDepth 20000 in
theorem dX7_lay_13 : decode cX7_lay 13 = .ok (.iload 4, 2) := by decide +kernel
set_option maxRecDepth 20000 in
theorem dX7_lay_15 : decode cX7_lay 15 = .ok (.ireturn, 1) := by decide +kernel
set_option maxRecDepth 20000 in
theorem dX7_lay_16 : decode cX7_lay 16 = .ok (.aload_n 0, 1) := by decide +kernel
set_option maxRecDepth 20000 in
theorem dX7_lay_17 : decode cX7_lay 17 = .ok (.aload_n 0, 1) := by decide +kernel
set_option maxRecDepth 20000 in
theorem dX7_lay_18 : decode cX7_lay 18 = .ok (.getfield 11, 3) := by decide +kernel
set_option maxRecDepth 20000 in
theorem dX7_lay_21 : decode cX7_lay 21 = .ok (.iload_n 1, 1) := by decide +kernel
set_option maxRecDepth 20000 in
theorem dX7_lay_22 : decode cX7_lay 22 = .ok (.aaload, 1) := by decide +kernel
set_option maxRecDepth 20000 in
theorem dX7_lay_23 : decode cX7_lay 23 = .ok (.getfield 104, 3) := by decide +kernel
set_option maxRecDepth 20000 in
theorem dX7_lay_26 : decode cX7_lay 26 = .ok (.iload_n 2, 1) := by decide +kernel
set_option maxRecDepth 20000 in
theorem dX7_lay_27 : decode cX7_lay 27 = .ok (.iaload, 1) := by decide +kernel
set_option maxRecDepth 20000 in
theorem dX7_lay_28 : decode cX7_lay 28 = .ok (.putfield 73, 3) := by decide +kernel
set_option maxRecDepth 20000 in
theorem dX7_lay_31 : decode cX7_lay 31 = .ok (.aload_n 0, 1) := by decide +kernel
set_option maxRecDepth 20000 in
theorem dX7_lay_32 : decode cX7_lay 32 = .ok (.getfield 11, 3) := by decide +kernel
set_option maxRecDepth 20000 in
theorem dX7_lay_35 : decode cX7_lay 35 = .ok (.iload_n 1, 1) := by decide +kernel
set_option maxRecDepth 20000 in
theorem dX7_lay_36 : decode cX7_lay 36 = .ok (.aaload, 1) := by decide +kernel
set_option maxRecDepth 20000 in
theorem dX7_lay_37 : decode cX7_lay 37 = .ok (.getfield 104, 3) := by decide +kernel
set_option maxRecDepth 20000 in
theorem dX7_lay_40 : decode cX7_lay 40 = .ok (.iload_n 2, 1) := by decide +kernel
set_option maxRecDepth 20000 in
theorem dX7_lay_41 : decode cX7_lay 41 = .ok (.iload_n 3, 1) := by decide +kernel
set_option maxRecDepth 20000 in
theorem dX7_lay_42 : decode cX7_lay 42 = .ok (.iastore, 1) := by decide +kernel
set_option maxRecDepth 20000 in
theorem dX7_lay_43 : decode cX7_lay 43 = .ok (.iconst 1, 1) := by decide +kernel
set_option maxRecDepth 20000 in
theorem dX7_lay_44 : decode cX7_lay 44 = .ok (.ireturn, 1) := by decide +kernel
set_option maxRecDepth 20000 in
theorem dX7_at_0 : decode cX7_at 0 = .ok (.aload_n 0, 1) := by decide +kernel
set_option maxRecDepth 20000 in
theorem dX7_at_1 : decode cX7_at 1 = .ok (.iload_n 1, 1) := by decide +kernel
set_option maxRecDepth 20000 in
theorem dX7_at_2 : decode cX7_at 2 = .ok (.iload_n 2, 1) := by decide +kernel
set_option maxRecDepth 20000 in
theorem dX7_at_3 : decode cX7_at 3 = .ok (.invokevirtual 100, 3) := by decide +kernel
set_option maxRecDepth 20000 in
theorem dX7_at_6 : decode cX7_at 6 = .ok (.istore_n 3, 1) := by decide +kernel
set_option maxRecDepth 20000 in
theorem dX7_at_7 : decode cX7_at 7 = .ok (.iload_n 3, 1) := by decide +kernel
set_option maxRecDepth 20000 in
theorem dX7_at_8 : decode cX7_at 8 = .ok (.ifCond .eq 5, 3) := by decide +kernel
set_option maxRecDepth 20000 in
theorem dX7_at_11 : decode cX7_at 11 = .ok (.iload_n 3, 1) := by decide +kernel
set_option maxRecDepth 20000 in
theorem dX7_at_12 : decode cX7_at 12 = .ok (.ireturn, 1) := by decide +kernel
set_option maxRecDepth 20000 in
theorem dX7_at_13 : decode cX7_at 13 = .ok (.aload_n 0, 1) := by decide +kernel
set_option maxRecDepth 20000 in
theorem dX7_at_14 : decode cX7_at 14 = .ok (.aload_n 0, 1) := by decide +kernel
set_option maxRecDepth 20000 in
theorem dX7_at_15 : decode cX7_at 15 = .ok (.getfield 11, 3) := by decide +kernel
set_option maxRecDepth 20000 in
theorem dX7_at_18 : decode cX7_at 18 = .ok (.iload_n 1, 1) := by decide +kernel
set_option maxRecDepth 20000 in
theorem dX7_at_19 : decode cX7_at 19 = .ok (.aaload, 1) := by decide +kernel
set_option maxRecDepth 20000 in
theorem dX7_at_20 : decode cX7_at 20 = .ok (.getfield 104, 3) := by decide +kernel
set_option maxRecDepth 20000 in
theorem dX7_at_23 : decode cX7_at 23 = .ok (.iload_n 2, 1) := by decide +kernel
set_option maxRecDepth 20000 in
theorem dX7_at_24 : decode cX7_at 24 = .ok (.iaload, 1) := by decide +kernel
set_option maxRecDepth 20000 in
theorem dX7_at_25 : decode cX7_at 25 = .ok (.putfield 73, 3) := by decide +kernel
set_option maxRecDepth 20000 in
theorem dX7_at_28 : decode cX7_at 28 = .ok (.iconst 1, 1) := by decide +kernel
set_option maxRecDepth 20000 in
theorem dX7_at_29 : decode cX7_at 29 = .ok (.ireturn, 1) := by decide +kernel
set_option maxRecDepth 20000 in
theorem dX7_tear_0 : decode cX7_tear 0 = .ok (.iload_n 1, 1) := by decide +kernel
set_option maxRecDepth 20000 in
theorem dX7_tear_1 : decode cX7_tear 1 = .ok (.invokestatic 88, 3) := by decide +kernel
set_option maxRecDepth 20000 in
theorem dX7_tear_4 : decode cX7_tear 4 = .ok (.ifCond .ne 5, 3) := by decide +kernel
set_option maxRecDepth 20000 in
theorem dX7_tear_7 : decode cX7_tear 7 = .ok (.iconst (-1), 1) := by decide +kernel
set_option maxRecDepth 20000 in
theorem dX7_tear_8 : decode cX7_tear 8 = .ok (.ireturn, 1) := by decide +kernel
set_option maxRecDepth 20000 in
theorem dX7_tear_9 : decode cX7_tear 9 = .ok (.aload_n 0, 1) := by decide +kernel
set_option maxRecDepth 20000 in
theorem dX7_tear_10 : decode cX7_tear 10 = .ok (.getfield 11, 3) := by decide +kernel
set_option maxRecDepth 20000 in
theorem dX7_tear_13 : decode cX7_tear 13 = .ok (.iload_n 1, 1) := by decide +kernel
set_option maxRecDepth 20000 in
theorem dX7_tear_14 : decode cX7_tear 14 = .ok (.aaload, 1) := by decide +kernel
set_option maxRecDepth 20000 in
theorem dX7_tear_15 : decode cX7_tear 15 = .ok (.getfield 107, 3) := by decide +kernel
set_option maxRecDepth 20000 in
theorem dX7_tear_18 : decode cX7_tear 18 = .ok (.iconst (-1), 1) := by decide +kernel
set_option maxRecDepth 20000 in
theorem dX7_tear_19 : decode cX7_tear 19 = .ok (.if_icmp .ne 9, 3) := by decide +kernel
set_option maxRecDepth 20000 in
theorem dX7_tear_22 : decode cX7_tear 22 = .ok (.aload_n 0, 1) := by decide +kernel
set_option maxRecDepth 20000 in
theorem dX7_tear_23 : decode cX7_tear 23 = .ok (.iconst 1, 1) := by decide +kernel
set_option maxRecDepth 20000 in
theorem dX7_tear_24 : decode cX7_tear 24 = .ok (.invokevirtual 92, 3) := by decide +kernel
set_option maxRecDepth 20000 in
theorem dX7_tear_27 : decode cX7_tear 27 = .ok (.ireturn, 1) := by decide +kernel
set_option maxRecDepth 20000 in
theorem dX7_tear_28 : decode cX7_tear 28 = .ok (.aload_n 0, 1) := by decide +kernel
set_option maxRecDepth 20000 in
theorem dX7_tear_29 : decode cX7_tear 29 = .ok (.getfield 11, 3) := by decide +kernel
set_option maxRecDepth 20000 in
theorem dX7_tear_32 : decode cX7_tear 32 = .ok (.iload_n 1, 1) := by decide +kernel
set_option maxRecDepth 20000 in
theorem dX7_tear_33 : decode cX7_tear 33 = .ok (.aaload, 1) := by decide +kernel
set_option maxRecDepth 20000 in
theorem dX7_tear_34 : decode cX7_tear 34 = .ok (.iconst (-1), 1) := by decide +kernel
set_option maxRecDepth 20000 in
theorem dX7_tear_35 : decode cX7_tear 35 = .ok (.putfield 107, 3) := by decide +kernel
set_option maxRecDepth 20000 in
theorem dX7_tear_38 : decode cX7_tear 38 = .ok (.iconst 1, 1) := by decide +kernel
set_option maxRecDepth 20000 in
theorem dX7_tear_39 : decode cX7_tear 39 = .ok (.ireturn, 1) := by decide +kernel
set_option maxRecDepth 20000 in
theorem dX7_copy_0 : decode cX7_copy 0 = .ok (.iload_n 1, 1) := by decide +kernel
set_option maxRecDepth 20000 in
theorem dX7_copy_1 : decode cX7_copy 1 = .ok (.invokestatic 88, 3) := by decide +kernel
set_option maxRecDepth 20000 in
theorem dX7_copy_4 : decode cX7_copy 4 = .ok (.ifCond .eq 10, 3) := by decide +kernel
set_option maxRecDepth 20000 in
theorem dX7_copy_7 : decode cX7_copy 7 = .ok (.iload_n 3, 1) := by decide +kernel
set_option maxRecDepth 20000 in
theorem dX7_copy_8 : decode cX7_copy 8 = .ok (.invokestatic 88, 3) := by decide +kernel
set_option maxRecDepth 20000 in
theorem dX7_copy_11 : decode cX7_copy 11 = .ok (.ifCond .ne 5, 3) := by decide +kernel
set_option maxRecDepth 20000 in
theorem dX7_copy_14 : decode cX7_copy 14 = .ok (.iconst (-1), 1) := by decide +kernel
set_option maxRecDepth 20000 in
theorem dX7_copy_15 : decode cX7_copy 15 = .ok (.ireturn, 1) := by decide +kernel
set_option maxRecDepth 20000 in
theorem dX7_copy_16 : decode cX7_copy 16 = .ok (.iload 5, 2) := by decide +kernel
set_option maxRecDepth 20000 in
theorem dX7_copy_18 : decode cX7_copy 18 = .ok (.ifCond .ge 9, 3) := by decide +kernel
set_option maxRecDepth 20000 in
theorem dX7_copy_21 : decode cX7_copy 21 = .ok (.aload_n 0, 1) := by decide +kernel
set_option maxRecDepth 20000 in
theorem dX7_copy_22 : decode cX7_copy 22 = .ok (.iconst 5, 1) := by decide +kernel
set_option maxRecDepth 20000 in
theorem dX7_copy_23 : decode cX7_copy 23 = .ok (.invokevirtual 92, 3) := by decide +kernel
set_option maxRecDepth 20000 in
theorem dX7_copy_26 : decode cX7_copy 26 = .ok (.ireturn, 1) := by decide +kernel
set_option maxRecDepth 20000 in
theorem dX7_copy_27 : decode cX7_copy 27 = .ok (.aload_n 0, 1) := by decide +kernel
set_option maxRecDepth 20000 in
theorem dX7_copy_28 : decode cX7_copy 28 = .ok (.getfield 11, 3) := by decide +kernel
set_option maxRecDepth 20000 in
theorem dX7_copy_31 : decode cX7_copy 31 = .ok (.iload_n 1, 1) := by decide +kernel
set_option maxRecDepth 20000 in
theorem dX7_copy_32 : decode cX7_copy 32 = .ok (.aaload, 1) := by decide +kernel
set_option maxRecDepth 20000 in
theorem dX7_copy_33 : decode cX7_copy 33 = .ok (.getfield 107, 3) := by decide +kernel
set_option maxRecDepth 20000 in
theorem dX7_copy_36 : decode cX7_copy 36 = .ok (.iconst (-1), 1) := by decide +kernel
set_option maxRecDepth 20000 in
theorem dX7_copy_37 : decode cX7_copy 37 = .ok (.if_icmp .eq 16, 3) := by decide +kernel
set_option maxRecDepth 20000 in
theorem dX7_copy_40 : decode cX7_copy 40 = .ok (.aload_n 0, 1) := by decide +kernel
set_option maxRecDepth 20000 in
theorem dX7_copy_41 : decode cX7_copy 41 = .ok (.getfield 11, 3) := by decide +kernel
set_option maxRecDepth 20000 in
theorem dX7_copy_44 : decode cX7_copy 44 = .ok (.iload_n 3, 1) := by decide +kernel
set_option maxRecDepth 20000 in
theorem dX7_copy_45 : decode cX7_copy 45 = .ok (.aaload, 1) := by decide +kernel
set_option maxRecDepth 20000 in
theorem dX7_copy_46 : decode cX7_copy 46 = .ok (.getfield 107, 3) := by decide +kernel
set_option maxRecDepth 20000 in
theorem dX7_copy_49 : decode cX7_copy 49 = .ok (.iconst (-1), 1) := by decide +kernel
set_option maxRecDepth 20000 in
theorem dX7_copy_50 : decode cX7_copy 50 = .ok (.if_icmp .ne 9, 3) := by decide +kernel
set_option maxRecDepth 20000 in
theorem dX7_copy_53 : decode cX7_copy 53 = .ok (.aload_n 0, 1) := by decide +kernel
set_option maxRecDepth 20000 in
theorem dX7_copy_54 : decode cX7_copy 54 = .ok (.iconst 1, 1) := by decide +kernel
set_option maxRecDepth 20000 in
theorem dX7_copy_55 : decode cX7_copy 55 = .ok (.invokevirtual 92, 3) := by decide +kernel
set_option maxRecDepth 20000 in
theorem dX7_copy_58 : decode cX7_copy 58 = .ok (.ireturn, 1) := by decide +kernel
set_option maxRecDepth 20000 in
theorem dX7_copy_59 : decode cX7_copy 59 = .ok (.aload_n 0, 1) := by decide +kernel
set_option maxRecDepth 20000 in
theorem dX7_copy_60 : decode cX7_copy 60 = .ok (.getfield 11, 3) := by decide +kernel
set_option maxRecDepth 20000 in
theorem dX7_copy_63 : decode cX7_copy 63 = .ok (.iload_n 1, 1) := by decide +kernel
set_option maxRecDepth 20000 in
theorem dX7_copy_64 : decode cX7_copy 64 = .ok (.aaload, 1) := by decide +kernel
set_option maxRecDepth 20000 in
theorem dX7_copy_65 : decode cX7_copy 65 = .ok (.iload_n 2, 1) := by decide +kernel
set_option maxRecDepth 20000 in
theorem dX7_copy_66 : decode cX7_copy 66 = .ok (.iload 5, 2) := by decide +kernel
set_option maxRecDepth 20000 in
theorem dX7_copy_68 : decode cX7_copy 68 = .ok (.invokevirtual 108, 3) := by decide +kernel
set_option maxRecDepth 20000 in
theorem dX7_copy_71 : decode cX7_copy 71 = .ok (.ifCond .eq 19, 3) := by decide +kernel
set_option maxRecDepth 20000 in
theorem dX7_copy_74 : decode cX7_copy 74 = .ok (.aload_n 0, 1) := by decide +kernel
set_option maxRecDepth 20000 in
theorem dX7_copy_75 : decode cX7_copy 75 = .ok (.getfield 11, 3) := by decide +kernel
set_option maxRecDepth 20000 in
theorem dX7_copy_78 : decode cX7_copy 78 = .ok (.iload_n 3, 1) := by decide +kernel
set_option maxRecDepth 20000 in
theorem dX7_copy_79 : decode cX7_copy 79 = .ok (.aaload, 1) := by decide +kernel
set_option maxRecDepth 20000 in
theorem dX7_copy_80 : decode cX7_copy 80 = .ok (.iload 4, 2) := by decide +kernel
set_option maxRecDepth 20000 in
theorem dX7_copy_82 : decode cX7_copy 82 = .ok (.iload 5, 2) := by decide +kernel
set_option maxRecDepth 20000 in
theorem dX7_copy_84 : decode cX7_copy 84 = .ok (.invokevirtual 108, 3) := by decide +kernel
set_option maxRecDepth 20000 in
theorem dX7_copy_87 : decode cX7_copy 87 = .ok (.ifCond .ne 9, 3) := by decide +kernel
set_option maxRecDepth 20000 in
theorem dX7_copy_90 : decode cX7_copy 90 = .ok (.aload_n 0, 1) := by decide +kernel
set_option maxRecDepth 20000 in
theorem dX7_copy_91 : decode cX7_copy 91 = .ok (.iconst 2, 1) := by decide +kernel
set_option maxRecDepth 20000 in
theorem dX7_copy_92 : decode cX7_copy 92 = .ok (.invokevirtual 92, 3) := by decide +kernel
set_option maxRecDepth 20000 in
theorem dX7_copy_95 : decode cX7_copy 95 = .ok (.ireturn, 1) := by decide +kernel
set_option maxRecDepth 20000 in
theorem dX7_copy_96 : decode cX7_copy 96 = .ok (.aload_n 0, 1) := by decide +kernel
set_option maxRecDepth 20000 in
theorem dX7_copy_97 : decode cX7_copy 97 = .ok (.getfield 11, 3) := by decide +kernel
set_option maxRecDepth 20000 in
theorem dX7_copy_100 : decode cX7_copy 100 = .ok (.iload_n 1, 1) := by decide +kernel
set_option maxRecDepth 20000 in
theorem dX7_copy_101 : decode cX7_copy 101 = .ok (.aaload, 1) := by decide +kernel
set_option maxRecDepth 20000 in
theorem dX7_copy_102 : decode cX7_copy 102 = .ok (.getfield 104, 3) := by decide +kernel
set_option maxRecDepth 20000 in
theorem dX7_copy_105 : decode cX7_copy 105 = .ok (.iload_n 2, 1) := by decide +kernel
set_option maxRecDepth 20000 in
theorem dX7_copy_106 : decode cX7_copy 106 = .ok (.aload_n 0, 1) := by decide +kernel
set_option maxRecDepth 20000 in
theorem dX7_copy_107 : decode cX7_copy 107 = .ok (.getfield 11, 3) := by decide +kernel
set_option maxRecDepth 20000 in
theorem dX7_copy_110 : decode cX7_copy 110 = .ok (.iload_n 3, 1) := by decide +kernel
set_option maxRecDepth 20000 in
theorem dX7_copy_111 : decode cX7_copy 111 = .ok (.aaload, 1) := by decide +kernel
set_option maxRecDepth 20000 in
theorem dX7_copy_112 : decode cX7_copy 112 = .ok (.getfield 104, 3) := by decide +kernel
set_option maxRecDepth 20000 in
theorem dX7_copy_115 : decode cX7_copy 115 = .ok (.iload 4, 2) := by decide +kernel
set_option maxRecDepth 20000 in
theorem dX7_copy_117 : decode cX7_copy 117 = .ok (.iload 5, 2) := by decide +kernel
set_option maxRecDepth 20000 in
theorem dX7_copy_119 : decode cX7_copy 119 = .ok (.invokestatic 112, 3) := by decide +kernel
set_option maxRecDepth 20000 in
theorem dX7_copy_122 : decode cX7_copy 122 = .ok (.iconst 1, 1) := by decide +kernel
set_option maxRecDepth 20000 in
theorem dX7_copy_123 : decode cX7_copy 123 = .ok (.ireturn, 1) := by decide +kernel
set_option maxRecDepth 20000 in
theorem dX7_mean_0 : decode cX7_mean 0 = .ok (.iload_n 1, 1) := by decide +kernel
set_option maxRecDepth 20000 in
theorem dX7_mean_1 : decode cX7_mean 1 = .ok (.invokestatic 88, 3) := by decide +kernel
set_option maxRecDepth 20000 in
theorem dX7_mean_4 : decode cX7_mean 4 = .ok (.ifCond .ne 5, 3) := by decide +kernel
set_option maxRecDepth 20000 in
theorem dX7_mean_7 : decode cX7_mean 7 = .ok (.iconst (-1), 1) := by decide +kernel
set_option maxRecDepth 20000 in
theorem dX7_mean_8 : decode cX7_mean 8 = .ok (.ireturn, 1) := by decide +kernel
set_option maxRecDepth 20000 in
theorem dX7_mean_9 : decode cX7_mean 9 = .ok (.aload_n 0, 1) := by decide +kernel
set_option maxRecDepth 20000 in
theorem dX7_mean_10 : decode cX7_mean 10 = .ok (.getfield 11, 3) := by decide +kernel
set_option maxRecDepth 20000 in
theorem dX7_mean_13 : decode cX7_mean 13 = .ok (.iload_n 1, 1) := by decide +kernel
set_option maxRecDepth 20000 in
theorem dX7_mean_14 : decode cX7_mean 14 = .ok (.aaload, 1) := by decide +kernel
set_option maxRecDepth 20000 in
theorem dX7_mean_15 : decode cX7_mean 15 = .ok (.getfield 107, 3) := by decide +kernel
set_option maxRecDepth 20000 in
theorem dX7_mean_18 : decode cX7_mean 18 = .ok (.iconst (-1), 1) := by decide +kernel
set_option maxRecDepth 20000 in
theorem dX7_mean_19 : decode cX7_mean 19 = .ok (.if_icmp .ne 9, 3) := by decide +kernel
set_option maxRecDepth 20000 in
theorem dX7_mean_22 : decode cX7_mean 22 = .ok (.aload_n 0, 1) := by decide +kernel
set_option maxRecDepth 20000 in
theorem dX7_mean_23 : decode cX7_mean 23 = .ok (.iconst 1, 1) := by decide +kernel
set_option maxRecDepth 20000 in
theorem dX7_mean_24 : decode cX7_mean 24 = .ok (.invokevirtual 92, 3) := by decide +kernel
set_option maxRecDepth 20000 in
theorem dX7_mean_27 : decode cX7_mean 27 = .ok (.ireturn, 1) := by decide +kernel
set_option maxRecDepth 20000 in
theorem dX7_mean_28 : decode cX7_mean 28 = .ok (.aload_n 0, 1) := by decide +kernel
set_option maxRecDepth 20000 in
theorem dX7_mean_29 : decode cX7_mean 29 = .ok (.getfield 11, 3) := by decide +kernel
set_option maxRecDepth 20000 in
theorem dX7_mean_32 : decode cX7_mean 32 = .ok (.iload_n 1, 1) := by decide +kernel
set_option maxRecDepth 20000 in
theorem dX7_mean_33 : decode cX7_mean 33 = .ok (.aaload, 1) := by decide +kernel
set_option maxRecDepth 20000 in
theorem dX7_mean_34 : decode cX7_mean 34 = .ok (.getfield 107, 3) := by decide +kernel
set_option maxRecDepth 20000 in
theorem dX7_mean_37 : decode cX7_mean 37 = .ok (.ifCond .ne 9, 3) := by decide +kernel
set_option maxRecDepth 20000 in
theorem dX7_mean_40 : decode cX7_mean 40 = .ok (.aload_n 0, 1) := by decide +kernel
set_option maxRecDepth 20000 in
theorem dX7_mean_41 : decode cX7_mean 41 = .ok (.iconst 4, 1) := by decide +kernel
set_option maxRecDepth 20000 in
theorem dX7_mean_42 : decode cX7_mean 42 = .ok (.invokevirtual 92, 3) := by decide +kernel
set_option maxRecDepth 20000 in
theorem dX7_mean_45 : decode cX7_mean 45 = .ok (.ireturn, 1) := by decide +kernel
set_option maxRecDepth 20000 in
theorem dX7_mean_46 : decode cX7_mean 46 = .ok (.aload_n 0, 1) := by decide +kernel
set_option maxRecDepth 20000 in
theorem dX7_mean_47 : decode cX7_mean 47 = .ok (.aload_n 0, 1) := by decide +kernel
set_option maxRecDepth 20000 in
theorem dX7_mean_48 : decode cX7_mean 48 = .ok (.getfield 11, 3) := by decide +kernel
set_option maxRecDepth 20000 in
theorem dX7_mean_51 : decode cX7_mean 51 = .ok (.iload_n 1, 1) := by decide +kernel
set_option maxRecDepth 20000 in
theorem dX7_mean_52 : decode cX7_mean 52 = .ok (.aaload, 1) := by decide +kernel
set_option maxRecDepth 20000 in
theorem dX7_mean_53 : decode cX7_mean 53 = .ok (.invokevirtual 118, 3) := by decide +kernel
set_option maxRecDepth 20000 in
theorem dX7_mean_56 : decode cX7_mean 56 = .ok (.aload_n 0, 1) := by decide +kernel
set_option maxRecDepth 20000 in
theorem dX7_mean_57 : decode cX7_mean 57 = .ok (.getfield 11, 3) := by decide +kernel
set_option maxRecDepth 20000 in
theorem dX7_mean_60 : decode cX7_mean 60 = .ok (.iload_n 1, 1) := by decide +kernel
set_option maxRecDepth 20000 in
theorem dX7_mean_61 : decode cX7_mean 61 = .ok (.aaload, 1) := by decide +kernel
set_option maxRecDepth 20000 in
theorem dX7_mean_62 : decode cX7_mean 62 = .ok (.getfield 107, 3) := by decide +kernel
set_option maxRecDepth 20000 in
theorem dX7_mean_65 : decode cX7_mean 65 = .ok (.i2l, 1) := by decide +kernel
set_option maxRecDepth 20000 in
theorem dX7_mean_66 : decode cX7_mean 66 = .ok (.ldiv, 1) := by decide +kernel
set_option maxRecDepth 20000 in
theorem dX7_mean_67 : decode cX7_mean 67 = .ok (.l2i, 1) := by decide +kernel
set_option maxRecDepth 20000 in
theorem dX7_mean_68 : decode cX7_mean 68 = .ok (.putfield 73, 3) := by decide +kernel
set_option maxRecDepth 20000 in
theorem dX7_mean_71 : decode cX7_mean 71 = .ok (.iconst 1, 1) := by decide +kernel
set_option maxRecDepth 20000 in
theorem dX7_mean_72 : decode cX7_mean 72 = .ok (.ireturn, 1) := by decide +kernel
set_option maxRecDepth 20000 in
theorem dX7_text_0 : decode cX7_text 0 = .ok (.iload_n 1, 1) := by decide +kernel
set_option maxRecDepth 20000 in
theorem dX7_text_1 : decode cX7_text 1 = .ok (.invokestatic 122, 3) := by decide +kernel
set_option maxRecDepth 20000 in
theorem dX7_text_4 : decode cX7_text 4 = .ok (.ifCond .eq 9, 3) := by decide +kernel
set_option maxRecDepth 20000 in
theorem dX7_text_7 : decode cX7_text 7 = .ok (.iload_n 2, 1) := by decide +kernel
set_option maxRecDepth 20000 in
theorem dX7_text_8 : decode cX7_text 8 = .ok (.bipush 60, 2) := by decide +kernel
set_option maxRecDepth 20000 in
theorem dX7_text_10 : decode cX7_text 10 = .ok (.if_icmp .le 5, 3) := by decide +kernel
set_option maxRecDepth 20000 in
theorem dX7_text_13 : decode cX7_text 13 = .ok (.iconst (-1), 1) := by decide +kernel
set_option maxRecDepth 20000 in
theorem dX7_text_14 : decode cX7_text 14 = .ok (.ireturn, 1) := by decide +kernel
set_option maxRecDepth 20000 in
theorem dX7_text_15 : decode cX7_text 15 = .ok (.iload_n 2, 1) := by decide +kernel
set_option maxRecDepth 20000 in
theorem dX7_text_16 : decode cX7_text 16 = .ok (.ifCond .ge 9, 3) := by decide +kernel
set_option maxRecDepth 20000 in
theorem dX7_text_19 : decode cX7_text 19 = .ok (.aload_n 0, 1) := by decide +kernel
set_option maxRecDepth 20000 in
theorem dX7_text_20 : decode cX7_text 20 = .ok (.iconst 5, 1) := by decide +kernel
set_option maxRecDepth 20000 in
theorem dX7_text_21 : decode cX7_text 21 = .ok (.invokevirtual 92, 3) := by decide +kernel
set_option maxRecDepth 20000 in
theorem dX7_text_24 : decode cX7_text 24 = .ok (.ireturn, 1) := by decide +kernel
set_option maxRecDepth 20000 in
theorem dX7_text_25 : decode cX7_text 25 = .ok (.aload_n 0, 1) := by decide +kernel
set_option maxRecDepth 20000 in
theorem dX7_text_26 : decode cX7_text 26 = .ok (.getfield 17, 3) := by decide +kernel
set_option maxRecDepth 20000 in
theorem dX7_text_29 : decode cX7_text 29 = .ok (.iload_n 1, 1) := by decide +kernel
set_option maxRecDepth 20000 in
theorem dX7_text_30 : decode cX7_text 30 = .ok (.aaload, 1) := by decide +kernel
set_option maxRecDepth 20000 in
theorem dX7_text_31 : decode cX7_text 31 = .ok (.iload_n 2, 1) := by decide +kernel
set_option maxRecDepth 20000 in
theorem dX7_text_32 : decode cX7_text 32 = .ok (.invokevirtual 125, 3) := by decide +kernel
set_option maxRecDepth 20000 in
theorem dX7_text_35 : decode cX7_text 35 = .ok (.iload_n 2, 1) := by decide +kernel
set_option maxRecDepth 20000 in
theorem dX7_text_36 : decode cX7_text 36 = .ok (.ireturn, 1) := by decide +kernel
set_option maxRecDepth 20000 in
theorem dX7_put_0 : decode cX7_put 0 = .ok (.iload_n 1, 1) := by decide +kernel
set_option maxRecDepth 20000 in
theorem dX7_put_1 : decode cX7_put 1 = .ok (.invokestatic 122, 3) := by decide +kernel
set_option maxRecDepth 20000 in
theorem dX7_put_4 : decode cX7_put 4 = .ok (.ifCond .ne 5, 3) := by decide +kernel
set_option maxRecDepth 20000 in
theorem dX7_put_7 : decode cX7_put 7 = .ok (.iconst (-1), 1) := by decide +kernel
set_option maxRecDepth 20000 in
theorem dX7_put_8 : decode cX7_put 8 = .ok (.ireturn, 1) := by decide +kernel
set_option maxRecDepth 20000 in
theorem dX7_put_9 : decode cX7_put 9 = .ok (.aload_n 0, 1) := by decide +kernel
set_option maxRecDepth 20000 in
theorem dX7_put_10 : decode cX7_put 10 = .ok (.getfield 17, 3) := by decide +kernel
set_option maxRecDepth 20000 in
theorem dX7_put_13 : decode cX7_put 13 = .ok (.iload_n 1, 1) := by decide +kernel
set_option maxRecDepth 20000 in
theorem dX7_put_14 : decode cX7_put 14 = .ok (.aaload, 1) := by decide +kernel
set_option maxRecDepth 20000 in
theorem dX7_put_15 : decode cX7_put 15 = .ok (.getfield 126, 3) := by decide +kernel
set_option maxRecDepth 20000 in
theorem dX7_put_18 : decode cX7_put 18 = .ok (.iconst (-1), 1) := by decide +kernel
set_option maxRecDepth 20000 in
theorem dX7_put_19 : decode cX7_put 19 = .ok (.if_icmp .ne 9, 3) := by decide +kernel
set_option maxRecDepth 20000 in
theorem dX7_put_22 : decode cX7_put 22 = .ok (.aload_n 0, 1) := by decide +kernel
set_option maxRecDepth 20000 in
theorem dX7_put_23 : decode cX7_put 23 = .ok (.iconst 1, 1) := by decide +kernel
set_option maxRecDepth 20000 in
theorem dX7_put_24 : decode cX7_put 24 = .ok (.invokevirtual 92, 3) := by decide +kernel
set_option maxRecDepth 20000 in
theorem dX7_put_27 : decode cX7_put 27 = .ok (.ireturn, 1) := by decide +kernel
set_option maxRecDepth 20000 in
theorem dX7_put_28 : decode cX7_put 28 = .ok (.iload_n 2, 1) := by decide +kernel
set_option maxRecDepth 20000 in
theorem dX7_put_29 : decode cX7_put 29 = .ok (.ifCond .lt 16, 3) := by decide +kernel
set_option maxRecDepth 20000 in
theorem dX7_put_32 : decode cX7_put 32 = .ok (.iload_n 2, 1) := by decide +kernel
set_option maxRecDepth 20000 in
theorem dX7_put_33 : decode cX7_put 33 = .ok (.aload_n 0, 1) := by decide +kernel
set_option maxRecDepth 20000 in
theorem dX7_put_34 : decode cX7_put 34 = .ok (.getfield 17, 3) := by decide +kernel
set_option maxRecDepth 20000 in
theorem dX7_put_37 : decode cX7_put 37 = .ok (.iload_n 1, 1) := by decide +kernel
set_option maxRecDepth 20000 in
theorem dX7_put_38 : decode cX7_put 38 = .ok (.aaload, 1) := by decide +kernel
set_option maxRecDepth 20000 in
theorem dX7_put_39 : decode cX7_put 39 = .ok (.getfield 126, 3) := by decide +kernel
set_option maxRecDepth 20000 in
theorem dX7_put_42 : decode cX7_put 42 = .ok (.if_icmp .lt 9, 3) := by decide +kernel
set_option maxRecDepth 20000 in
theorem dX7_put_45 : decode cX7_put 45 = .ok (.aload_n 0, 1) := by decide +kernel
set_option maxRecDepth 20000 in
theorem dX7_put_46 : decode cX7_put 46 = .ok (.iconst 2, 1) := by decide +kernel
set_option maxRecDepth 20000 in
theorem dX7_put_47 : decode cX7_put 47 = .ok (.invokevirtual 92, 3) := by decide +kernel
set_option maxRecDepth 20000 in
theorem dX7_put_50 : decode cX7_put 50 = .ok (.ireturn, 1) := by decide +kernel
set_option maxRecDepth 20000 in
theorem dX7_put_51 : decode cX7_put 51 = .ok (.aload_n 0, 1) := by decide +kernel
set_option maxRecDepth 20000 in
theorem dX7_put_52 : decode cX7_put 52 = .ok (.getfield 17, 3) := by decide +kernel
set_option maxRecDepth 20000 in
theorem dX7_put_55 : decode cX7_put 55 = .ok (.iload_n 1, 1) := by decide +kernel
set_option maxRecDepth 20000 in
theorem dX7_put_56 : decode cX7_put 56 = .ok (.aaload, 1) := by decide +kernel
set_option maxRecDepth 20000 in
theorem dX7_put_57 : decode cX7_put 57 = .ok (.getfield 127, 3) := by decide +kernel
set_option maxRecDepth 20000 in
theorem dX7_put_60 : decode cX7_put 60 = .ok (.iload_n 2, 1) := by decide +kernel
set_option maxRecDepth 20000 in
theorem dX7_put_61 : decode cX7_put 61 = .ok (.baload, 1) := by decide +kernel
set_option maxRecDepth 20000 in
theorem dX7_put_62 : decode cX7_put 62 = .ok (.istore 4, 2) := by decide +kernel
set_option maxRecDepth 20000 in
theorem dX7_put_64 : decode cX7_put 64 = .ok (.aload_n 0, 1) := by decide +kernel
set_option maxRecDepth 20000 in
theorem dX7_put_65 : decode cX7_put 65 = .ok (.getfield 17, 3) := by decide +kernel
set_option maxRecDepth 20000 in
theorem dX7_put_68 : decode cX7_put 68 = .ok (.iload_n 1, 1) := by decide +kernel
set_option maxRecDepth 20000 in
theorem dX7_put_69 : decode cX7_put 69 = .ok (.aaload, 1) := by decide +kernel
set_option maxRecDepth 20000 in
theorem dX7_put_70 : decode cX7_put 70 = .ok (.getfield 127, 3) := by decide +kernel
set_option maxRecDepth 20000 in
theorem dX7_put_73 : decode cX7_put 73 = .ok (.iload_n 2, 1) := by decide +kernel
set_option maxRecDepth 20000 in
theorem dX7_put_74 : decode cX7_put 74 = .ok (.iload_n 3, 1) := by decide +kernel
set_option maxRecDepth 20000 in
theorem dX7_put_75 : decode cX7_put 75 = .ok (.i2b, 1) := by decide +kernel
set_option maxRecDepth 20000 in
theorem dX7_put_76 : decode cX7_put 76 = .ok (.bastore, 1) := by decide +kernel
set_option maxRecDepth 20000 in
theorem dX7_put_77 : decode cX7_put 77 = .ok (.iload 4, 2) := by decide +kernel
set_option maxRecDepth 20000 in
theorem dX7_put_79 : decode cX7_put 79 = .ok (.sipush 1000, 3) := by decide +kernel
set_option maxRecDepth 20000 in
theorem dX7_put_82 : decode cX7_put 82 = .ok (.iadd, 1) := by decide +kernel
set_option maxRecDepth 20000 in
theorem dX7_put_83 : decode cX7_put 83 = .ok (.ireturn, 1) := by decide +kernel
set_option maxRecDepth 20000 in
theorem dX7_fault_0 : decode cX7_fault 0 = .ok (.iload_n 1, 1) := by decide +kernel
set_option maxRecDepth 20000 in
theorem dX7_fault_1 : decode cX7_fault 1 = .ok (.invokestatic 122, 3) := by decide +kernel
set_option maxRecDepth 20000 in
theorem dX7_fault_4 : decode cX7_fault 4 = .ok (.ifCond .ne 5, 3) := by decide +kernel
set_option maxRecDepth 20000 in
theorem dX7_fault_7 : decode cX7_fault 7 = .ok (.iconst (-1), 1) := by decide +kernel
set_option maxRecDepth 20000 in
theorem dX7_fault_8 : decode cX7_fault 8 = .ok (.ireturn, 1) := by decide +kernel
set_option maxRecDepth 20000 in
theorem dX7_fault_9 : decode cX7_fault 9 = .ok (.aload_n 0, 1) := by decide +kernel
set_option maxRecDepth 20000 in
theorem dX7_fault_10 : decode cX7_fault 10 = .ok (.getfield 17, 3) := by decide +kernel
set_option maxRecDepth 20000 in
theorem dX7_fault_13 : decode cX7_fault 13 = .ok (.iload_n 1, 1) := by decide +kernel
set_option maxRecDepth 20000 in
theorem dX7_fault_14 : decode cX7_fault 14 = .ok (.aaload, 1) := by decide +kernel
set_option maxRecDepth 20000 in
theorem dX7_fault_15 : decode cX7_fault 15 = .ok (.getfield 126, 3) := by decide +kernel
set_option maxRecDepth 20000 in
theorem dX7_fault_18 : decode cX7_fault 18 = .ok (.iconst (-1), 1) := by decide +kernel
set_option maxRecDepth 20000 in
theorem dX7_fault_19 : decode cX7_fault 19 = .ok (.if_icmp .ne 9, 3) := by decide +kernel
set_option maxRecDepth 20000 in
theorem dX7_fault_22 : decode cX7_fault 22 = .ok (.aload_n 0, 1) := by decide +kernel
set_option maxRecDepth 20000 in
theorem dX7_fault_23 : decode cX7_fault 23 = .ok (.iconst 1, 1) := by decide +kernel
set_option maxRecDepth 20000 in
theorem dX7_fault_24 : decode cX7_fault 24 = .ok (.invokevirtual 92, 3) := by decide +kernel
set_option maxRecDepth 20000 in
theorem dX7_fault_27 : decode cX7_fault 27 = .ok (.ireturn, 1) := by decide +kernel
set_option maxRecDepth 20000 in
theorem dX7_fault_28 : decode cX7_fault 28 = .ok (.aload_n 0, 1) := by decide +kernel
set_option maxRecDepth 20000 in
theorem dX7_fault_29 : decode cX7_fault 29 = .ok (.getfield 17, 3) := by decide +kernel
set_option maxRecDepth 20000 in
theorem dX7_fault_32 : decode cX7_fault 32 = .ok (.iload_n 1, 1) := by decide +kernel
set_option maxRecDepth 20000 in
theorem dX7_fault_33 : decode cX7_fault 33 = .ok (.aaload, 1) := by decide +kernel
set_option maxRecDepth 20000 in
theorem dX7_fault_34 : decode cX7_fault 34 = .ok (.aload_n 0, 1) := by decide +kernel
set_option maxRecDepth 20000 in
theorem dX7_fault_35 : decode cX7_fault 35 = .ok (.getfield 43, 3) := by decide +kernel
set_option maxRecDepth 20000 in
theorem dX7_fault_38 : decode cX7_fault 38 = .ok (.invokevirtual 131, 3) := by decide +kernel
set_option maxRecDepth 20000 in
theorem dX7_fault_41 : decode cX7_fault 41 = .ok (.ireturn, 1) := by decide +kernel
set_option maxRecDepth 20000 in
theorem dX7_screen_0 : decode cX7_screen 0 = .ok (.iload_n 1, 1) := by decide +kernel
set_option maxRecDepth 20000 in
theorem dX7_screen_1 : decode cX7_screen 1 = .ok (.invokestatic 122, 3) := by decide +kernel
set_option maxRecDepth 20000 in
theorem dX7_screen_4 : decode cX7_screen 4 = .ok (.ifCond .ne 5, 3) := by decide +kernel
set_option maxRecDepth 20000 in
theorem dX7_screen_7 : decode cX7_screen 7 = .ok (.iconst (-1), 1) := by decide +kernel
set_option maxRecDepth 20000 in
theorem dX7_screen_8 : decode cX7_screen 8 = .ok (.ireturn, 1) := by decide +kernel
set_option maxRecDepth 20000 in
theorem dX7_screen_9 : decode cX7_screen 9 = .ok (.aload_n 0, 1) := by decide +kernel
set_option maxRecDepth 20000 in
theorem dX7_screen_10 : decode cX7_screen 10 = .ok (.getfield 17, 3) := by decide +kernel
set_option maxRecDepth 20000 in
theorem dX7_screen_13 : decode cX7_screen 13 = .ok (.iload_n 1, 1) := by decide +kernel
set_option maxRecDepth 20000 in
theorem dX7_screen_14 : decode cX7_screen 14 = .ok (.aaload, 1) := by decide +kernel
set_option maxRecDepth 20000 in
theorem dX7_screen_15 : decode cX7_screen 15 = .ok (.getfield 126, 3) := by decide +kernel
set_option maxRecDepth 20000 in
theorem dX7_screen_18 : decode cX7_screen 18 = .ok (.iconst (-1), 1) := by decide +kernel
set_option maxRecDepth 20000 in
theorem dX7_screen_19 : decode cX7_screen 19 = .ok (.if_icmp .ne 9, 3) := by decide +kernel
set_option maxRecDepth 20000 in
theorem dX7_screen_22 : decode cX7_screen 22 = .ok (.aload_n 0, 1) := by decide +kernel
set_option maxRecDepth 20000 in
theorem dX7_screen_23 : decode cX7_screen 23 = .ok (.iconst 1, 1) := by decide +kernel
set_option maxRecDepth 20000 in
theorem dX7_screen_24 : decode cX7_screen 24 = .ok (.invokevirtual 92, 3) := by decide +kernel
set_option maxRecDepth 20000 in
theorem dX7_screen_27 : decode cX7_screen 27 = .ok (.ireturn, 1) := by decide +kernel
set_option maxRecDepth 20000 in
theorem dX7_screen_28 : decode cX7_screen 28 = .ok (.aload_n 0, 1) := by decide +kernel
set_option maxRecDepth 20000 in
theorem dX7_screen_29 : decode cX7_screen 29 = .ok (.getfield 17, 3) := by decide +kernel
set_option maxRecDepth 20000 in
theorem dX7_screen_32 : decode cX7_screen 32 = .ok (.iload_n 1, 1) := by decide +kernel
set_option maxRecDepth 20000 in
theorem dX7_screen_33 : decode cX7_screen 33 = .ok (.aaload, 1) := by decide +kernel
set_option maxRecDepth 20000 in
theorem dX7_screen_34 : decode cX7_screen 34 = .ok (.aload_n 0, 1) := by decide +kernel
set_option maxRecDepth 20000 in
theorem dX7_screen_35 : decode cX7_screen 35 = .ok (.getfield 43, 3) := by decide +kernel
set_option maxRecDepth 20000 in
theorem dX7_screen_38 : decode cX7_screen 38 = .ok (.invokevirtual 131, 3) := by decide +kernel
set_option maxRecDepth 20000 in
theorem dX7_screen_41 : decode cX7_screen 41 = .ok (.bipush (-9), 2) := by decide +kernel
set_option maxRecDepth 20000 in
theorem dX7_screen_43 : decode cX7_screen 43 = .ok (.if_icmp .eq 6, 3) := by decide +kernel
set_option maxRecDepth 20000 in
theorem dX7_screen_46 : decode cX7_screen 46 = .ok (.bipush (-4), 2) := by decide +kernel
set_option maxRecDepth 20000 in
theorem dX7_screen_48 : decode cX7_screen 48 = .ok (.ireturn, 1) := by decide +kernel
set_option maxRecDepth 20000 in
theorem dX7_screen_49 : decode cX7_screen 49 = .ok (.aload_n 0, 1) := by decide +kernel
set_option maxRecDepth 20000 in
theorem dX7_screen_50 : decode cX7_screen 50 = .ok (.getfield 24, 3) := by decide +kernel
set_option maxRecDepth 20000 in
theorem dX7_screen_53 : decode cX7_screen 53 = .ok (.aload_n 0, 1) := by decide +kernel
set_option maxRecDepth 20000 in
theorem dX7_screen_54 : decode cX7_screen 54 = .ok (.getfield 43, 3) := by decide +kernel
set_option maxRecDepth 20000 in
theorem dX7_screen_57 : decode cX7_screen 57 = .ok (.invokevirtual 135, 3) := by decide +kernel
set_option maxRecDepth 20000 in
theorem dX7_screen_60 : decode cX7_screen 60 = .ok (.aload_n 0, 1) := by decide +kernel
set_option maxRecDepth 20000 in
theorem dX7_screen_61 : decode cX7_screen 61 = .ok (.getfield 31, 3) := by decide +kernel
set_option maxRecDepth 20000 in
theorem dX7_screen_64 : decode cX7_screen 64 = .ok (.iconst 0, 1) := by decide +kernel
set_option maxRecDepth 20000 in
theorem dX7_screen_65 : decode cX7_screen 65 = .ok (.putfield 85, 3) := by decide +kernel
set_option maxRecDepth 20000 in
theorem dX7_screen_68 : decode cX7_screen 68 = .ok (.iconst 0, 1) := by decide +kernel
set_option maxRecDepth 20000 in
theorem dX7_screen_69 : decode cX7_screen 69 = .ok (.istore_n 2, 1) := by decide +kernel
set_option maxRecDepth 20000 in
theorem dX7_screen_70 : decode cX7_screen 70 = .ok (.iload_n 2, 1) := by decide +kernel
set_option maxRecDepth 20000 in
theorem dX7_screen_71 : decode cX7_screen 71 = .ok (.iconst 3, 1) := by decide +kernel
set_option maxRecDepth 20000 in
theorem dX7_screen_72 : decode cX7_screen 72 = .ok (.if_icmp .ge 19, 3) := by decide +kernel
set_option maxRecDepth 20000 in
theorem dX7_screen_75 : decode cX7_screen 75 = .ok (.aload_n 0, 1) := by decide +kernel
set_option maxRecDepth 20000 in
theorem dX7_screen_76 : decode cX7_screen 76 = .ok (.getfield 39, 3) := by decide +kernel
set_option maxRecDepth 20000 in
theorem dX7_screen_79 : decode cX7_screen 79 = .ok (.iload_n 2, 1) := by decide +kernel
set_option maxRecDepth 20000 in
theorem dX7_screen_80 : decode cX7_screen 80 = .ok (.aaload, 1) := by decide +kernel
set_option maxRecDepth 20000 in
theorem dX7_screen_81 : decode cX7_screen 81 = .ok (.iconst (-1), 1) := by decide +kernel
set_option maxRecDepth 20000 in
theorem dX7_screen_82 : decode cX7_screen 82 = .ok (.putfield 85, 3) := by decide +kernel
set_option maxRecDepth 20000 in
theorem dX7_screen_85 : decode cX7_screen 85 = .ok (.iinc 2 1, 3) := by decide +kernel
set_option maxRecDepth 20000 in
theorem dX7_screen_88 : decode cX7_screen 88 = .ok (.goto (-18), 3) := by decide +kernel
set_option maxRecDepth 20000 in
theorem dX7_screen_91 : decode cX7_screen 91 = .ok (.aload_n 0, 1) := by decide +kernel
set_option maxRecDepth 20000 in
theorem dX7_screen_92 : decode cX7_screen 92 = .ok (.getfield 24, 3) := by decide +kernel
set_option maxRecDepth 20000 in
theorem dX7_screen_95 : decode cX7_screen 95 = .ok (.getfield 139, 3) := by decide +kernel
set_option maxRecDepth 20000 in
theorem dX7_screen_98 : decode cX7_screen 98 = .ok (.ireturn, 1) := by decide +kernel
set_option maxRecDepth 20000 in
theorem dX7_pane_0 : decode cX7_pane 0 = .ok (.aload_n 0, 1) := by decide +kernel
set_option maxRecDepth 20000 in
theorem dX7_pane_1 : decode cX7_pane 1 = .ok (.getfield 24, 3) := by decide +kernel
set_option maxRecDepth 20000 in
theorem dX7_pane_4 : decode cX7_pane 4 = .ok (.iload_n 1, 1) := by decide +kernel
set_option maxRecDepth 20000 in
theorem dX7_pane_5 : decode cX7_pane 5 = .ok (.invokevirtual 140, 3) := by decide +kernel
set_option maxRecDepth 20000 in
theorem dX7_pane_8 : decode cX7_pane 8 = .ok (.ifCond .eq 13, 3) := by decide +kernel
set_option maxRecDepth 20000 in
theorem dX7_pane_11 : decode cX7_pane 11 = .ok (.iload_n 2, 1) := by decide +kernel
set_option maxRecDepth 20000 in
theorem dX7_pane_12 : decode cX7_pane 12 = .ok (.ifCond .lt 9, 3) := by decide +kernel
set_option maxRecDepth 20000 in
theorem dX7_pane_15 : decode cX7_pane 15 = .ok (.iload_n 2, 1) := by decide +kernel
set_option maxRecDepth 20000 in
theorem dX7_pane_16 : decode cX7_pane 16 = .ok (.bipush 7, 2) := by decide +kernel
set_option maxRecDepth 20000 in
theorem dX7_pane_18 : decode cX7_pane 18 = .ok (.if_icmp .le 5, 3) := by decide +kernel
set_option maxRecDepth 20000 in
theorem dX7_pane_21 : decode cX7_pane 21 = .ok (.iconst (-1), 1) := by decide +kernel
set_option maxRecDepth 20000 in
theorem dX7_pane_22 : decode cX7_pane 22 = .ok (.ireturn, 1) := by decide +kernel
set_option maxRecDepth 20000 in
theorem dX7_pane_23 : decode cX7_pane 23 = .ok (.aload_n 0, 1) := by decide +kernel
set_option maxRecDepth 20000 in
theorem dX7_pane_24 : decode cX7_pane 24 = .ok (.aload_n 0, 1) := by decide +kernel
set_option maxRecDepth 20000 in
theorem dX7_pane_25 : decode cX7_pane 25 = .ok (.iload_n 1, 1) := by decide +kernel
set_option maxRecDepth 20000 in
theorem dX7_pane_26 : decode cX7_pane 26 = .ok (.iload_n 2, 1) := by decide +kernel
set_option maxRecDepth 20000 in
theorem dX7_pane_27 : decode cX7_pane 27 = .ok (.invokevirtual 143, 3) := by decide +kernel
set_option maxRecDepth 20000 in
theorem dX7_pane_30 : decode cX7_pane 30 = .ok (.putfield 73, 3) := by decide +kernel
set_option maxRecDepth 20000 in
theorem dX7_pane_33 : decode cX7_pane 33 = .ok (.iconst 1, 1) := by decide +kernel
set_option maxRecDepth 20000 in
theorem dX7_pane_34 : decode cX7_pane 34 = .ok (.ireturn, 1) := by decide +kernel
set_option maxRecDepth 20000 in
theorem dX7_mark_0 : decode cX7_mark 0 = .ok (.aload_n 0, 1) := by decide +kernel
set_option maxRecDepth 20000 in
theorem dX7_mark_1 : decode cX7_mark 1 = .ok (.getfield 24, 3) := by decide +kernel
set_option maxRecDepth 20000 in
theorem dX7_mark_4 : decode cX7_mark 4 = .ok (.iload_n 1, 1) := by decide +kernel
set_option maxRecDepth 20000 in
theorem dX7_mark_5 : decode cX7_mark 5 = .ok (.invokevirtual 140, 3) := by decide +kernel
set_option maxRecDepth 20000 in
theorem dX7_mark_8 : decode cX7_mark 8 = .ok (.ifCond .eq 13, 3) := by decide +kernel
set_option maxRecDepth 20000 in
theorem dX7_mark_11 : decode cX7_mark 11 = .ok (.iload_n 2, 1) := by decide +kernel
set_option maxRecDepth 20000 in
theorem dX7_mark_12 : decode cX7_mark 12 = .ok (.ifCond .le 9, 3) := by decide +kernel
set_option maxRecDepth 20000 in
theorem dX7_mark_15 : decode cX7_mark 15 = .ok (.iload_n 2, 1) := by decide +kernel
set_option maxRecDepth 20000 in
theorem dX7_mark_16 : decode cX7_mark 16 = .ok (.bipush 6, 2) := by decide +kernel
set_option maxRecDepth 20000 in
theorem dX7_mark_18 : decode cX7_mark 18 = .ok (.if_icmp .lt 5, 3) := by decide +kernel
set_option maxRecDepth 20000 in
theorem dX7_mark_21 : decode cX7_mark 21 = .ok (.iconst (-1), 1) := by decide +kernel
set_option maxRecDepth 20000 in
theorem dX7_mark_22 : decode cX7_mark 22 = .ok (.ireturn, 1) := by decide +kernel
set_option maxRecDepth 20000 in
theorem dX7_mark_23 : decode cX7_mark 23 = .ok (.aload_n 0, 1) := by decide +kernel
set_option maxRecDepth 20000 in
theorem dX7_mark_24 : decode cX7_mark 24 = .ok (.getfield 24, 3) := by decide +kernel
set_option maxRecDepth 20000 in
theorem dX7_mark_27 : decode cX7_mark 27 = .ok (.getfield 146, 3) := by decide +kernel
set_option maxRecDepth 20000 in
theorem dX7_mark_30 : decode cX7_mark 30 = .ok (.iload_n 1, 1) := by decide +kernel
set_option maxRecDepth 20000 in
theorem dX7_mark_31 : decode cX7_mark 31 = .ok (.aaload, 1) := by decide +kernel
set_option maxRecDepth 20000 in
theorem dX7_mark_32 : decode cX7_mark 32 = .ok (.astore_n 3, 1) := by decide +kernel
set_option maxRecDepth 20000 in
theorem dX7_mark_33 : decode cX7_mark 33 = .ok (.aload_n 3, 1) := by decide +kernel
set_option maxRecDepth 20000 in
theorem dX7_mark_34 : decode cX7_mark 34 = .ok (.getfield 150, 3) := by decide +kernel
set_option maxRecDepth 20000 in
theorem dX7_mark_37 : decode cX7_mark 37 = .ok (.iload_n 2, 1) := by decide +kernel
set_option maxRecDepth 20000 in
theorem dX7_mark_38 : decode cX7_mark 38 = .ok (.invokestatic 155, 3) := by decide +kernel
set_option maxRecDepth 20000 in
theorem dX7_mark_41 : decode cX7_mark 41 = .ok (.ifCond .ne 9, 3) := by decide +kernel
set_option maxRecDepth 20000 in
theorem dX7_mark_44 : decode cX7_mark 44 = .ok (.aload_n 0, 1) := by decide +kernel
set_option maxRecDepth 20000 in
theorem dX7_mark_45 : decode cX7_mark 45 = .ok (.iconst 3, 1) := by decide +kernel
set_option maxRecDepth 20000 in
theorem dX7_mark_46 : decode cX7_mark 46 = .ok (.invokevirtual 92, 3) := by decide +kernel
set_option maxRecDepth 20000 in
theorem dX7_mark_49 : decode cX7_mark 49 = .ok (.ireturn, 1) := by decide +kernel
set_option maxRecDepth 20000 in
theorem dX7_mark_50 : decode cX7_mark 50 = .ok (.iload_n 2, 1) := by decide +kernel
set_option maxRecDepth 20000 in
theorem dX7_mark_51 : decode cX7_mark 51 = .ok (.tableswitch 56 3 5 #[25, 34, 45], 25) := by decide +kernel
set_option maxRecDepth 20000 in
theorem dX7_mark_76 : decode cX7_mark 76 = .ok (.aload_n 0, 1) := by decide +kernel
set_option maxRecDepth 20000 in
theorem dX7_mark_77 : decode cX7_mark 77 = .ok (.getfield 24, 3) := by decide +kernel
set_option maxRecDepth 20000 in
theorem dX7_mark_80 : decode cX7_mark 80 = .ok (.iload_n 1, 1) := by decide +kernel
set_option maxRecDepth 20000 in
theorem dX7_mark_81 : decode cX7_mark 81 = .ok (.invokevirtual 158, 3) := by decide +kernel
set_option maxRecDepth 20000 in
theorem dX7_mark_84 : decode cX7_mark 84 = .ok (.ireturn, 1) := by decide +kernel
set_option maxRecDepth 20000 in
theorem dX7_mark_85 : decode cX7_mark 85 = .ok (.aload_n 3, 1) := by decide +kernel
set_option maxRecDepth 20000 in
theorem dX7_mark_86 : decode cX7_mark 86 = .ok (.iconst 1, 1) := by decide +kernel
set_option maxRecDepth 20000 in
theorem dX7_mark_87 : decode cX7_mark 87 = .ok (.invokevirtual 161, 3) := by decide +kernel
set_option maxRecDepth 20000 in
theorem dX7_mark_90 : decode cX7_mark 90 = .ok (.aload_n 3, 1) := by decide +kernel
set_option maxRecDepth 20000 in
theorem dX7_mark_91 : decode cX7_mark 91 = .ok (.invokevirtual 164, 3) := by decide +kernel
set_option maxRecDepth 20000 in
theorem dX7_mark_94 : decode cX7_mark 94 = .ok (.isub, 1) := by decide +kernel
set_option maxRecDepth 20000 in
theorem dX7_mark_95 : decode cX7_mark 95 = .ok (.ireturn, 1) := by decide +kernel
set_option maxRecDepth 20000 in
theorem dX7_mark_96 : decode cX7_mark 96 = .ok (.aload_n 3, 1) := by decide +kernel
set_option maxRecDepth 20000 in
theorem dX7_mark_97 : decode cX7_mark 97 = .ok (.iconst 2, 1) := by decide +kernel
set_option maxRecDepth 20000 in
theorem dX7_mark_98 : decode cX7_mark 98 = .ok (.invokevirtual 161, 3) := by decide +kernel
set_option maxRecDepth 20000 in
theorem dX7_mark_101 : decode cX7_mark 101 = .ok (.aload_n 3, 1) := by decide +kernel
set_option maxRecDepth 20000 in
theorem dX7_mark_102 : decode cX7_mark 102 = .ok (.invokevirtual 164, 3) := by decide +kernel
set_option maxRecDepth 20000 in
theorem dX7_mark_105 : decode cX7_mark 105 = .ok (.isub, 1) := by decide +kernel
set_option maxRecDepth 20000 in
theorem dX7_mark_106 : decode cX7_mark 106 = .ok (.ireturn, 1) := by decide +kernel
set_option maxRecDepth 20000 in
theorem dX7_mark_107 : decode cX7_mark 107 = .ok (.aload_n 3, 1) := by decide +kernel
set_option maxRecDepth 20000 in
theorem dX7_mark_108 : decode cX7_mark 108 = .ok (.getfield 168, 3) := by decide +kernel
set_option maxRecDepth 20000 in
theorem dX7_mark_111 : decode cX7_mark 111 = .ok (.aload_n 3, 1) := by decide +kernel
set_option maxRecDepth 20000 in
theorem dX7_mark_112 : decode cX7_mark 112 = .ok (.getfield 171, 3) := by decide +kernel
set_option maxRecDepth 20000 in
theorem dX7_mark_115 : decode cX7_mark 115 = .ok (.imul, 1) := by decide +kernel
set_option maxRecDepth 20000 in
theorem dX7_mark_116 : decode cX7_mark 116 = .ok (.aload_n 3, 1) := by decide +kernel
set_option maxRecDepth 20000 in
theorem dX7_mark_117 : decode cX7_mark 117 = .ok (.invokevirtual 164, 3) := by decide +kernel
set_option maxRecDepth 20000 in
theorem dX7_mark_120 : decode cX7_mark 120 = .ok (.isub, 1) := by decide +kernel
set_option maxRecDepth 20000 in
theorem dX7_mark_121 : decode cX7_mark 121 = .ok (.ireturn, 1) := by decide +kernel
set_option maxRecDepth 20000 in
theorem dX7_covers_0 : decode cX7_covers 0 = .ok (.aload_n 0, 1) := by decide +kernel
set_option maxRecDepth 20000 in
theorem dX7_covers_1 : decode cX7_covers 1 = .ok (.getfield 24, 3) := by decide +kernel
set_option maxRecDepth 20000 in
theorem dX7_covers_4 : decode cX7_covers 4 = .ok (.iload_n 1, 1) := by decide +kernel
set_option maxRecDepth 20000 in
theorem dX7_covers_5 : decode cX7_covers 5 = .ok (.invokevirtual 140, 3) := by decide +kernel
set_option maxRecDepth 20000 in
theorem dX7_covers_8 : decode cX7_covers 8 = .ok (.ifCond .eq 10, 3) := by decide +kernel
set_option maxRecDepth 20000 in
theorem dX7_covers_11 : decode cX7_covers 11 = .ok (.iload_n 2, 1) := by decide +kernel
set_option maxRecDepth 20000 in
theorem dX7_covers_12 : decode cX7_covers 12 = .ok (.invokestatic 174, 3) := by decide +kernel
set_option maxRecDepth 20000 in
theorem dX7_covers_15 : decode cX7_covers 15 = .ok (.ifCond .ne 5, 3) := by decide +kernel
set_option maxRecDepth 20000 in
theorem dX7_covers_18 : decode cX7_covers 18 = .ok (.iconst (-1), 1) := by decide +kernel
set_option maxRecDepth 20000 in
theorem dX7_covers_19 : decode cX7_covers 19 = .ok (.ireturn, 1) := by decide +kernel
set_option maxRecDepth 20000 in
theorem dX7_covers_20 : decode cX7_covers 20 = .ok (.aload_n 0, 1) := by decide +kernel
set_option maxRecDepth 20000 in
theorem dX7_covers_21 : decode cX7_covers 21 = .ok (.getfield 24, 3) := by decide +kernel
set_option maxRecDepth 20000 in
theorem dX7_covers_24 : decode cX7_covers 24 = .ok (.getfield 146, 3) := by decide +kernel
set_option maxRecDepth 20000 in
theorem dX7_covers_27 : decode cX7_covers 27 = .ok (.iload_n 1, 1) := by decide +kernel
set_option maxRecDepth 20000 in
theorem dX7_covers_28 : decode cX7_covers 28 = .ok (.aaload, 1) := by decide +kernel
set_option maxRecDepth 20000 in
theorem dX7_covers_29 : decode cX7_covers 29 = .ok (.iload_n 2, 1) := by decide +kernel
set_option maxRecDepth 20000 in
theorem dX7_covers_30 : decode cX7_covers 30 = .ok (.invokevirtual 177, 3) := by decide +kernel
set_option maxRecDepth 20000 in
theorem dX7_covers_33 : decode cX7_covers 33 = .ok (.ifCond .eq 7, 3) := by decide +kernel
set_option maxRecDepth 20000 in
theorem dX7_covers_36 : decode cX7_covers 36 = .ok (.iconst 1, 1) := by decide +kernel
set_option maxRecDepth 20000 in
theorem dX7_covers_37 : decode cX7_covers 37 = .ok (.goto 4, 3) := by decide +kernel
set_option maxRecDepth 20000 in
theorem dX7_covers_40 : decode cX7_covers 40 = .ok (.iconst 0, 1) := by decide +kernel
set_option maxRecDepth 20000 in
theorem dX7_covers_41 : decode cX7_covers 41 = .ok (.ireturn, 1) := by decide +kernel
set_option maxRecDepth 20000 in
theorem dX7_raise_0 : decode cX7_raise 0 = .ok (.aload_n 0, 1) := by decide +kernel
set_option maxRecDepth 20000 in
theorem dX7_raise_1 : decode cX7_raise 1 = .ok (.iload_n 1, 1) := by decide +kernel
set_option maxRecDepth 20000 in
theorem dX7_raise_2 : decode cX7_raise 2 = .ok (.aload_n 0, 1) := by decide +kernel
set_option maxRecDepth 20000 in
theorem dX7_raise_3 : decode cX7_raise 3 = .ok (.getfield 24, 3) := by decide +kernel
set_option maxRecDepth 20000 in
theorem dX7_raise_6 : decode cX7_raise 6 = .ok (.getfield 139, 3) := by decide +kernel
set_option maxRecDepth 20000 in
theorem dX7_raise_9 : decode cX7_raise 9 = .ok (.iconst 1, 1) := by decide +kernel
set_option maxRecDepth 20000 in
theorem dX7_raise_10 : decode cX7_raise 10 = .ok (.isub, 1) := by decide +kernel
set_option maxRecDepth 20000 in
theorem dX7_raise_11 : decode cX7_raise 11 = .ok (.invokevirtual 180, 3) := by decide +kernel
set_option maxRecDepth 20000 in
theorem dX7_raise_14 : decode cX7_raise 14 = .ok (.ireturn, 1) := by decide +kernel
set_option maxRecDepth 20000 in
theorem dX7_sink_0 : decode cX7_sink 0 = .ok (.aload_n 0, 1) := by decide +kernel
set_option maxRecDepth 20000 in
theorem dX7_sink_1 : decode cX7_sink 1 = .ok (.iload_n 1, 1) := by decide +kernel
set_option maxRecDepth 20000 in
theorem dX7_sink_2 : decode cX7_sink 2 = .ok (.iconst 0, 1) := by decide +kernel
set_option maxRecDepth 20000 in
theorem dX7_sink_3 : decode cX7_sink 3 = .ok (.invokevirtual 180, 3) := by decide +kernel
set_option maxRecDepth 20000 in
theorem dX7_sink_6 : decode cX7_sink 6 = .ok (.ireturn, 1) := by decide +kernel
set_option maxRecDepth 20000 in
theorem dX7_move_0 : decode cX7_move 0 = .ok (.aload_n 0, 1) := by decide +kernel
set_option maxRecDepth 20000 in
theorem dX7_move_1 : decode cX7_move 1 = .ok (.getfield 24, 3) := by decide +kernel
set_option maxRecDepth 20000 in
theorem dX7_move_4 : decode cX7_move 4 = .ok (.iload_n 1, 1) := by decide +kernel
set_option maxRecDepth 20000 in
theorem dX7_move_5 : decode cX7_move 5 = .ok (.invokevirtual 140, 3) := by decide +kernel
set_option maxRecDepth 20000 in
theorem dX7_move_8 : decode cX7_move 8 = .ok (.ifCond .eq 25, 3) := by decide +kernel
set_option maxRecDepth 20000 in
theorem dX7_move_11 : decode cX7_move 11 = .ok (.iload_n 2, 1) := by decide +kernel
set_option maxRecDepth 20000 in
theorem dX7_move_12 : decode cX7_move 12 = .ok (.invokestatic 183, 3) := by decide +kernel
set_option maxRecDepth 20000 in
theorem dX7_move_15 : decode cX7_move 15 = .ok (.ifCond .eq 18, 3) := by decide +kernel
set_option maxRecDepth 20000 in
theorem dX7_move_18 : decode cX7_move 18 = .ok (.iload_n 3, 1) := by decide +kernel
set_option maxRecDepth 20000 in
theorem dX7_move_19 : decode cX7_move 19 = .ok (.invokestatic 183, 3) := by decide +kernel
set_option maxRecDepth 20000 in
theorem dX7_move_22 : decode cX7_move 22 = .ok (.ifCond .eq 11, 3) := by decide +kernel
set_option maxRecDepth 20000 in
theorem dX7_move_25 : decode cX7_move 25 = .ok (.iload_n 2, 1) := by decide +kernel
set_option maxRecDepth 20000 in
theorem dX7_move_26 : decode cX7_move 26 = .ok (.ifCond .ne 9, 3) := by decide +kernel
set_option maxRecDepth 20000 in
theorem dX7_move_29 : decode cX7_move 29 = .ok (.iload_n 3, 1) := by decide +kernel
set_option maxRecDepth 20000 in
theorem dX7_move_30 : decode cX7_move 30 = .ok (.ifCond .ne 5, 3) := by decide +kernel
set_option maxRecDepth 20000 in
theorem dX7_move_33 : decode cX7_move 33 = .ok (.iconst (-1), 1) := by decide +kernel
set_option maxRecDepth 20000 in
theorem dX7_move_34 : decode cX7_move 34 = .ok (.ireturn, 1) := by decide +kernel
set_option maxRecDepth 20000 in
theorem dX7_move_35 : decode cX7_move 35 = .ok (.aload_n 0, 1) := by decide +kernel
set_option maxRecDepth 20000 in
theorem dX7_move_36 : decode cX7_move 36 = .ok (.getfield 24, 3) := by decide +kernel
set_option maxRecDepth 20000 in
theorem dX7_move_39 : decode cX7_move 39 = .ok (.getfield 146, 3) := by decide +kernel
set_option maxRecDepth 20000 in
theorem dX7_move_42 : decode cX7_move 42 = .ok (.iload_n 1, 1) := by decide +kernel
set_option maxRecDepth 20000 in
theorem dX7_move_43 : decode cX7_move 43 = .ok (.aaload, 1) := by decide +kernel
set_option maxRecDepth 20000 in
theorem dX7_move_44 : decode cX7_move 44 = .ok (.astore 4, 2) := by decide +kernel
set_option maxRecDepth 20000 in
theorem dX7_move_46 : decode cX7_move 46 = .ok (.aload 4, 2) := by decide +kernel
set_option maxRecDepth 20000 in
theorem dX7_move_48 : decode cX7_move 48 = .ok (.aload 4, 2) := by decide +kernel
set_option maxRecDepth 20000 in
theorem dX7_move_50 : decode cX7_move 50 = .ok (.getfield 186, 3) := by decide +kernel
set_option maxRecDepth 20000 in
theorem dX7_move_53 : decode cX7_move 53 = .ok (.iload_n 2, 1) := by decide +kernel
set_option maxRecDepth 20000 in
theorem dX7_move_54 : decode cX7_move 54 = .ok (.iadd, 1) := by decide +kernel
set_option maxRecDepth 20000 in
theorem dX7_move_55 : decode cX7_move 55 = .ok (.aload 4, 2) := by decide +kernel
set_option maxRecDepth 20000 in
theorem dX7_move_57 : decode cX7_move 57 = .ok (.getfield 189, 3) := by decide +kernel
set_option maxRecDepth 20000 in
theorem dX7_move_60 : decode cX7_move 60 = .ok (.iload_n 3, 1) := by decide +kernel
set_option maxRecDepth 20000 in
theorem dX7_move_61 : decode cX7_move 61 = .ok (.iadd, 1) := by decide +kernel
set_option maxRecDepth 20000 in
theorem dX7_move_62 : decode cX7_move 62 = .ok (.invokevirtual 192, 3) := by decide +kernel
set_option maxRecDepth 20000 in
theorem dX7_move_65 : decode cX7_move 65 = .ok (.ifCond .ne 6, 3) := by decide +kernel
set_option maxRecDepth 20000 in
theorem dX7_move_68 : decode cX7_move 68 = .ok (.bipush (-4), 2) := by decide +kernel
set_option maxRecDepth 20000 in
theorem dX7_move_70 : decode cX7_move 70 = .ok (.ireturn, 1) := by decide +kernel
set_option maxRecDepth 20000 in
theorem dX7_move_71 : decode cX7_move 71 = .ok (.aload_n 0, 1) := by decide +kernel
set_option maxRecDepth 20000 in
theorem dX7_move_72 : decode cX7_move 72 = .ok (.getfield 31, 3) := by decide +kernel
set_option maxRecDepth 20000 in
theorem dX7_move_75 : decode cX7_move 75 = .ok (.iconst 1, 1) := by decide +kernel
set_option maxRecDepth 20000 in
theorem dX7_move_76 : decode cX7_move 76 = .ok (.invokevirtual 195, 3) := by decide +kernel
set_option maxRecDepth 20000 in
theorem dX7_move_79 : decode cX7_move 79 = .ok (.ifCond .ne 6, 3) := by decide +kernel
set_option maxRecDepth 20000 in
theorem dX7_move_82 : decode cX7_move 82 = .ok (.bipush (-2), 2) := by decide +kernel
set_option maxRecDepth 20000 in
theorem dX7_move_84 : decode cX7_move 84 = .ok (.ireturn, 1) := by decide +kernel
set_option maxRecDepth 20000 in
theorem dX7_move_85 : decode cX7_move 85 = .ok (.aload 4, 2) := by decide +kernel
set_option maxRecDepth 20000 in
theorem dX7_move_87 : decode cX7_move 87 = .ok (.aload 4, 2) := by decide +kernel
set_option maxRecDepth 20000 in
theorem dX7_move_89 : decode cX7_move 89 = .ok (.getfield 186, 3) := by decide +kernel
set_option maxRecDepth 20000 in
theorem dX7_move_92 : decode cX7_move 92 = .ok (.iload_n 2, 1) := by decide +kernel
set_option maxRecDepth 20000 in
theorem dX7_move_93 : decode cX7_move 93 = .ok (.iadd, 1) := by decide +kernel
set_option maxRecDepth 20000 in
theorem dX7_move_94 : decode cX7_move 94 = .ok (.aload 4, 2) := by decide +kernel
set_option maxRecDepth 20000 in
theorem dX7_move_96 : decode cX7_move 96 = .ok (.getfield 189, 3) := by decide +kernel
set_option maxRecDepth 20000 in
theorem dX7_move_99 : decode cX7_move 99 = .ok (.iload_n 3, 1) := by decide +kernel
set_option maxRecDepth 20000 in
theorem dX7_move_100 : decode cX7_move 100 = .ok (.iadd, 1) := by decide +kernel
set_option maxRecDepth 20000 in
theorem dX7_move_101 : decode cX7_move 101 = .ok (.invokevirtual 198, 3) := by decide +kernel
set_option maxRecDepth 20000 in
theorem dX7_move_104 : decode cX7_move 104 = .ok (.aload_n 0, 1) := by decide +kernel
set_option maxRecDepth 20000 in
theorem dX7_move_105 : decode cX7_move 105 = .ok (.getfield 31, 3) := by decide +kernel
set_option maxRecDepth 20000 in
theorem dX7_move_108 : decode cX7_move 108 = .ok (.iconst 1, 1) := by decide +kernel
set_option maxRecDepth 20000 in
theorem dX7_move_109 : decode cX7_move 109 = .ok (.iload_n 1, 1) := by decide +kernel
set_option maxRecDepth 20000 in
theorem dX7_move_110 : decode cX7_move 110 = .ok (.iload_n 2, 1) := by decide +kernel
set_option maxRecDepth 20000 in
theorem dX7_move_111 : decode cX7_move 111 = .ok (.iload_n 3, 1) := by decide +kernel
set_option maxRecDepth 20000 in
theorem dX7_move_112 : decode cX7_move 112 = .ok (.invokevirtual 202, 3) := by decide +kernel
set_option maxRecDepth 20000 in
theorem dX7_move_115 : decode cX7_move 115 = .ok (.aload 4, 2) := by decide +kernel
set_option maxRecDepth 20000 in
theorem dX7_move_117 : decode cX7_move 117 = .ok (.getfield 189, 3) := by decide +kernel
set_option maxRecDepth 20000 in
theorem dX7_move_120 : decode cX7_move 120 = .ok (.bipush 12, 2) := by decide +kernel
set_option maxRecDepth 20000 in
theorem dX7_move_122 : decode cX7_move 122 = .ok (.imul, 1) := by decide +kernel
set_option maxRecDepth 20000 in
theorem dX7_move_123 : decode cX7_move 123 = .ok (.aload 4, 2) := by decide +kernel
set_option maxRecDepth 20000 in
theorem dX7_move_125 : decode cX7_move 125 = .ok (.getfield 186, 3) := by decide +kernel
set_option maxRecDepth 20000 in
theorem dX7_move_128 : decode cX7_move 128 = .ok (.iadd, 1) := by decide +kernel
set_option maxRecDepth 20000 in
theorem dX7_move_129 : decode cX7_move 129 = .ok (.ireturn, 1) := by decide +kernel
set_option maxRecDepth 20000 in
theorem dX7_shut_0 : decode cX7_shut 0 = .ok (.aload_n 0, 1) := by decide +kernel
set_option maxRecDepth 20000 in
theorem dX7_shut_1 : decode cX7_shut 1 = .ok (.getfield 24, 3) := by decide +kernel
set_option maxRecDepth 20000 in
theorem dX7_shut_4 : decode cX7_shut 4 = .ok (.iload_n 1, 1) := by decide +kernel
set_option maxRecDepth 20000 in
theorem dX7_shut_5 : decode cX7_shut 5 = .ok (.invokevirtual 140, 3) := by decide +kernel
set_option maxRecDepth 20000 in
theorem dX7_shut_8 : decode cX7_shut 8 = .ok (.ifCond .ne 5, 3) := by decide +kernel
set_option maxRecDepth 20000 in
theorem dX7_shut_11 : decode cX7_shut 11 = .ok (.iconst (-1), 1) := by decide +kernel
set_option maxRecDepth 20000 in
theorem dX7_shut_12 : decode cX7_shut 12 = .ok (.ireturn, 1) := by decide +kernel
set_option maxRecDepth 20000 in
theorem dX7_shut_13 : decode cX7_shut 13 = .ok (.aload_n 0, 1) := by decide +kernel
set_option maxRecDepth 20000 in
theorem dX7_shut_14 : decode cX7_shut 14 = .ok (.getfield 31, 3) := by decide +kernel
set_option maxRecDepth 20000 in
theorem dX7_shut_17 : decode cX7_shut 17 = .ok (.iconst 1, 1) := by decide +kernel
set_option maxRecDepth 20000 in
theorem dX7_shut_18 : decode cX7_shut 18 = .ok (.invokevirtual 195, 3) := by decide +kernel
set_option maxRecDepth 20000 in
theorem dX7_shut_21 : decode cX7_shut 21 = .ok (.ifCond .ne 6, 3) := by decide +kernel
set_option maxRecDepth 20000 in
theorem dX7_shut_24 : decode cX7_shut 24 = .ok (.bipush (-2), 2) := by decide +kernel
set_option maxRecDepth 20000 in
theorem dX7_shut_26 : decode cX7_shut 26 = .ok (.ireturn, 1) := by decide +kernel
set_option maxRecDepth 20000 in
theorem dX7_shut_27 : decode cX7_shut 27 = .ok (.aload_n 0, 1) := by decide +kernel
set_option maxRecDepth 20000 in
theorem dX7_shut_28 : decode cX7_shut 28 = .ok (.getfield 24, 3) := by decide +kernel
set_option maxRecDepth 20000 in
theorem dX7_shut_31 : decode cX7_shut 31 = .ok (.getfield 146, 3) := by decide +kernel
set_option maxRecDepth 20000 in
theorem dX7_shut_34 : decode cX7_shut 34 = .ok (.iload_n 1, 1) := by decide +kernel
set_option maxRecDepth 20000 in
theorem dX7_shut_35 : decode cX7_shut 35 = .ok (.aaload, 1) := by decide +kernel
set_option maxRecDepth 20000 in
theorem dX7_shut_36 : decode cX7_shut 36 = .ok (.aload_n 0, 1) := by decide +kernel
set_option maxRecDepth 20000 in
theorem dX7_shut_37 : decode cX7_shut 37 = .ok (.getfield 24, 3) := by decide +kernel
set_option maxRecDepth 20000 in
theorem dX7_shut_40 : decode cX7_shut 40 = .ok (.getfield 146, 3) := by decide +kernel
set_option maxRecDepth 20000 in
theorem dX7_shut_43 : decode cX7_shut 43 = .ok (.iload_n 1, 1) := by decide +kernel
set_option maxRecDepth 20000 in
theorem dX7_shut_44 : decode cX7_shut 44 = .ok (.aaload, 1) := by decide +kernel
set_option maxRecDepth 20000 in
theorem dX7_shut_45 : decode cX7_shut 45 = .ok (.getfield 206, 3) := by decide +kernel
set_option maxRecDepth 20000 in
theorem dX7_shut_48 : decode cX7_shut 48 = .ok (.ifCond .ne 7, 3) := by decide +kernel
set_option maxRecDepth 20000 in
theorem dX7_shut_51 : decode cX7_shut 51 = .ok (.iconst 1, 1) := by decide +kernel
set_option maxRecDepth 20000 in
theorem dX7_shut_52 : decode cX7_shut 52 = .ok (.goto 4, 3) := by decide +kernel
set_option maxRecDepth 20000 in
theorem dX7_shut_55 : decode cX7_shut 55 = .ok (.iconst 0, 1) := by decide +kernel
set_option maxRecDepth 20000 in
theorem dX7_shut_56 : decode cX7_shut 56 = .ok (.putfield 206, 3) := by decide +kernel
set_option maxRecDepth 20000 in
theorem dX7_shut_59 : decode cX7_shut 59 = .ok (.aload_n 0, 1) := by decide +kernel
set_option maxRecDepth 20000 in
theorem dX7_shut_60 : decode cX7_shut 60 = .ok (.getfield 31, 3) := by decide +kernel
set_option maxRecDepth 20000 in
theorem dX7_shut_63 : decode cX7_shut 63 = .ok (.iconst 2, 1) := by decide +kernel
set_option maxRecDepth 20000 in
theorem dX7_shut_64 : decode cX7_shut 64 = .ok (.iload_n 1, 1) := by decide +kernel
set_option maxRecDepth 20000 in
theorem dX7_shut_65 : decode cX7_shut 65 = .ok (.iconst 0, 1) := by decide +kernel
set_option maxRecDepth 20000 in
theorem dX7_shut_66 : decode cX7_shut 66 = .ok (.iconst 0, 1) := by decide +kernel
set_option maxRecDepth 20000 in
theorem dX7_shut_67 : decode cX7_shut 67 = .ok (.invokevirtual 202, 3) := by decide +kernel
set_option maxRecDepth 20000 in
theorem dX7_shut_70 : decode cX7_shut 70 = .ok (.aload_n 0, 1) := by decide +kernel
set_option maxRecDepth 20000 in
theorem dX7_shut_71 : decode cX7_shut 71 = .ok (.getfield 24, 3) := by decide +kernel
set_option maxRecDepth 20000 in
theorem dX7_shut_74 : decode cX7_shut 74 = .ok (.invokevirtual 210, 3) := by decide +kernel
set_option maxRecDepth 20000 in
theorem dX7_shut_77 : decode cX7_shut 77 = .ok (.ireturn, 1) := by decide +kernel
set_option maxRecDepth 20000 in
theorem dX7_undo_0 : decode cX7_undo 0 = .ok (.iload_n 1, 1) := by decide +kernel
set_option maxRecDepth 20000 in
theorem dX7_undo_1 : decode cX7_undo 1 = .ok (.ifCond .lt 14, 3) := by decide +kernel
set_option maxRecDepth 20000 in
theorem dX7_undo_4 : decode cX7_undo 4 = .ok (.iload_n 1, 1) := by decide +kernel
set_option maxRecDepth 20000 in
theorem dX7_undo_5 : decode cX7_undo 5 = .ok (.aload_n 0, 1) := by decide +kernel
set_option maxRecDepth 20000 in
theorem dX7_undo_6 : decode cX7_undo 6 = .ok (.getfield 31, 3) := by decide +kernel
set_option maxRecDepth 20000 in
theorem dX7_undo_9 : decode cX7_undo 9 = .ok (.getfield 85, 3) := by decide +kernel
set_option maxRecDepth 20000 in
theorem dX7_undo_12 : decode cX7_undo 12 = .ok (.if_icmp .le 5, 3) := by decide +kernel
set_option maxRecDepth 20000 in
theorem dX7_undo_15 : decode cX7_undo 15 = .ok (.iconst (-1), 1) := by decide +kernel
set_option maxRecDepth 20000 in
theorem dX7_undo_16 : decode cX7_undo 16 = .ok (.ireturn, 1) := by decide +kernel
set_option maxRecDepth 20000 in
theorem dX7_undo_17 : decode cX7_undo 17 = .ok (.aload_n 0, 1) := by decide +kernel
set_option maxRecDepth 20000 in
theorem dX7_undo_18 : decode cX7_undo 18 = .ok (.getfield 31, 3) := by decide +kernel
set_option maxRecDepth 20000 in
theorem dX7_undo_21 : decode cX7_undo 21 = .ok (.getfield 85, 3) := by decide +kernel
set_option maxRecDepth 20000 in
theorem dX7_undo_24 : decode cX7_undo 24 = .ok (.iload_n 1, 1) := by decide +kernel
set_option maxRecDepth 20000 in
theorem dX7_undo_25 : decode cX7_undo 25 = .ok (.isub, 1) := by decide +kernel
set_option maxRecDepth 20000 in
theorem dX7_undo_26 : decode cX7_undo 26 = .ok (.istore_n 2, 1) := by decide +kernel
set_option maxRecDepth 20000 in
theorem dX7_undo_27 : decode cX7_undo 27 = .ok (.iconst 0, 1) := by decide +kernel
set_option maxRecDepth 20000 in
theorem dX7_undo_28 : decode cX7_undo 28 = .ok (.istore_n 3, 1) := by decide +kernel
set_option maxRecDepth 20000 in
theorem dX7_undo_29 : decode cX7_undo 29 = .ok (.iload_n 3, 1) := by decide +kernel
set_option maxRecDepth 20000 in
theorem dX7_undo_30 : decode cX7_undo 30 = .ok (.iload_n 2, 1) := by decide +kernel
set_option maxRecDepth 20000 in
theorem dX7_undo_31 : decode cX7_undo 31 = .ok (.if_icmp .ge 20, 3) := by decide +kernel
set_option maxRecDepth 20000 in
theorem dX7_undo_34 : decode cX7_undo 34 = .ok (.aload_n 0, 1) := by decide +kernel
set_option maxRecDepth 20000 in
theorem dX7_undo_35 : decode cX7_undo 35 = .ok (.getfield 31, 3) := by decide +kernel
set_option maxRecDepth 20000 in
theorem dX7_undo_38 : decode cX7_undo 38 = .ok (.aload_n 0, 1) := by decide +kernel
set_option maxRecDepth 20000 in
theorem dX7_undo_39 : decode cX7_undo 39 = .ok (.getfield 24, 3) := by decide +kernel
set_option maxRecDepth 20000 in
theorem dX7_undo_42 : decode cX7_undo 42 = .ok (.invokevirtual 213, 3) := by decide +kernel
set_option maxRecDepth 20000 in
theorem dX7_undo_45 : decode cX7_undo 45 = .ok (.iinc 3 1, 3) := by decide +kernel
set_option maxRecDepth 20000 in
theorem dX7_undo_48 : decode cX7_undo 48 = .ok (.goto (-19), 3) := by decide +kernel
set_option maxRecDepth 20000 in
theorem dX7_undo_51 : decode cX7_undo 51 = .ok (.iload_n 2, 1) := by decide +kernel
set_option maxRecDepth 20000 in
theorem dX7_undo_52 : decode cX7_undo 52 = .ok (.ireturn, 1) := by decide +kernel
set_option maxRecDepth 20000 in
theorem dX7_keep_0 : decode cX7_keep 0 = .ok (.iload_n 1, 1) := by decide +kernel
set_option maxRecDepth 20000 in
theorem dX7_keep_1 : decode cX7_keep 1 = .ok (.invokestatic 216, 3) := by decide +kernel
set_option maxRecDepth 20000 in
theorem dX7_keep_4 : decode cX7_keep 4 = .ok (.ifCond .ne 5, 3) := by decide +kernel
set_option maxRecDepth 20000 in
theorem dX7_keep_7 : decode cX7_keep 7 = .ok (.iconst (-1), 1) := by decide +kernel
set_option maxRecDepth 20000 in
theorem dX7_keep_8 : decode cX7_keep 8 = .ok (.ireturn, 1) := by decide +kernel
set_option maxRecDepth 20000 in
theorem dX7_keep_9 : decode cX7_keep 9 = .ok (.aload_n 0, 1) := by decide +kernel
set_option maxRecDepth 20000 in
theorem dX7_keep_10 : decode cX7_keep 10 = .ok (.getfield 24, 3) := by decide +kernel
set_option maxRecDepth 20000 in
theorem dX7_keep_13 : decode cX7_keep 13 = .ok (.getfield 139, 3) := by decide +kernel
set_option maxRecDepth 20000 in
theorem dX7_keep_16 : decode cX7_keep 16 = .ok (.ifCond .ne 6, 3) := by decide +kernel
set_option maxRecDepth 20000 in
theorem dX7_keep_19 : decode cX7_keep 19 = .ok (.bipush (-4), 2) := by decide +kernel
set_option maxRecDepth 20000 in
theorem dX7_keep_21 : decode cX7_keep 21 = .ok (.ireturn, 1) := by decide +kernel
set_option maxRecDepth 20000 in
theorem dX7_keep_22 : decode cX7_keep 22 = .ok (.aload_n 0, 1) := by decide +kernel
set_option maxRecDepth 20000 in
theorem dX7_keep_23 : decode cX7_keep 23 = .ok (.getfield 35, 3) := by decide +kernel
set_option maxRecDepth 20000 in
theorem dX7_keep_26 : decode cX7_keep 26 = .ok (.iload_n 1, 1) := by decide +kernel
set_option maxRecDepth 20000 in
theorem dX7_keep_27 : decode cX7_keep 27 = .ok (.aaload, 1) := by decide +kernel
set_option maxRecDepth 20000 in
theorem dX7_keep_28 : decode cX7_keep 28 = .ok (.aload_n 0, 1) := by decide +kernel
set_option maxRecDepth 20000 in
theorem dX7_keep_29 : decode cX7_keep 29 = .ok (.getfield 24, 3) := by decide +kernel
set_option maxRecDepth 20000 in
theorem dX7_keep_32 : decode cX7_keep 32 = .ok (.invokevirtual 135, 3) := by decide +kernel
set_option maxRecDepth 20000 in
theorem dX7_keep_35 : decode cX7_keep 35 = .ok (.aload_n 0, 1) := by decide +kernel
set_option maxRecDepth 20000 in
theorem dX7_keep_36 : decode cX7_keep 36 = .ok (.getfield 39, 3) := by decide +kernel
set_option maxRecDepth 20000 in
theorem dX7_keep_39 : decode cX7_keep 39 = .ok (.iload_n 1, 1) := by decide +kernel
set_option maxRecDepth 20000 in
theorem dX7_keep_40 : decode cX7_keep 40 = .ok (.aaload, 1) := by decide +kernel
set_option maxRecDepth 20000 in
theorem dX7_keep_41 : decode cX7_keep 41 = .ok (.aload_n 0, 1) := by decide +kernel
set_option maxRecDepth 20000 in
theorem dX7_keep_42 : decode cX7_keep 42 = .ok (.getfield 31, 3) := by decide +kernel
set_option maxRecDepth 20000 in
theorem dX7_keep_45 : decode cX7_keep 45 = .ok (.invokevirtual 219, 3) := by decide +kernel
set_option maxRecDepth 20000 in
theorem dX7_keep_48 : decode cX7_keep 48 = .ok (.aload_n 0, 1) := by decide +kernel
set_option maxRecDepth 20000 in
theorem dX7_keep_49 : decode cX7_keep 49 = .ok (.getfield 31, 3) := by decide +kernel
set_option maxRecDepth 20000 in
theorem dX7_keep_52 : decode cX7_keep 52 = .ok (.getfield 85, 3) := by decide +kernel
set_option maxRecDepth 20000 in
theorem dX7_keep_55 : decode cX7_keep 55 = .ok (.ireturn, 1) := by decide +kernel
set_option maxRecDepth 20000 in
theorem dX7_on_0 : decode cX7_on 0 = .ok (.iload_n 1, 1) := by decide +kernel
set_option maxRecDepth 20000 in
theorem dX7_on_1 : decode cX7_on 1 = .ok (.invokestatic 216, 3) := by decide +kernel
set_option maxRecDepth 20000 in
theorem dX7_on_4 : decode cX7_on 4 = .ok (.ifCond .ne 5, 3) := by decide +kernel
set_option maxRecDepth 20000 in
theorem dX7_on_7 : decode cX7_on 7 = .ok (.iconst (-1), 1) := by decide +kernel
set_option maxRecDepth 20000 in
theorem dX7_on_8 : decode cX7_on 8 = .ok (.ireturn, 1) := by decide +kernel
set_option maxRecDepth 20000 in
theorem dX7_on_9 : decode cX7_on 9 = .ok (.aload_n 0, 1) := by decide +kernel
set_option maxRecDepth 20000 in
theorem dX7_on_10 : decode cX7_on 10 = .ok (.getfield 39, 3) := by decide +kernel
set_option maxRecDepth 20000 in
theorem dX7_on_13 : decode cX7_on 13 = .ok (.iload_n 1, 1) := by decide +kernel
set_option maxRecDepth 20000 in
theorem dX7_on_14 : decode cX7_on 14 = .ok (.aaload, 1) := by decide +kernel
set_option maxRecDepth 20000 in
theorem dX7_on_15 : decode cX7_on 15 = .ok (.getfield 85, 3) := by decide +kernel
set_option maxRecDepth 20000 in
theorem dX7_on_18 : decode cX7_on 18 = .ok (.iconst (-1), 1) := by decide +kernel
set_option maxRecDepth 20000 in
theorem dX7_on_19 : decode cX7_on 19 = .ok (.if_icmp .ne 9, 3) := by decide +kernel
set_option maxRecDepth 20000 in
theorem dX7_on_22 : decode cX7_on 22 = .ok (.aload_n 0, 1) := by decide +kernel
set_option maxRecDepth 20000 in
theorem dX7_on_23 : decode cX7_on 23 = .ok (.iconst 1, 1) := by decide +kernel
set_option maxRecDepth 20000 in
theorem dX7_on_24 : decode cX7_on 24 = .ok (.invokevirtual 92, 3) := by decide +kernel
set_option maxRecDepth 20000 in
theorem dX7_on_27 : decode cX7_on 27 = .ok (.ireturn, 1) := by decide +kernel
set_option maxRecDepth 20000 in
theorem dX7_on_28 : decode cX7_on 28 = .ok (.aload_n 0, 1) := by decide +kernel
set_option maxRecDepth 20000 in
theorem dX7_on_29 : decode cX7_on 29 = .ok (.getfield 24, 3) := by decide +kernel
set_option maxRecDepth 20000 in
theorem dX7_on_32 : decode cX7_on 32 = .ok (.aload_n 0, 1) := by decide +kernel
set_option maxRecDepth 20000 in
theorem dX7_on_33 : decode cX7_on 33 = .ok (.getfield 35, 3) := by decide +kernel
set_option maxRecDepth 20000 in
theorem dX7_on_36 : decode cX7_on 36 = .ok (.iload_n 1, 1) := by decide +kernel
set_option maxRecDepth 20000 in
theorem dX7_on_37 : decode cX7_on 37 = .ok (.aaload, 1) := by decide +kernel
set_option maxRecDepth 20000 in
theorem dX7_on_38 : decode cX7_on 38 = .ok (.invokevirtual 135, 3) := by decide +kernel
set_option maxRecDepth 20000 in
theorem dX7_on_41 : decode cX7_on 41 = .ok (.aload_n 0, 1) := by decide +kernel
set_option maxRecDepth 20000 in
theorem dX7_on_42 : decode cX7_on 42 = .ok (.getfield 31, 3) := by decide +kernel
set_option maxRecDepth 20000 in
theorem dX7_on_45 : decode cX7_on 45 = .ok (.aload_n 0, 1) := by decide +kernel
set_option maxRecDepth 20000 in
theorem dX7_on_46 : decode cX7_on 46 = .ok (.getfield 39, 3) := by decide +kernel
set_option maxRecDepth 20000 in
theorem dX7_on_49 : decode cX7_on 49 = .ok (.iload_n 1, 1) := by decide +kernel
set_option maxRecDepth 20000 in
theorem dX7_on_50 : decode cX7_on 50 = .ok (.aaload, 1) := by decide +kernel
set_option maxRecDepth 20000 in
theorem dX7_on_51 : decode cX7_on 51 = .ok (.invokevirtual 219, 3) := by decide +kernel
set_option maxRecDepth 20000 in
theorem dX7_on_54 : decode cX7_on 54 = .ok (.aload_n 0, 1) := by decide +kernel
set_option maxRecDepth 20000 in
theorem dX7_on_55 : decode cX7_on 55 = .ok (.getfield 31, 3) := by decide +kernel
set_option maxRecDepth 20000 in
theorem dX7_on_58 : decode cX7_on 58 = .ok (.getfield 85, 3) := by decide +kernel
set_option maxRecDepth 20000 in
theorem dX7_on_61 : decode cX7_on 61 = .ok (.ireturn, 1) := by decide +kernel
set_option maxRecDepth 20000 in
theorem dX7_seen_0 : decode cX7_seen 0 = .ok (.iload_n 1, 1) := by decide +kernel
set_option maxRecDepth 20000 in
theorem dX7_seen_1 : decode cX7_seen 1 = .ok (.invokestatic 174, 3) := by decide +kernel
set_option maxRecDepth 20000 in
theorem dX7_seen_4 : decode cX7_seen 4 = .ok (.ifCond .ne 5, 3) := by decide +kernel
set_option maxRecDepth 20000 in
theorem dX7_seen_7 : decode cX7_seen 7 = .ok (.iconst (-1), 1) := by decide +kernel
set_option maxRecDepth 20000 in
theorem dX7_seen_8 : decode cX7_seen 8 = .ok (.ireturn, 1) := by decide +kernel
set_option maxRecDepth 20000 in
theorem dX7_seen_9 : decode cX7_seen 9 = .ok (.aload_n 0, 1) := by decide +kernel
set_option maxRecDepth 20000 in
theorem dX7_seen_10 : decode cX7_seen 10 = .ok (.getfield 24, 3) := by decide +kernel
set_option maxRecDepth 20000 in
theorem dX7_seen_13 : decode cX7_seen 13 = .ok (.iload_n 1, 1) := by decide +kernel
set_option maxRecDepth 20000 in
theorem dX7_seen_14 : decode cX7_seen 14 = .ok (.invokevirtual 222, 3) := by decide +kernel
set_option maxRecDepth 20000 in
theorem dX7_seen_17 : decode cX7_seen 17 = .ok (.istore_n 2, 1) := by decide +kernel
set_option maxRecDepth 20000 in
theorem dX7_seen_18 : decode cX7_seen 18 = .ok (.iload_n 2, 1) := by decide +kernel
set_option maxRecDepth 20000 in
theorem dX7_seen_19 : decode cX7_seen 19 = .ok (.iconst (-1), 1) := by decide +kernel
set_option maxRecDepth 20000 in
theorem dX7_seen_20 : decode cX7_seen 20 = .ok (.if_icmp .ne 6, 3) := by decide +kernel
set_option maxRecDepth 20000 in
theorem dX7_seen_23 : decode cX7_seen 23 = .ok (.bipush (-9), 2) := by decide +kernel
set_option maxRecDepth 20000 in
theorem dX7_seen_25 : decode cX7_seen 25 = .ok (.ireturn, 1) := by decide +kernel
set_option maxRecDepth 20000 in
theorem dX7_seen_26 : decode cX7_seen 26 = .ok (.aload_n 0, 1) := by decide +kernel
set_option maxRecDepth 20000 in
theorem dX7_seen_27 : decode cX7_seen 27 = .ok (.aload_n 0, 1) := by decide +kernel
set_option maxRecDepth 20000 in
theorem dX7_seen_28 : decode cX7_seen 28 = .ok (.getfield 24, 3) := by decide +kernel
set_option maxRecDepth 20000 in
theorem dX7_seen_31 : decode cX7_seen 31 = .ok (.iload_n 1, 1) := by decide +kernel
set_option maxRecDepth 20000 in
theorem dX7_seen_32 : decode cX7_seen 32 = .ok (.invokevirtual 225, 3) := by decide +kernel
set_option maxRecDepth 20000 in
theorem dX7_seen_35 : decode cX7_seen 35 = .ok (.putfield 73, 3) := by decide +kernel
set_option maxRecDepth 20000 in
theorem dX7_seen_38 : decode cX7_seen 38 = .ok (.iload_n 2, 1) := by decide +kernel
set_option maxRecDepth 20000 in
theorem dX7_seen_39 : decode cX7_seen 39 = .ok (.ireturn, 1) := by decide +kernel
set_option maxRecDepth 20000 in
theorem dX7_buried_0 : decode cX7_buried 0 = .ok (.aload_n 0, 1) := by decide +kernel
set_option maxRecDepth 20000 in
theorem dX7_buried_1 : decode cX7_buried 1 = .ok (.bipush 96, 2) := by decide +kernel
set_option maxRecDepth 20000 in
theorem dX7_buried_3 : decode cX7_buried 3 = .ok (.aload_n 0, 1) := by decide +kernel
set_option maxRecDepth 20000 in
theorem dX7_buried_4 : decode cX7_buried 4 = .ok (.getfield 24, 3) := by decide +kernel
set_option maxRecDepth 20000 in
theorem dX7_buried_7 : decode cX7_buried 7 = .ok (.invokevirtual 228, 3) := by decide +kernel
set_option maxRecDepth 20000 in
theorem dX7_buried_10 : decode cX7_buried 10 = .ok (.isub, 1) := by decide +kernel
set_option maxRecDepth 20000 in
theorem dX7_buried_11 : decode cX7_buried 11 = .ok (.putfield 73, 3) := by decide +kernel
set_option maxRecDepth 20000 in
theorem dX7_buried_14 : decode cX7_buried 14 = .ok (.aload_n 0, 1) := by decide +kernel
set_option maxRecDepth 20000 in
theorem dX7_buried_15 : decode cX7_buried 15 = .ok (.getfield 24, 3) := by decide +kernel
set_option maxRecDepth 20000 in
theorem dX7_buried_18 : decode cX7_buried 18 = .ok (.invokevirtual 231, 3) := by decide +kernel
set_option maxRecDepth 20000 in
theorem dX7_buried_21 : decode cX7_buried 21 = .ok (.ireturn, 1) := by decide +kernel
set_option maxRecDepth 20000 in
theorem dX7_both_0 : decode cX7_both 0 = .ok (.aload_n 0, 1) := by decide +kernel
set_option maxRecDepth 20000 in
theorem dX7_both_1 : decode cX7_both 1 = .ok (.getfield 24, 3) := by decide +kernel
set_option maxRecDepth 20000 in
theorem dX7_both_4 : decode cX7_both 4 = .ok (.iload_n 1, 1) := by decide +kernel
set_option maxRecDepth 20000 in
theorem dX7_both_5 : decode cX7_both 5 = .ok (.invokevirtual 140, 3) := by decide +kernel
set_option maxRecDepth 20000 in
theorem dX7_both_8 : decode cX7_both 8 = .ok (.ifCond .eq 19, 3) := by decide +kernel
set_option maxRecDepth 20000 in
theorem dX7_both_11 : decode cX7_both 11 = .ok (.aload_n 0, 1) := by decide +kernel
set_option maxRecDepth 20000 in
theorem dX7_both_12 : decode cX7_both 12 = .ok (.getfield 24, 3) := by decide +kernel
set_option maxRecDepth 20000 in
theorem dX7_both_15 : decode cX7_both 15 = .ok (.iload_n 2, 1) := by decide +kernel
set_option maxRecDepth 20000 in
theorem dX7_both_16 : decode cX7_both 16 = .ok (.invokevirtual 140, 3) := by decide +kernel
set_option maxRecDepth 20000 in
theorem dX7_both_19 : decode cX7_both 19 = .ok (.ifCond .eq 8, 3) := by decide +kernel
set_option maxRecDepth 20000 in
theorem dX7_both_22 : decode cX7_both 22 = .ok (.iload_n 1, 1) := by decide +kernel
set_option maxRecDepth 20000 in
theorem dX7_both_23 : decode cX7_both 23 = .ok (.iload_n 2, 1) := by decide +kernel
set_option maxRecDepth 20000 in
theorem dX7_both_24 : decode cX7_both 24 = .ok (.if_icmp .ne 5, 3) := by decide +kernel
set_option maxRecDepth 20000 in
theorem dX7_both_27 : decode cX7_both 27 = .ok (.iconst (-1), 1) := by decide +kernel
set_option maxRecDepth 20000 in
theorem dX7_both_28 : decode cX7_both 28 = .ok (.ireturn, 1) := by decide +kernel
set_option maxRecDepth 20000 in
theorem dX7_both_29 : decode cX7_both 29 = .ok (.aload_n 0, 1) := by decide +kernel
set_option maxRecDepth 20000 in
theorem dX7_both_30 : decode cX7_both 30 = .ok (.getfield 24, 3) := by decide +kernel
set_option maxRecDepth 20000 in
theorem dX7_both_33 : decode cX7_both 33 = .ok (.getfield 146, 3) := by decide +kernel
set_option maxRecDepth 20000 in
theorem dX7_both_36 : decode cX7_both 36 = .ok (.iload_n 1, 1) := by decide +kernel
set_option maxRecDepth 20000 in
theorem dX7_both_37 : decode cX7_both 37 = .ok (.aaload, 1) := by decide +kernel
set_option maxRecDepth 20000 in
theorem dX7_both_38 : decode cX7_both 38 = .ok (.astore_n 3, 1) := by decide +kernel
set_option maxRecDepth 20000 in
theorem dX7_both_39 : decode cX7_both 39 = .ok (.aload_n 0, 1) := by decide +kernel
set_option maxRecDepth 20000 in
theorem dX7_both_40 : decode cX7_both 40 = .ok (.getfield 24, 3) := by decide +kernel
set_option maxRecDepth 20000 in
theorem dX7_both_43 : decode cX7_both 43 = .ok (.getfield 146, 3) := by decide +kernel
set_option maxRecDepth 20000 in
theorem dX7_both_46 : decode cX7_both 46 = .ok (.iload_n 2, 1) := by decide +kernel
set_option maxRecDepth 20000 in
theorem dX7_both_47 : decode cX7_both 47 = .ok (.aaload, 1) := by decide +kernel
set_option maxRecDepth 20000 in
theorem dX7_both_48 : decode cX7_both 48 = .ok (.astore 4, 2) := by decide +kernel
set_option maxRecDepth 20000 in
theorem dX7_both_50 : decode cX7_both 50 = .ok (.aload_n 0, 1) := by decide +kernel
set_option maxRecDepth 20000 in
theorem dX7_both_51 : decode cX7_both 51 = .ok (.aload_n 3, 1) := by decide +kernel
set_option maxRecDepth 20000 in
theorem dX7_both_52 : decode cX7_both 52 = .ok (.invokevirtual 234, 3) := by decide +kernel
set_option maxRecDepth 20000 in
theorem dX7_both_55 : decode cX7_both 55 = .ok (.aload 4, 2) := by decide +kernel
set_option maxRecDepth 20000 in
theorem dX7_both_57 : decode cX7_both 57 = .ok (.invokevirtual 234, 3) := by decide +kernel
set_option maxRecDepth 20000 in
theorem dX7_both_60 : decode cX7_both 60 = .ok (.if_icmp .le 7, 3) := by decide +kernel
set_option maxRecDepth 20000 in
theorem dX7_both_63 : decode cX7_both 63 = .ok (.iload_n 1, 1) := by decide +kernel
set_option maxRecDepth 20000 in
theorem dX7_both_64 : decode cX7_both 64 = .ok (.goto 4, 3) := by decide +kernel
set_option maxRecDepth 20000 in
theorem dX7_both_67 : decode cX7_both 67 = .ok (.iload_n 2, 1) := by decide +kernel
set_option maxRecDepth 20000 in
theorem dX7_both_68 : decode cX7_both 68 = .ok (.putfield 73, 3) := by decide +kernel
set_option maxRecDepth 20000 in
theorem dX7_both_71 : decode cX7_both 71 = .ok (.aload_n 3, 1) := by decide +kernel
set_option maxRecDepth 20000 in
theorem dX7_both_72 : decode cX7_both 72 = .ok (.aload 4, 2) := by decide +kernel
set_option maxRecDepth 20000 in
theorem dX7_both_74 : decode cX7_both 74 = .ok (.invokevirtual 237, 3) := by decide +kernel
set_option maxRecDepth 20000 in
theorem dX7_both_77 : decode cX7_both 77 = .ok (.ireturn, 1) := by decide +kernel
set_option maxRecDepth 20000 in
theorem dX7_free_0 : decode cX7_free 0 = .ok (.aload_n 0, 1) := by decide +kernel
set_option maxRecDepth 20000 in
theorem dX7_free_1 : decode cX7_free 1 = .ok (.iload_n 1, 1) := by decide +kernel
set_option maxRecDepth 20000 in
theorem dX7_free_2 : decode cX7_free 2 = .ok (.invokevirtual 241, 3) := by decide +kernel
set_option maxRecDepth 20000 in
theorem dX7_free_5 : decode cX7_free 5 = .ok (.istore_n 2, 1) := by decide +kernel
set_option maxRecDepth 20000 in
theorem dX7_free_6 : decode cX7_free 6 = .ok (.iload_n 2, 1) := by decide +kernel
set_option maxRecDepth 20000 in
theorem dX7_free_7 : decode cX7_free 7 = .ok (.ifCond .eq 5, 3) := by decide +kernel
set_option maxRecDepth 20000 in
theorem dX7_free_10 : decode cX7_free 10 = .ok (.iload_n 2, 1) := by decide +kernel
set_option maxRecDepth 20000 in
theorem dX7_free_11 : decode cX7_free 11 = .ok (.ireturn, 1) := by decide +kernel
set_option maxRecDepth 20000 in
theorem dX7_free_12 : decode cX7_free 12 = .ok (.aload_n 0, 1) := by decide +kernel
set_option maxRecDepth 20000 in
theorem dX7_free_13 : decode cX7_free 13 = .ok (.getfield 24, 3) := by decide +kernel
set_option maxRecDepth 20000 in
theorem dX7_free_16 : decode cX7_free 16 = .ok (.iload_n 1, 1) := by decide +kernel
set_option maxRecDepth 20000 in
theorem dX7_free_17 : decode cX7_free 17 = .ok (.invokevirtual 244, 3) := by decide +kernel
set_option maxRecDepth 20000 in
theorem dX7_free_20 : decode cX7_free 20 = .ok (.istore_n 3, 1) := by decide +kernel
set_option maxRecDepth 20000 in
theorem dX7_free_21 : decode cX7_free 21 = .ok (.aload_n 0, 1) := by decide +kernel
set_option maxRecDepth 20000 in
theorem dX7_free_22 : decode cX7_free 22 = .ok (.iload_n 3, 1) := by decide +kernel
set_option maxRecDepth 20000 in
theorem dX7_free_23 : decode cX7_free 23 = .ok (.invokestatic 247, 3) := by decide +kernel
set_option maxRecDepth 20000 in
theorem dX7_free_26 : decode cX7_free 26 = .ok (.putfield 73, 3) := by decide +kernel
set_option maxRecDepth 20000 in
theorem dX7_free_29 : decode cX7_free 29 = .ok (.iload_n 3, 1) := by decide +kernel
set_option maxRecDepth 20000 in
theorem dX7_free_30 : decode cX7_free 30 = .ok (.ireturn, 1) := by decide +kernel
set_option maxRecDepth 20000 in
theorem dX7_shift_0 : decode cX7_shift 0 = .ok (.aload_n 0, 1) := by decide +kernel
set_option maxRecDepth 20000 in
theorem dX7_shift_1 : decode cX7_shift 1 = .ok (.iload_n 1, 1) := by decide +kernel
set_option maxRecDepth 20000 in
theorem dX7_shift_2 : decode cX7_shift 2 = .ok (.invokevirtual 241, 3) := by decide +kernel
set_option maxRecDepth 20000 in
theorem dX7_shift_5 : decode cX7_shift 5 = .ok (.istore_n 2, 1) := by decide +kernel
set_option maxRecDepth 20000 in
theorem dX7_shift_6 : decode cX7_shift 6 = .ok (.iload_n 2, 1) := by decide +kernel
set_option maxRecDepth 20000 in
theorem dX7_shift_7 : decode cX7_shift 7 = .ok (.ifCond .eq 5, 3) := by decide +kernel
set_option maxRecDepth 20000 in
theorem dX7_shift_10 : decode cX7_shift 10 = .ok (.iload_n 2, 1) := by decide +kernel
set_option maxRecDepth 20000 in
theorem dX7_shift_11 : decode cX7_shift 11 = .ok (.ireturn, 1) := by decide +kernel
set_option maxRecDepth 20000 in
theorem dX7_shift_12 : decode cX7_shift 12 = .ok (.aload_n 0, 1) := by decide +kernel
set_option maxRecDepth 20000 in
theorem dX7_shift_13 : decode cX7_shift 13 = .ok (.getfield 43, 3) := by decide +kernel
set_option maxRecDepth 20000 in
theorem dX7_shift_16 : decode cX7_shift 16 = .ok (.aload_n 0, 1) := by decide +kernel
set_option maxRecDepth 20000 in
theorem dX7_shift_17 : decode cX7_shift 17 = .ok (.getfield 24, 3) := by decide +kernel
set_option maxRecDepth 20000 in
theorem dX7_shift_20 : decode cX7_shift 20 = .ok (.invokevirtual 135, 3) := by decide +kernel
set_option maxRecDepth 20000 in
theorem dX7_shift_23 : decode cX7_shift 23 = .ok (.aload_n 0, 1) := by decide +kernel
set_option maxRecDepth 20000 in
theorem dX7_shift_24 : decode cX7_shift 24 = .ok (.getfield 43, 3) := by decide +kernel
set_option maxRecDepth 20000 in
theorem dX7_shift_27 : decode cX7_shift 27 = .ok (.getfield 146, 3) := by decide +kernel
set_option maxRecDepth 20000 in
theorem dX7_shift_30 : decode cX7_shift 30 = .ok (.iload_n 1, 1) := by decide +kernel
set_option maxRecDepth 20000 in
theorem dX7_shift_31 : decode cX7_shift 31 = .ok (.aaload, 1) := by decide +kernel
set_option maxRecDepth 20000 in
theorem dX7_shift_32 : decode cX7_shift 32 = .ok (.astore_n 3, 1) := by decide +kernel
set_option maxRecDepth 20000 in
theorem dX7_shift_33 : decode cX7_shift 33 = .ok (.aload_n 3, 1) := by decide +kernel
set_option maxRecDepth 20000 in
theorem dX7_shift_34 : decode cX7_shift 34 = .ok (.getfield 186, 3) := by decide +kernel
set_option maxRecDepth 20000 in
theorem dX7_shift_37 : decode cX7_shift 37 = .ok (.istore 4, 2) := by decide +kernel
set_option maxRecDepth 20000 in
theorem dX7_shift_39 : decode cX7_shift 39 = .ok (.aload_n 3, 1) := by decide +kernel
set_option maxRecDepth 20000 in
theorem dX7_shift_40 : decode cX7_shift 40 = .ok (.getfield 189, 3) := by decide +kernel
set_option maxRecDepth 20000 in
theorem dX7_shift_43 : decode cX7_shift 43 = .ok (.istore 5, 2) := by decide +kernel
set_option maxRecDepth 20000 in
theorem dX7_shift_45 : decode cX7_shift 45 = .ok (.iconst (-1), 1) := by decide +kernel
set_option maxRecDepth 20000 in
theorem dX7_shift_46 : decode cX7_shift 46 = .ok (.istore 6, 2) := by decide +kernel
set_option maxRecDepth 20000 in
theorem dX7_shift_48 : decode cX7_shift 48 = .ok (.iconst 0, 1) := by decide +kernel
set_option maxRecDepth 20000 in
theorem dX7_shift_49 : decode cX7_shift 49 = .ok (.istore 7, 2) := by decide +kernel
set_option maxRecDepth 20000 in
theorem dX7_shift_51 : decode cX7_shift 51 = .ok (.bipush (-3), 2) := by decide +kernel
set_option maxRecDepth 20000 in
theorem dX7_shift_53 : decode cX7_shift 53 = .ok (.istore 8, 2) := by decide +kernel
set_option maxRecDepth 20000 in
theorem dX7_shift_55 : decode cX7_shift 55 = .ok (.iload 8, 2) := by decide +kernel
set_option maxRecDepth 20000 in
theorem dX7_shift_57 : decode cX7_shift 57 = .ok (.iconst 3, 1) := by decide +kernel
set_option maxRecDepth 20000 in
theorem dX7_shift_58 : decode cX7_shift 58 = .ok (.if_icmp .gt 94, 3) := by decide +kernel
set_option maxRecDepth 20000 in
theorem dX7_shift_61 : decode cX7_shift 61 = .ok (.bipush (-3), 2) := by decide +kernel
set_option maxRecDepth 20000 in
theorem dX7_shift_63 : decode cX7_shift 63 = .ok (.istore 9, 2) := by decide +kernel
set_option maxRecDepth 20000 in
theorem dX7_shift_65 : decode cX7_shift 65 = .ok (.iload 9, 2) := by decide +kernel
set_option maxRecDepth 20000 in
theorem dX7_shift_67 : decode cX7_shift 67 = .ok (.iconst 3, 1) := by decide +kernel
set_option maxRecDepth 20000 in
theorem dX7_shift_68 : decode cX7_shift 68 = .ok (.if_icmp .gt 78, 3) := by decide +kernel
set_option maxRecDepth 20000 in
theorem dX7_shift_71 : decode cX7_shift 71 = .ok (.iconst (-1), 1) := by decide +kernel
set_option maxRecDepth 20000 in
theorem dX7_shift_72 : decode cX7_shift 72 = .ok (.istore 10, 2) := by decide +kernel
set_option maxRecDepth 20000 in
theorem dX7_shift_74 : decode cX7_shift 74 = .ok (.aload_n 3, 1) := by decide +kernel
set_option maxRecDepth 20000 in
theorem dX7_shift_75 : decode cX7_shift 75 = .ok (.iload 4, 2) := by decide +kernel
set_option maxRecDepth 20000 in
theorem dX7_shift_77 : decode cX7_shift 77 = .ok (.iload 8, 2) := by decide +kernel
set_option maxRecDepth 20000 in
theorem dX7_shift_79 : decode cX7_shift 79 = .ok (.iadd, 1) := by decide +kernel
set_option maxRecDepth 20000 in
theorem dX7_shift_80 : decode cX7_shift 80 = .ok (.iload 5, 2) := by decide +kernel
set_option maxRecDepth 20000 in
theorem dX7_shift_82 : decode cX7_shift 82 = .ok (.iload 9, 2) := by decide +kernel
set_option maxRecDepth 20000 in
theorem dX7_shift_84 : decode cX7_shift 84 = .ok (.iadd, 1) := by decide +kernel
set_option maxRecDepth 20000 in
theorem dX7_shift_85 : decode cX7_shift 85 = .ok (.invokevirtual 192, 3) := by decide +kernel
set_option maxRecDepth 20000 in
theorem dX7_shift_88 : decode cX7_shift 88 = .ok (.ifCond .eq 27, 3) := by decide +kernel
set_option maxRecDepth 20000 in
theorem dX7_shift_91 : decode cX7_shift 91 = .ok (.aload_n 3, 1) := by decide +kernel
set_option maxRecDepth 20000 in
theorem dX7_shift_92 : decode cX7_shift 92 = .ok (.iload 4, 2) := by decide +kernel
set_option maxRecDepth 20000 in
theorem dX7_shift_94 : decode cX7_shift 94 = .ok (.iload 8, 2) := by decide +kernel
set_option maxRecDepth 20000 in
theorem dX7_shift_96 : decode cX7_shift 96 = .ok (.iadd, 1) := by decide +kernel
set_option maxRecDepth 20000 in
theorem dX7_shift_97 : decode cX7_shift 97 = .ok (.iload 5, 2) := by decide +kernel
set_option maxRecDepth 20000 in
theorem dX7_shift_99 : decode cX7_shift 99 = .ok (.iload 9, 2) := by decide +kernel
set_option maxRecDepth 20000 in
theorem dX7_shift_101 : decode cX7_shift 101 = .ok (.iadd, 1) := by decide +kernel
set_option maxRecDepth 20000 in
theorem dX7_shift_102 : decode cX7_shift 102 = .ok (.invokevirtual 198, 3) := by decide +kernel
set_option maxRecDepth 20000 in
theorem dX7_shift_105 : decode cX7_shift 105 = .ok (.aload_n 0, 1) := by decide +kernel
set_option maxRecDepth 20000 in
theorem dX7_shift_106 : decode cX7_shift 106 = .ok (.getfield 43, 3) := by decide +kernel
set_option maxRecDepth 20000 in
theorem dX7_shift_109 : decode cX7_shift 109 = .ok (.iload_n 1, 1) := by decide +kernel
set_option maxRecDepth 20000 in
theorem dX7_shift_110 : decode cX7_shift 110 = .ok (.invokevirtual 252, 3) := by decide +kernel
set_option maxRecDepth 20000 in
theorem dX7_shift_113 : decode cX7_shift 113 = .ok (.istore 10, 2) := by decide +kernel
set_option maxRecDepth 20000 in
theorem dX7_shift_115 : decode cX7_shift 115 = .ok (.iload 10, 2) := by decide +kernel
set_option maxRecDepth 20000 in
theorem dX7_shift_117 : decode cX7_shift 117 = .ok (.iload 6, 2) := by decide +kernel
set_option maxRecDepth 20000 in
theorem dX7_shift_119 : decode cX7_shift 119 = .ok (.if_icmp .le 21, 3) := by decide +kernel
set_option maxRecDepth 20000 in
theorem dX7_shift_122 : decode cX7_shift 122 = .ok (.iload 10, 2) := by decide +kernel
set_option maxRecDepth 20000 in
theorem dX7_shift_124 : decode cX7_shift 124 = .ok (.istore 6, 2) := by decide +kernel
set_option maxRecDepth 20000 in
theorem dX7_shift_126 : decode cX7_shift 126 = .ok (.bipush 10, 2) := by decide +kernel
set_option maxRecDepth 20000 in
theorem dX7_shift_128 : decode cX7_shift 128 = .ok (.iconst 3, 1) := by decide +kernel
set_option maxRecDepth 20000 in
theorem dX7_shift_129 : decode cX7_shift 129 = .ok (.iload 8, 2) := by decide +kernel
set_option maxRecDepth 20000 in
theorem dX7_shift_131 : decode cX7_shift 131 = .ok (.iadd, 1) := by decide +kernel
set_option maxRecDepth 20000 in
theorem dX7_shift_132 : decode cX7_shift 132 = .ok (.imul, 1) := by decide +kernel
set_option maxRecDepth 20000 in
theorem dX7_shift_133 : decode cX7_shift 133 = .ok (.iconst 3, 1) := by decide +kernel
set_option maxRecDepth 20000 in
theorem dX7_shift_134 : decode cX7_shift 134 = .ok (.iadd, 1) := by decide +kernel
set_option maxRecDepth 20000 in
theorem dX7_shift_135 : decode cX7_shift 135 = .ok (.iload 9, 2) := by decide +kernel
set_option maxRecDepth 20000 in
theorem dX7_shift_137 : decode cX7_shift 137 = .ok (.iadd, 1) := by decide +kernel
set_option maxRecDepth 20000 in
theorem dX7_shift_138 : decode cX7_shift 138 = .ok (.istore 7, 2) := by decide +kernel
set_option maxRecDepth 20000 in
theorem dX7_shift_140 : decode cX7_shift 140 = .ok (.iinc 9 1, 3) := by decide +kernel
set_option maxRecDepth 20000 in
theorem dX7_shift_143 : decode cX7_shift 143 = .ok (.goto (-78), 3) := by decide +kernel
set_option maxRecDepth 20000 in
theorem dX7_shift_146 : decode cX7_shift 146 = .ok (.iinc 8 1, 3) := by decide +kernel
set_option maxRecDepth 20000 in
theorem dX7_shift_149 : decode cX7_shift 149 = .ok (.goto (-94), 3) := by decide +kernel
set_option maxRecDepth 20000 in
theorem dX7_shift_152 : decode cX7_shift 152 = .ok (.aload_n 0, 1) := by decide +kernel
set_option maxRecDepth 20000 in
theorem dX7_shift_153 : decode cX7_shift 153 = .ok (.iload 6, 2) := by decide +kernel
set_option maxRecDepth 20000 in
theorem dX7_shift_155 : decode cX7_shift 155 = .ok (.putfield 73, 3) := by decide +kernel
set_option maxRecDepth 20000 in
theorem dX7_shift_158 : decode cX7_shift 158 = .ok (.iload 7, 2) := by decide +kernel
set_option maxRecDepth 20000 in
theorem dX7_shift_160 : decode cX7_shift 160 = .ok (.ireturn, 1) := by decide +kernel
set_option maxRecDepth 20000 in
theorem dX7_order_0 : decode cX7_order 0 = .ok (.iload_n 1, 1) := by decide +kernel
set_option maxRecDepth 20000 in
theorem dX7_order_1 : decode cX7_order 1 = .ok (.invokestatic 88, 3) := by decide +kernel
set_option maxRecDepth 20000 in
theorem dX7_order_4 : decode cX7_order 4 = .ok (.ifCond .ne 5, 3) := by decide +kernel
set_option maxRecDepth 20000 in
theorem dX7_order_7 : decode cX7_order 7 = .ok (.iconst (-1), 1) := by decide +kernel
set_option maxRecDepth 20000 in
theorem dX7_order_8 : decode cX7_order 8 = .ok (.ireturn, 1) := by decide +kernel
set_option maxRecDepth 20000 in
theorem dX7_order_9 : decode cX7_order 9 = .ok (.aload_n 0, 1) := by decide +kernel
set_option maxRecDepth 20000 in
theorem dX7_order_10 : decode cX7_order 10 = .ok (.getfield 24, 3) := by decide +kernel
set_option maxRecDepth 20000 in
theorem dX7_order_13 : decode cX7_order 13 = .ok (.getfield 139, 3) := by decide +kernel
set_option maxRecDepth 20000 in
theorem dX7_order_16 : decode cX7_order 16 = .ok (.ifCond .ne 6, 3) := by decide +kernel
set_option maxRecDepth 20000 in
theorem dX7_order_19 : decode cX7_order 19 = .ok (.bipush (-4), 2) := by decide +kernel
set_option maxRecDepth 20000 in
theorem dX7_order_21 : decode cX7_order 21 = .ok (.ireturn, 1) := by decide +kernel
set_option maxRecDepth 20000 in
theorem dX7_order_22 : decode cX7_order 22 = .ok (.aload_n 0, 1) := by decide +kernel
set_option maxRecDepth 20000 in
theorem dX7_order_23 : decode cX7_order 23 = .ok (.getfield 11, 3) := by decide +kernel
set_option maxRecDepth 20000 in
theorem dX7_order_26 : decode cX7_order 26 = .ok (.iload_n 1, 1) := by decide +kernel
set_option maxRecDepth 20000 in
theorem dX7_order_27 : decode cX7_order 27 = .ok (.aaload, 1) := by decide +kernel
set_option maxRecDepth 20000 in
theorem dX7_order_28 : decode cX7_order 28 = .ok (.aload_n 0, 1) := by decide +kernel
set_option maxRecDepth 20000 in
theorem dX7_order_29 : decode cX7_order 29 = .ok (.getfield 24, 3) := by decide +kernel
set_option maxRecDepth 20000 in
theorem dX7_order_32 : decode cX7_order 32 = .ok (.getfield 139, 3) := by decide +kernel
set_option maxRecDepth 20000 in
theorem dX7_order_35 : decode cX7_order 35 = .ok (.invokevirtual 96, 3) := by decide +kernel
set_option maxRecDepth 20000 in
theorem dX7_order_38 : decode cX7_order 38 = .ok (.aload_n 0, 1) := by decide +kernel
set_option maxRecDepth 20000 in
theorem dX7_order_39 : decode cX7_order 39 = .ok (.getfield 49, 3) := by decide +kernel
set_option maxRecDepth 20000 in
theorem dX7_order_42 : decode cX7_order 42 = .ok (.aload_n 0, 1) := by decide +kernel
set_option maxRecDepth 20000 in
theorem dX7_order_43 : decode cX7_order 43 = .ok (.getfield 11, 3) := by decide +kernel
set_option maxRecDepth 20000 in
theorem dX7_order_46 : decode cX7_order 46 = .ok (.iload_n 1, 1) := by decide +kernel
set_option maxRecDepth 20000 in
theorem dX7_order_47 : decode cX7_order 47 = .ok (.aaload, 1) := by decide +kernel
set_option maxRecDepth 20000 in
theorem dX7_order_48 : decode cX7_order 48 = .ok (.getfield 104, 3) := by decide +kernel
set_option maxRecDepth 20000 in
theorem dX7_order_51 : decode cX7_order 51 = .ok (.aload_n 0, 1) := by decide +kernel
set_option maxRecDepth 20000 in
theorem dX7_order_52 : decode cX7_order 52 = .ok (.getfield 24, 3) := by decide +kernel
set_option maxRecDepth 20000 in
theorem dX7_order_55 : decode cX7_order 55 = .ok (.invokevirtual 255, 3) := by decide +kernel
set_option maxRecDepth 20000 in
theorem dX7_order_58 : decode cX7_order 58 = .ok (.ireturn, 1) := by decide +kernel
set_option maxRecDepth 20000 in
theorem dX7_kinds_0 : decode cX7_kinds 0 = .ok (.aload_n 0, 1) := by decide +kernel
set_option maxRecDepth 20000 in
theorem dX7_kinds_1 : decode cX7_kinds 1 = .ok (.iload_n 1, 1) := by decide +kernel
set_option maxRecDepth 20000 in
theorem dX7_kinds_2 : decode cX7_kinds 2 = .ok (.iload_n 2, 1) := by decide +kernel
set_option maxRecDepth 20000 in
theorem dX7_kinds_3 : decode cX7_kinds 3 = .ok (.invokevirtual 259, 3) := by decide +kernel
set_option maxRecDepth 20000 in
theorem dX7_kinds_6 : decode cX7_kinds 6 = .ok (.istore_n 3, 1) := by decide +kernel
set_option maxRecDepth 20000 in
theorem dX7_kinds_7 : decode cX7_kinds 7 = .ok (.iload_n 3, 1) := by decide +kernel
set_option maxRecDepth 20000 in
theorem dX7_kinds_8 : decode cX7_kinds 8 = .ok (.ifCond .eq 7, 3) := by decide +kernel
set_option maxRecDepth 20000 in
theorem dX7_kinds_11 : decode cX7_kinds 11 = .ok (.iload_n 3, 1) := by decide +kernel
set_option maxRecDepth 20000 in
theorem dX7_kinds_12 : decode cX7_kinds 12 = .ok (.goto 14, 3) := by decide +kernel
set_option maxRecDepth 20000 in
theorem dX7_kinds_15 : decode cX7_kinds 15 = .ok (.aload_n 0, 1) := by decide +kernel
set_option maxRecDepth 20000 in
theorem dX7_kinds_16 : decode cX7_kinds 16 = .ok (.iload_n 1, 1) := by decide +kernel
set_option maxRecDepth 20000 in
theorem dX7_kinds_17 : decode cX7_kinds 17 = .ok (.aload_n 0, 1) := by decide +kernel
set_option maxRecDepth 20000 in
theorem dX7_kinds_18 : decode cX7_kinds 18 = .ok (.getfield 11, 3) := by decide +kernel
set_option maxRecDepth 20000 in
theorem dX7_kinds_21 : decode cX7_kinds 21 = .ok (.iload_n 2, 1) := by decide +kernel
set_option maxRecDepth 20000 in
theorem dX7_kinds_22 : decode cX7_kinds 22 = .ok (.aaload, 1) := by decide +kernel
set_option maxRecDepth 20000 in
theorem dX7_kinds_23 : decode cX7_kinds 23 = .ok (.invokevirtual 262, 3) := by decide +kernel
set_option maxRecDepth 20000 in
theorem dX7_kinds_26 : decode cX7_kinds 26 = .ok (.ireturn, 1) := by decide +kernel
set_option maxRecDepth 20000 in
theorem dX7_places_0 : decode cX7_places 0 = .ok (.aload_n 0, 1) := by decide +kernel
set_option maxRecDepth 20000 in
theorem dX7_places_1 : decode cX7_places 1 = .ok (.iload_n 1, 1) := by decide +kernel
set_option maxRecDepth 20000 in
theorem dX7_places_2 : decode cX7_places 2 = .ok (.iload_n 2, 1) := by decide +kernel
set_option maxRecDepth 20000 in
theorem dX7_places_3 : decode cX7_places 3 = .ok (.invokevirtual 259, 3) := by decide +kernel
set_option maxRecDepth 20000 in
theorem dX7_places_6 : decode cX7_places 6 = .ok (.istore_n 3, 1) := by decide +kernel
set_option maxRecDepth 20000 in
theorem dX7_places_7 : decode cX7_places 7 = .ok (.iload_n 3, 1) := by decide +kernel
set_option maxRecDepth 20000 in
theorem dX7_places_8 : decode cX7_places 8 = .ok (.ifCond .eq 5, 3) := by decide +kernel
set_option maxRecDepth 20000 in
theorem dX7_places_11 : decode cX7_places 11 = .ok (.iload_n 3, 1) := by decide +kernel
set_option maxRecDepth 20000 in
theorem dX7_places_12 : decode cX7_places 12 = .ok (.ireturn, 1) := by decide +kernel
set_option maxRecDepth 20000 in
theorem dX7_places_13 : decode cX7_places 13 = .ok (.aload_n 0, 1) := by decide +kernel
set_option maxRecDepth 20000 in
theorem dX7_places_14 : decode cX7_places 14 = .ok (.getfield 43, 3) := by decide +kernel
set_option maxRecDepth 20000 in
theorem dX7_places_17 : decode cX7_places 17 = .ok (.aload_n 0, 1) := by decide +kernel
set_option maxRecDepth 20000 in
theorem dX7_places_18 : decode cX7_places 18 = .ok (.getfield 24, 3) := by decide +kernel
set_option maxRecDepth 20000 in
theorem dX7_places_21 : decode cX7_places 21 = .ok (.invokevirtual 135, 3) := by decide +kernel
set_option maxRecDepth 20000 in
theorem dX7_places_24 : decode cX7_places 24 = .ok (.aload_n 0, 1) := by decide +kernel
set_option maxRecDepth 20000 in
theorem dX7_places_25 : decode cX7_places 25 = .ok (.getfield 43, 3) := by decide +kernel
set_option maxRecDepth 20000 in
theorem dX7_places_28 : decode cX7_places 28 = .ok (.getfield 146, 3) := by decide +kernel
set_option maxRecDepth 20000 in
theorem dX7_places_31 : decode cX7_places 31 = .ok (.iload_n 1, 1) := by decide +kernel
set_option maxRecDepth 20000 in
theorem dX7_places_32 : decode cX7_places 32 = .ok (.aaload, 1) := by decide +kernel
set_option maxRecDepth 20000 in
theorem dX7_places_33 : decode cX7_places 33 = .ok (.astore 4, 2) := by decide +kernel
set_option maxRecDepth 20000 in
theorem dX7_places_35 : decode cX7_places 35 = .ok (.iconst 0, 1) := by decide +kernel
set_option maxRecDepth 20000 in
theorem dX7_places_36 : decode cX7_places 36 = .ok (.istore 5, 2) := by decide +kernel
set_option maxRecDepth 20000 in
theorem dX7_places_38 : decode cX7_places 38 = .ok (.iconst 0, 1) := by decide +kernel
set_option maxRecDepth 20000 in
theorem dX7_places_39 : decode cX7_places 39 = .ok (.istore 6, 2) := by decide +kernel
set_option maxRecDepth 20000 in
theorem dX7_places_41 : decode cX7_places 41 = .ok (.bipush 95, 2) := by decide +kernel
set_option maxRecDepth 20000 in
theorem dX7_places_43 : decode cX7_places 43 = .ok (.istore 7, 2) := by decide +kernel
set_option maxRecDepth 20000 in
theorem dX7_places_45 : decode cX7_places 45 = .ok (.iload 7, 2) := by decide +kernel
set_option maxRecDepth 20000 in
theorem dX7_places_47 : decode cX7_places 47 = .ok (.ifCond .lt 65, 3) := by decide +kernel
set_option maxRecDepth 20000 in
theorem dX7_places_50 : decode cX7_places 50 = .ok (.aload 4, 2) := by decide +kernel
set_option maxRecDepth 20000 in
theorem dX7_places_52 : decode cX7_places 52 = .ok (.iload 7, 2) := by decide +kernel
set_option maxRecDepth 20000 in
theorem dX7_places_54 : decode cX7_places 54 = .ok (.bipush 12, 2) := by decide +kernel
set_option maxRecDepth 20000 in
theorem dX7_places_56 : decode cX7_places 56 = .ok (.irem, 1) := by decide +kernel
set_option maxRecDepth 20000 in
theorem dX7_places_57 : decode cX7_places 57 = .ok (.iload 7, 2) := by decide +kernel
set_option maxRecDepth 20000 in
theorem dX7_places_59 : decode cX7_places 59 = .ok (.bipush 12, 2) := by decide +kernel
set_option maxRecDepth 20000 in
theorem dX7_places_61 : decode cX7_places 61 = .ok (.idiv, 1) := by decide +kernel
set_option maxRecDepth 20000 in
theorem dX7_places_62 : decode cX7_places 62 = .ok (.invokevirtual 192, 3) := by decide +kernel
set_option maxRecDepth 20000 in
theorem dX7_places_65 : decode cX7_places 65 = .ok (.ifCond .eq 41, 3) := by decide +kernel
set_option maxRecDepth 20000 in
theorem dX7_places_68 : decode cX7_places 68 = .ok (.aload 4, 2) := by decide +kernel
set_option maxRecDepth 20000 in
theorem dX7_places_70 : decode cX7_places 70 = .ok (.iload 7, 2) := by decide +kernel
set_option maxRecDepth 20000 in
theorem dX7_places_72 : decode cX7_places 72 = .ok (.bipush 12, 2) := by decide +kernel
set_option maxRecDepth 20000 in
theorem dX7_places_74 : decode cX7_places 74 = .ok (.irem, 1) := by decide +kernel
set_option maxRecDepth 20000 in
theorem dX7_places_75 : decode cX7_places 75 = .ok (.iload 7, 2) := by decide +kernel
set_option maxRecDepth 20000 in
theorem dX7_places_77 : decode cX7_places 77 = .ok (.bipush 12, 2) := by decide +kernel
set_option maxRecDepth 20000 in
theorem dX7_places_79 : decode cX7_places 79 = .ok (.idiv, 1) := by decide +kernel
set_option maxRecDepth 20000 in
theorem dX7_places_80 : decode cX7_places 80 = .ok (.invokevirtual 198, 3) := by decide +kernel
set_option maxRecDepth 20000 in
theorem dX7_places_83 : decode cX7_places 83 = .ok (.aload_n 0, 1) := by decide +kernel
set_option maxRecDepth 20000 in
theorem dX7_places_84 : decode cX7_places 84 = .ok (.getfield 43, 3) := by decide +kernel
set_option maxRecDepth 20000 in
theorem dX7_places_87 : decode cX7_places 87 = .ok (.aload_n 0, 1) := by decide +kernel
set_option maxRecDepth 20000 in
theorem dX7_places_88 : decode cX7_places 88 = .ok (.getfield 11, 3) := by decide +kernel
set_option maxRecDepth 20000 in
theorem dX7_places_91 : decode cX7_places 91 = .ok (.iload_n 2, 1) := by decide +kernel
set_option maxRecDepth 20000 in
theorem dX7_places_92 : decode cX7_places 92 = .ok (.aaload, 1) := by decide +kernel
set_option maxRecDepth 20000 in
theorem dX7_places_93 : decode cX7_places 93 = .ok (.invokevirtual 266, 3) := by decide +kernel
set_option maxRecDepth 20000 in
theorem dX7_places_96 : decode cX7_places 96 = .ok (.ifCond .eq 10, 3) := by decide +kernel
set_option maxRecDepth 20000 in
theorem dX7_places_99 : decode cX7_places 99 = .ok (.iinc 5 1, 3) := by decide +kernel
set_option maxRecDepth 20000 in
theorem dX7_places_102 : decode cX7_places 102 = .ok (.iload 7, 2) := by decide +kernel
set_option maxRecDepth 20000 in
theorem dX7_places_104 : decode cX7_places 104 = .ok (.istore 6, 2) := by decide +kernel
set_option maxRecDepth 20000 in
theorem dX7_places_106 : decode cX7_places 106 = .ok (.iinc 7 (-1), 3) := by decide +kernel
set_option maxRecDepth 20000 in
theorem dX7_places_109 : decode cX7_places 109 = .ok (.goto (-64), 3) := by decide +kernel
set_option maxRecDepth 20000 in
theorem dX7_places_112 : decode cX7_places 112 = .ok (.iload 5, 2) := by decide +kernel
set_option maxRecDepth 20000 in
theorem dX7_places_114 : decode cX7_places 114 = .ok (.ifCond .ne 6, 3) := by decide +kernel
set_option maxRecDepth 20000 in
theorem dX7_places_117 : decode cX7_places 117 = .ok (.bipush (-9), 2) := by decide +kernel
set_option maxRecDepth 20000 in
theorem dX7_places_119 : decode cX7_places 119 = .ok (.ireturn, 1) := by decide +kernel
set_option maxRecDepth 20000 in
theorem dX7_places_120 : decode cX7_places 120 = .ok (.aload_n 0, 1) := by decide +kernel
set_option maxRecDepth 20000 in
theorem dX7_places_121 : decode cX7_places 121 = .ok (.iload 6, 2) := by decide +kernel
set_option maxRecDepth 20000 in
theorem dX7_places_123 : decode cX7_places 123 = .ok (.putfield 73, 3) := by decide +kernel
set_option maxRecDepth 20000 in
theorem dX7_places_126 : decode cX7_places 126 = .ok (.iload 5, 2) := by decide +kernel
set_option maxRecDepth 20000 in
theorem dX7_places_128 : decode cX7_places 128 = .ok (.ireturn, 1) := by decide +kernel
set_option maxRecDepth 20000 in
theorem dX7_test_0 : decode cX7_test 0 = .ok (.aload_n 0, 1) := by decide +kernel
set_option maxRecDepth 20000 in
theorem dX7_test_1 : decode cX7_test 1 = .ok (.iload_n 1, 1) := by decide +kernel
set_option maxRecDepth 20000 in
theorem dX7_test_2 : decode cX7_test 2 = .ok (.iload_n 2, 1) := by decide +kernel
set_option maxRecDepth 20000 in
theorem dX7_test_3 : decode cX7_test 3 = .ok (.invokevirtual 259, 3) := by decide +kernel
set_option maxRecDepth 20000 in
theorem dX7_test_6 : decode cX7_test 6 = .ok (.istore_n 3, 1) := by decide +kernel
set_option maxRecDepth 20000 in
theorem dX7_test_7 : decode cX7_test 7 = .ok (.iload_n 3, 1) := by decide +kernel
set_option maxRecDepth 20000 in
theorem dX7_test_8 : decode cX7_test 8 = .ok (.ifCond .eq 5, 3) := by decide +kernel
set_option maxRecDepth 20000 in
theorem dX7_test_11 : decode cX7_test 11 = .ok (.iload_n 3, 1) := by decide +kernel
set_option maxRecDepth 20000 in
theorem dX7_test_12 : decode cX7_test 12 = .ok (.ireturn, 1) := by decide +kernel
set_option maxRecDepth 20000 in
theorem dX7_test_13 : decode cX7_test 13 = .ok (.aload_n 0, 1) := by decide +kernel
set_option maxRecDepth 20000 in
theorem dX7_test_14 : decode cX7_test 14 = .ok (.iload_n 1, 1) := by decide +kernel
set_option maxRecDepth 20000 in
theorem dX7_test_15 : decode cX7_test 15 = .ok (.aload_n 0, 1) := by decide +kernel
set_option maxRecDepth 20000 in
theorem dX7_test_16 : decode cX7_test 16 = .ok (.getfield 11, 3) := by decide +kernel
set_option maxRecDepth 20000 in
theorem dX7_test_19 : decode cX7_test 19 = .ok (.iload_n 2, 1) := by decide +kernel
set_option maxRecDepth 20000 in
theorem dX7_test_20 : decode cX7_test 20 = .ok (.aaload, 1) := by decide +kernel
set_option maxRecDepth 20000 in
theorem dX7_test_21 : decode cX7_test 21 = .ok (.invokevirtual 262, 3) := by decide +kernel
set_option maxRecDepth 20000 in
theorem dX7_test_24 : decode cX7_test 24 = .ok (.istore 4, 2) := by decide +kernel
set_option maxRecDepth 20000 in
theorem dX7_test_26 : decode cX7_test 26 = .ok (.iload 4, 2) := by decide +kernel
set_option maxRecDepth 20000 in
theorem dX7_test_28 : decode cX7_test 28 = .ok (.ifCond .ne 6, 3) := by decide +kernel
set_option maxRecDepth 20000 in
theorem dX7_test_31 : decode cX7_test 31 = .ok (.bipush (-9), 2) := by decide +kernel
set_option maxRecDepth 20000 in
theorem dX7_test_33 : decode cX7_test 33 = .ok (.ireturn, 1) := by decide +kernel
set_option maxRecDepth 20000 in
theorem dX7_test_34 : decode cX7_test 34 = .ok (.aload_n 0, 1) := by decide +kernel
set_option maxRecDepth 20000 in
theorem dX7_test_35 : decode cX7_test 35 = .ok (.iload_n 1, 1) := by decide +kernel
set_option maxRecDepth 20000 in
theorem dX7_test_36 : decode cX7_test 36 = .ok (.iload 4, 2) := by decide +kernel
set_option maxRecDepth 20000 in
theorem dX7_test_38 : decode cX7_test 38 = .ok (.invokevirtual 270, 3) := by decide +kernel
set_option maxRecDepth 20000 in
theorem dX7_test_41 : decode cX7_test 41 = .ok (.aload_n 0, 1) := by decide +kernel
set_option maxRecDepth 20000 in
theorem dX7_test_42 : decode cX7_test 42 = .ok (.iconst 0, 1) := by decide +kernel
set_option maxRecDepth 20000 in
theorem dX7_test_43 : decode cX7_test 43 = .ok (.invokevirtual 273, 3) := by decide +kernel
set_option maxRecDepth 20000 in
theorem dX7_test_46 : decode cX7_test 46 = .ok (.istore 5, 2) := by decide +kernel
set_option maxRecDepth 20000 in
theorem dX7_test_48 : decode cX7_test 48 = .ok (.iconst 0, 1) := by decide +kernel
set_option maxRecDepth 20000 in
theorem dX7_test_49 : decode cX7_test 49 = .ok (.istore 6, 2) := by decide +kernel
set_option maxRecDepth 20000 in
theorem dX7_test_51 : decode cX7_test 51 = .ok (.iconst 1, 1) := by decide +kernel
set_option maxRecDepth 20000 in
theorem dX7_test_52 : decode cX7_test 52 = .ok (.istore 7, 2) := by decide +kernel
set_option maxRecDepth 20000 in
theorem dX7_test_54 : decode cX7_test 54 = .ok (.iload 7, 2) := by decide +kernel
set_option maxRecDepth 20000 in
theorem dX7_test_56 : decode cX7_test 56 = .ok (.bipush 96, 2) := by decide +kernel
set_option maxRecDepth 20000 in
theorem dX7_test_58 : decode cX7_test 58 = .ok (.if_icmp .ge 32, 3) := by decide +kernel
set_option maxRecDepth 20000 in
theorem dX7_test_61 : decode cX7_test 61 = .ok (.aload_n 0, 1) := by decide +kernel
set_option maxRecDepth 20000 in
theorem dX7_test_62 : decode cX7_test 62 = .ok (.iload 7, 2) := by decide +kernel
set_option maxRecDepth 20000 in
theorem dX7_test_64 : decode cX7_test 64 = .ok (.invokevirtual 273, 3) := by decide +kernel
set_option maxRecDepth 20000 in
theorem dX7_test_67 : decode cX7_test 67 = .ok (.istore 8, 2) := by decide +kernel
set_option maxRecDepth 20000 in
theorem dX7_test_69 : decode cX7_test 69 = .ok (.iload 8, 2) := by decide +kernel
set_option maxRecDepth 20000 in
theorem dX7_test_71 : decode cX7_test 71 = .ok (.iload 5, 2) := by decide +kernel
set_option maxRecDepth 20000 in
theorem dX7_test_73 : decode cX7_test 73 = .ok (.if_icmp .ge 11, 3) := by decide +kernel
set_option maxRecDepth 20000 in
theorem dX7_test_76 : decode cX7_test 76 = .ok (.iload 8, 2) := by decide +kernel
set_option maxRecDepth 20000 in
theorem dX7_test_78 : decode cX7_test 78 = .ok (.istore 5, 2) := by decide +kernel
set_option maxRecDepth 20000 in
theorem dX7_test_80 : decode cX7_test 80 = .ok (.iload 7, 2) := by decide +kernel
set_option maxRecDepth 20000 in
theorem dX7_test_82 : decode cX7_test 82 = .ok (.istore 6, 2) := by decide +kernel
set_option maxRecDepth 20000 in
theorem dX7_test_84 : decode cX7_test 84 = .ok (.iinc 7 1, 3) := by decide +kernel
set_option maxRecDepth 20000 in
theorem dX7_test_87 : decode cX7_test 87 = .ok (.goto (-33), 3) := by decide +kernel
set_option maxRecDepth 20000 in
theorem dX7_test_90 : decode cX7_test 90 = .ok (.aload_n 0, 1) := by decide +kernel
set_option maxRecDepth 20000 in
theorem dX7_test_91 : decode cX7_test 91 = .ok (.iload 5, 2) := by decide +kernel
set_option maxRecDepth 20000 in
theorem dX7_test_93 : decode cX7_test 93 = .ok (.putfield 73, 3) := by decide +kernel
set_option maxRecDepth 20000 in
theorem dX7_test_96 : decode cX7_test 96 = .ok (.iload 6, 2) := by decide +kernel
set_option maxRecDepth 20000 in
theorem dX7_test_98 : decode cX7_test 98 = .ok (.ireturn, 1) := by decide +kernel
set_option maxRecDepth 20000 in
theorem dX7_duel_0 : decode cX7_duel 0 = .ok (.aload_n 0, 1) := by decide +kernel
set_option maxRecDepth 20000 in
theorem dX7_duel_1 : decode cX7_duel 1 = .ok (.getfield 24, 3) := by decide +kernel
set_option maxRecDepth 20000 in
theorem dX7_duel_4 : decode cX7_duel 4 = .ok (.iload_n 1, 1) := by decide +kernel
set_option maxRecDepth 20000 in
theorem dX7_duel_5 : decode cX7_duel 5 = .ok (.invokevirtual 140, 3) := by decide +kernel
set_option maxRecDepth 20000 in
theorem dX7_duel_8 : decode cX7_duel 8 = .ok (.ifCond .eq 12, 3) := by decide +kernel
set_option maxRecDepth 20000 in
theorem dX7_duel_11 : decode cX7_duel 11 = .ok (.iload_n 2, 1) := by decide +kernel
set_option maxRecDepth 20000 in
theorem dX7_duel_12 : decode cX7_duel 12 = .ok (.ifCond .lt 8, 3) := by decide +kernel
set_option maxRecDepth 20000 in
theorem dX7_duel_15 : decode cX7_duel 15 = .ok (.iload_n 2, 1) := by decide +kernel
set_option maxRecDepth 20000 in
theorem dX7_duel_16 : decode cX7_duel 16 = .ok (.iconst 4, 1) := by decide +kernel
set_option maxRecDepth 20000 in
theorem dX7_duel_17 : decode cX7_duel 17 = .ok (.if_icmp .le 5, 3) := by decide +kernel
set_option maxRecDepth 20000 in
theorem dX7_duel_20 : decode cX7_duel 20 = .ok (.iconst (-1), 1) := by decide +kernel
set_option maxRecDepth 20000 in
theorem dX7_duel_21 : decode cX7_duel 21 = .ok (.ireturn, 1) := by decide +kernel
set_option maxRecDepth 20000 in
theorem dX7_duel_22 : decode cX7_duel 22 = .ok (.aload_n 0, 1) := by decide +kernel
set_option maxRecDepth 20000 in
theorem dX7_duel_23 : decode cX7_duel 23 = .ok (.getfield 56, 3) := by decide +kernel
set_option maxRecDepth 20000 in
theorem dX7_duel_26 : decode cX7_duel 26 = .ok (.aload_n 0, 1) := by decide +kernel
set_option maxRecDepth 20000 in
theorem dX7_duel_27 : decode cX7_duel 27 = .ok (.getfield 24, 3) := by decide +kernel
set_option maxRecDepth 20000 in
theorem dX7_duel_30 : decode cX7_duel 30 = .ok (.iload_n 1, 1) := by decide +kernel
set_option maxRecDepth 20000 in
theorem dX7_duel_31 : decode cX7_duel 31 = .ok (.iload_n 2, 1) := by decide +kernel
set_option maxRecDepth 20000 in
theorem dX7_duel_32 : decode cX7_duel 32 = .ok (.invokevirtual 276, 3) := by decide +kernel
set_option maxRecDepth 20000 in
theorem dX7_duel_35 : decode cX7_duel 35 = .ok (.ireturn, 1) := by decide +kernel
set_option maxRecDepth 20000 in
theorem dX7_odds_0 : decode cX7_odds 0 = .ok (.aload_n 0, 1) := by decide +kernel
set_option maxRecDepth 20000 in
theorem dX7_odds_1 : decode cX7_odds 1 = .ok (.iload_n 1, 1) := by decide +kernel
set_option maxRecDepth 20000 in
theorem dX7_odds_2 : decode cX7_odds 2 = .ok (.iload_n 2, 1) := by decide +kernel
set_option maxRecDepth 20000 in
theorem dX7_odds_3 : decode cX7_odds 3 = .ok (.invokevirtual 280, 3) := by decide +kernel
set_option maxRecDepth 20000 in
theorem dX7_odds_6 : decode cX7_odds 6 = .ok (.istore_n 3, 1) := by decide +kernel
set_option maxRecDepth 20000 in
theorem dX7_odds_7 : decode cX7_odds 7 = .ok (.iload_n 3, 1) := by decide +kernel
set_option maxRecDepth 20000 in
theorem dX7_odds_8 : decode cX7_odds 8 = .ok (.ifCond .eq 5, 3) := by decide +kernel
set_option maxRecDepth 20000 in
theorem dX7_odds_11 : decode cX7_odds 11 = .ok (.iload_n 3, 1) := by decide +kernel
set_option maxRecDepth 20000 in
theorem dX7_odds_12 : decode cX7_odds 12 = .ok (.ireturn, 1) := by decide +kernel
set_option maxRecDepth 20000 in
theorem dX7_odds_13 : decode cX7_odds 13 = .ok (.aload_n 0, 1) := by decide +kernel
set_option maxRecDepth 20000 in
theorem dX7_odds_14 : decode cX7_odds 14 = .ok (.getfield 24, 3) := by decide +kernel
set_option maxRecDepth 20000 in
theorem dX7_odds_17 : decode cX7_odds 17 = .ok (.iload_n 1, 1) := by decide +kernel
set_option maxRecDepth 20000 in
theorem dX7_odds_18 : decode cX7_odds 18 = .ok (.invokevirtual 244, 3) := by decide +kernel
set_option maxRecDepth 20000 in
theorem dX7_odds_21 : decode cX7_odds 21 = .ok (.invokestatic 247, 3) := by decide +kernel
set_option maxRecDepth 20000 in
theorem dX7_odds_24 : decode cX7_odds 24 = .ok (.istore 4, 2) := by decide +kernel
set_option maxRecDepth 20000 in
theorem dX7_odds_26 : decode cX7_odds 26 = .ok (.aload_n 0, 1) := by decide +kernel
set_option maxRecDepth 20000 in
theorem dX7_odds_27 : decode cX7_odds 27 = .ok (.iload_n 2, 1) := by decide +kernel
set_option maxRecDepth 20000 in
theorem dX7_odds_28 : decode cX7_odds 28 = .ok (.iload 4, 2) := by decide +kernel
set_option maxRecDepth 20000 in
theorem dX7_odds_30 : decode cX7_odds 30 = .ok (.invokestatic 283, 3) := by decide +kernel
set_option maxRecDepth 20000 in
theorem dX7_odds_33 : decode cX7_odds 33 = .ok (.bipush 12, 2) := by decide +kernel
set_option maxRecDepth 20000 in
theorem dX7_odds_35 : decode cX7_odds 35 = .ok (.iload 4, 2) := by decide +kernel
set_option maxRecDepth 20000 in
theorem dX7_odds_37 : decode cX7_odds 37 = .ok (.invokestatic 283, 3) := by decide +kernel
set_option maxRecDepth 20000 in
theorem dX7_odds_40 : decode cX7_odds 40 = .ok (.invokevirtual 287, 3) := by decide +kernel
set_option maxRecDepth 20000 in
theorem dX7_odds_43 : decode cX7_odds 43 = .ok (.iconst 1, 1) := by decide +kernel
set_option maxRecDepth 20000 in
theorem dX7_odds_44 : decode cX7_odds 44 = .ok (.ireturn, 1) := by decide +kernel
set_option maxRecDepth 20000 in
theorem dX7_mid_0 : decode cX7_mid 0 = .ok (.aload_n 0, 1) := by decide +kernel
set_option maxRecDepth 20000 in
theorem dX7_mid_1 : decode cX7_mid 1 = .ok (.iload_n 1, 1) := by decide +kernel
set_option maxRecDepth 20000 in
theorem dX7_mid_2 : decode cX7_mid 2 = .ok (.iload_n 2, 1) := by decide +kernel
set_option maxRecDepth 20000 in
theorem dX7_mid_3 : decode cX7_mid 3 = .ok (.invokevirtual 280, 3) := by decide +kernel
set_option maxRecDepth 20000 in
theorem dX7_mid_6 : decode cX7_mid 6 = .ok (.istore_n 3, 1) := by decide +kernel
set_option maxRecDepth 20000 in
theorem dX7_mid_7 : decode cX7_mid 7 = .ok (.iload_n 3, 1) := by decide +kernel
set_option maxRecDepth 20000 in
theorem dX7_mid_8 : decode cX7_mid 8 = .ok (.ifCond .eq 5, 3) := by decide +kernel
set_option maxRecDepth 20000 in
theorem dX7_mid_11 : decode cX7_mid 11 = .ok (.iload_n 3, 1) := by decide +kernel
set_option maxRecDepth 20000 in
theorem dX7_mid_12 : decode cX7_mid 12 = .ok (.ireturn, 1) := by decide +kernel
set_option maxRecDepth 20000 in
theorem dX7_mid_13 : decode cX7_mid 13 = .ok (.aload_n 0, 1) := by decide +kernel
set_option maxRecDepth 20000 in
theorem dX7_mid_14 : decode cX7_mid 14 = .ok (.getfield 24, 3) := by decide +kernel
set_option maxRecDepth 20000 in
theorem dX7_mid_17 : decode cX7_mid 17 = .ok (.getfield 139, 3) := by decide +kernel
set_option maxRecDepth 20000 in
theorem dX7_mid_20 : decode cX7_mid 20 = .ok (.iconst 1, 1) := by decide +kernel
set_option maxRecDepth 20000 in
theorem dX7_mid_21 : decode cX7_mid 21 = .ok (.isub, 1) := by decide +kernel
set_option maxRecDepth 20000 in
theorem dX7_mid_22 : decode cX7_mid 22 = .ok (.istore 4, 2) := by decide +kernel
set_option maxRecDepth 20000 in
theorem dX7_mid_24 : decode cX7_mid 24 = .ok (.lconst 0, 1) := by decide +kernel
set_option maxRecDepth 20000 in
theorem dX7_mid_25 : decode cX7_mid 25 = .ok (.lstore 5, 2) := by decide +kernel
set_option maxRecDepth 20000 in
theorem dX7_mid_27 : decode cX7_mid 27 = .ok (.iconst 0, 1) := by decide +kernel
set_option maxRecDepth 20000 in
theorem dX7_mid_28 : decode cX7_mid 28 = .ok (.istore 7, 2) := by decide +kernel
set_option maxRecDepth 20000 in
theorem dX7_mid_30 : decode cX7_mid 30 = .ok (.iload 7, 2) := by decide +kernel
set_option maxRecDepth 20000 in
theorem dX7_mid_32 : decode cX7_mid 32 = .ok (.bipush 96, 2) := by decide +kernel
set_option maxRecDepth 20000 in
theorem dX7_mid_34 : decode cX7_mid 34 = .ok (.if_icmp .ge 60, 3) := by decide +kernel
set_option maxRecDepth 20000 in
theorem dX7_mid_37 : decode cX7_mid 37 = .ok (.aload_n 0, 1) := by decide +kernel
set_option maxRecDepth 20000 in
theorem dX7_mid_38 : decode cX7_mid 38 = .ok (.getfield 24, 3) := by decide +kernel
set_option maxRecDepth 20000 in
theorem dX7_mid_41 : decode cX7_mid 41 = .ok (.getfield 146, 3) := by decide +kernel
set_option maxRecDepth 20000 in
theorem dX7_mid_44 : decode cX7_mid 44 = .ok (.iload_n 1, 1) := by decide +kernel
set_option maxRecDepth 20000 in
theorem dX7_mid_45 : decode cX7_mid 45 = .ok (.aaload, 1) := by decide +kernel
set_option maxRecDepth 20000 in
theorem dX7_mid_46 : decode cX7_mid 46 = .ok (.iload 7, 2) := by decide +kernel
set_option maxRecDepth 20000 in
theorem dX7_mid_48 : decode cX7_mid 48 = .ok (.invokevirtual 177, 3) := by decide +kernel
set_option maxRecDepth 20000 in
theorem dX7_mid_51 : decode cX7_mid 51 = .ok (.ifCond .eq 37, 3) := by decide +kernel
set_option maxRecDepth 20000 in
theorem dX7_mid_54 : decode cX7_mid 54 = .ok (.aload_n 0, 1) := by decide +kernel
set_option maxRecDepth 20000 in
theorem dX7_mid_55 : decode cX7_mid 55 = .ok (.getfield 24, 3) := by decide +kernel
set_option maxRecDepth 20000 in
theorem dX7_mid_58 : decode cX7_mid 58 = .ok (.iload_n 1, 1) := by decide +kernel
set_option maxRecDepth 20000 in
theorem dX7_mid_59 : decode cX7_mid 59 = .ok (.iload 7, 2) := by decide +kernel
set_option maxRecDepth 20000 in
theorem dX7_mid_61 : decode cX7_mid 61 = .ok (.invokevirtual 291, 3) := by decide +kernel
set_option maxRecDepth 20000 in
theorem dX7_mid_64 : decode cX7_mid 64 = .ok (.istore 8, 2) := by decide +kernel
set_option maxRecDepth 20000 in
theorem dX7_mid_66 : decode cX7_mid 66 = .ok (.lload 5, 2) := by decide +kernel
set_option maxRecDepth 20000 in
theorem dX7_mid_68 : decode cX7_mid 68 = .ok (.iload_n 2, 1) := by decide +kernel
set_option maxRecDepth 20000 in
theorem dX7_mid_69 : decode cX7_mid 69 = .ok (.iload 8, 2) := by decide +kernel
set_option maxRecDepth 20000 in
theorem dX7_mid_71 : decode cX7_mid 71 = .ok (.invokestatic 283, 3) := by decide +kernel
set_option maxRecDepth 20000 in
theorem dX7_mid_74 : decode cX7_mid 74 = .ok (.bipush 12, 2) := by decide +kernel
set_option maxRecDepth 20000 in
theorem dX7_mid_76 : decode cX7_mid 76 = .ok (.iload 4, 2) := by decide +kernel
set_option maxRecDepth 20000 in
theorem dX7_mid_78 : decode cX7_mid 78 = .ok (.iload 8, 2) := by decide +kernel
set_option maxRecDepth 20000 in
theorem dX7_mid_80 : decode cX7_mid 80 = .ok (.isub, 1) := by decide +kernel
set_option maxRecDepth 20000 in
theorem dX7_mid_81 : decode cX7_mid 81 = .ok (.invokestatic 283, 3) := by decide +kernel
set_option maxRecDepth 20000 in
theorem dX7_mid_84 : decode cX7_mid 84 = .ok (.lmul, 1) := by decide +kernel
set_option maxRecDepth 20000 in
theorem dX7_mid_85 : decode cX7_mid 85 = .ok (.ladd, 1) := by decide +kernel
set_option maxRecDepth 20000 in
theorem dX7_mid_86 : decode cX7_mid 86 = .ok (.lstore 5, 2) := by decide +kernel
set_option maxRecDepth 20000 in
theorem dX7_mid_88 : decode cX7_mid 88 = .ok (.iinc 7 1, 3) := by decide +kernel
set_option maxRecDepth 20000 in
theorem dX7_mid_91 : decode cX7_mid 91 = .ok (.goto (-61), 3) := by decide +kernel
set_option maxRecDepth 20000 in
theorem dX7_mid_94 : decode cX7_mid 94 = .ok (.aload_n 0, 1) := by decide +kernel
set_option maxRecDepth 20000 in
theorem dX7_mid_95 : decode cX7_mid 95 = .ok (.lload 5, 2) := by decide +kernel
set_option maxRecDepth 20000 in
theorem dX7_mid_97 : decode cX7_mid 97 = .ok (.bipush 12, 2) := by decide +kernel
set_option maxRecDepth 20000 in
theorem dX7_mid_99 : decode cX7_mid 99 = .ok (.iload 4, 2) := by decide +kernel
set_option maxRecDepth 20000 in
theorem dX7_mid_101 : decode cX7_mid 101 = .ok (.invokestatic 283, 3) := by decide +kernel
set_option maxRecDepth 20000 in
theorem dX7_mid_104 : decode cX7_mid 104 = .ok (.invokevirtual 287, 3) := by decide +kernel
set_option maxRecDepth 20000 in
theorem dX7_mid_107 : decode cX7_mid 107 = .ok (.iconst 1, 1) := by decide +kernel
set_option maxRecDepth 20000 in
theorem dX7_mid_108 : decode cX7_mid 108 = .ok (.ireturn, 1) := by decide +kernel
set_option maxRecDepth 20000 in
theorem dX7_lots_0 : decode cX7_lots 0 = .ok (.iload_n 1, 1) := by decide +kernel
set_option maxRecDepth 20000 in
theorem dX7_lots_1 : decode cX7_lots 1 = .ok (.iconst 1, 1) := by decide +kernel
set_option maxRecDepth 20000 in
theorem dX7_lots_2 : decode cX7_lots 2 = .ok (.if_icmp .lt 23, 3) := by decide +kernel
set_option maxRecDepth 20000 in
theorem dX7_lots_5 : decode cX7_lots 5 = .ok (.iload_n 1, 1) := by decide +kernel
set_option maxRecDepth 20000 in
theorem dX7_lots_6 : decode cX7_lots 6 = .ok (.bipush 20, 2) := by decide +kernel
set_option maxRecDepth 20000 in
theorem dX7_lots_8 : decode cX7_lots 8 = .ok (.if_icmp .gt 17, 3) := by decide +kernel
set_option maxRecDepth 20000 in
theorem dX7_lots_11 : decode cX7_lots 11 = .ok (.iload_n 2, 1) := by decide +kernel
set_option maxRecDepth 20000 in
theorem dX7_lots_12 : decode cX7_lots 12 = .ok (.iconst 1, 1) := by decide +kernel
set_option maxRecDepth 20000 in
theorem dX7_lots_13 : decode cX7_lots 13 = .ok (.if_icmp .lt 12, 3) := by decide +kernel
set_option maxRecDepth 20000 in
theorem dX7_lots_16 : decode cX7_lots 16 = .ok (.iload_n 2, 1) := by decide +kernel
set_option maxRecDepth 20000 in
theorem dX7_lots_17 : decode cX7_lots 17 = .ok (.i2l, 1) := by decide +kernel
set_option maxRecDepth 20000 in
theorem dX7_lots_18 : decode cX7_lots 18 = .ok (.ldc2_w 294, 3) := by decide +kernel
set_option maxRecDepth 20000 in
theorem dX7_lots_21 : decode cX7_lots 21 = .ok (.lcmp, 1) := by decide +kernel
set_option maxRecDepth 20000 in
theorem dX7_lots_22 : decode cX7_lots 22 = .ok (.ifCond .lt 5, 3) := by decide +kernel
set_option maxRecDepth 20000 in
theorem dX7_lots_25 : decode cX7_lots 25 = .ok (.iconst (-1), 1) := by decide +kernel
set_option maxRecDepth 20000 in
theorem dX7_lots_26 : decode cX7_lots 26 = .ok (.ireturn, 1) := by decide +kernel
set_option maxRecDepth 20000 in
theorem dX7_lots_27 : decode cX7_lots 27 = .ok (.aload_n 0, 1) := by decide +kernel
set_option maxRecDepth 20000 in
theorem dX7_lots_28 : decode cX7_lots 28 = .ok (.getfield 24, 3) := by decide +kernel
set_option maxRecDepth 20000 in
theorem dX7_lots_31 : decode cX7_lots 31 = .ok (.getfield 139, 3) := by decide +kernel
set_option maxRecDepth 20000 in
theorem dX7_lots_34 : decode cX7_lots 34 = .ok (.ifCond .ne 6, 3) := by decide +kernel
set_option maxRecDepth 20000 in
theorem dX7_lots_37 : decode cX7_lots 37 = .ok (.bipush (-4), 2) := by decide +kernel
set_option maxRecDepth 20000 in
theorem dX7_lots_39 : decode cX7_lots 39 = .ok (.ireturn, 1) := by decide +kernel
set_option maxRecDepth 20000 in
theorem dX7_lots_40 : decode cX7_lots 40 = .ok (.aload_n 0, 1) := by decide +kernel
set_option maxRecDepth 20000 in
theorem dX7_lots_41 : decode cX7_lots 41 = .ok (.getfield 31, 3) := by decide +kernel
set_option maxRecDepth 20000 in
theorem dX7_lots_44 : decode cX7_lots 44 = .ok (.iload_n 1, 1) := by decide +kernel
set_option maxRecDepth 20000 in
theorem dX7_lots_45 : decode cX7_lots 45 = .ok (.invokevirtual 195, 3) := by decide +kernel
set_option maxRecDepth 20000 in
theorem dX7_lots_48 : decode cX7_lots 48 = .ok (.ifCond .ne 6, 3) := by decide +kernel
set_option maxRecDepth 20000 in
theorem dX7_lots_51 : decode cX7_lots 51 = .ok (.bipush (-2), 2) := by decide +kernel
set_option maxRecDepth 20000 in
theorem dX7_lots_53 : decode cX7_lots 53 = .ok (.ireturn, 1) := by decide +kernel
set_option maxRecDepth 20000 in
theorem dX7_lots_54 : decode cX7_lots 54 = .ok (.iload_n 2, 1) := by decide +kernel
set_option maxRecDepth 20000 in
theorem dX7_lots_55 : decode cX7_lots 55 = .ok (.istore_n 3, 1) := by decide +kernel
set_option maxRecDepth 20000 in
theorem dX7_lots_56 : decode cX7_lots 56 = .ok (.iconst 0, 1) := by decide +kernel
set_option maxRecDepth 20000 in
theorem dX7_lots_57 : decode cX7_lots 57 = .ok (.istore 4, 2) := by decide +kernel
set_option maxRecDepth 20000 in
theorem dX7_lots_59 : decode cX7_lots 59 = .ok (.iload 4, 2) := by decide +kernel
set_option maxRecDepth 20000 in
theorem dX7_lots_61 : decode cX7_lots 61 = .ok (.iload_n 1, 1) := by decide +kernel
set_option maxRecDepth 20000 in
theorem dX7_lots_62 : decode cX7_lots 62 = .ok (.if_icmp .ge 26, 3) := by decide +kernel
set_option maxRecDepth 20000 in
theorem dX7_lots_65 : decode cX7_lots 65 = .ok (.ldc2_w 296, 3) := by decide +kernel
set_option maxRecDepth 20000 in
theorem dX7_lots_68 : decode cX7_lots 68 = .ok (.iload_n 3, 1) := by decide +kernel
set_option maxRecDepth 20000 in
theorem dX7_lots_69 : decode cX7_lots 69 = .ok (.i2l, 1) := by decide +kernel
set_option maxRecDepth 20000 in
theorem dX7_lots_70 : decode cX7_lots 70 = .ok (.lmul, 1) := by decide +kernel
set_option maxRecDepth 20000 in
theorem dX7_lots_71 : decode cX7_lots 71 = .ok (.ldc2_w 294, 3) := by decide +kernel
set_option maxRecDepth 20000 in
theorem dX7_lots_74 : decode cX7_lots 74 = .ok (.lrem, 1) := by decide +kernel
set_option maxRecDepth 20000 in
theorem dX7_lots_75 : decode cX7_lots 75 = .ok (.l2i, 1) := by decide +kernel
set_option maxRecDepth 20000 in
theorem dX7_lots_76 : decode cX7_lots 76 = .ok (.istore_n 3, 1) := by decide +kernel
set_option maxRecDepth 20000 in
theorem dX7_lots_77 : decode cX7_lots 77 = .ok (.aload_n 0, 1) := by decide +kernel
set_option maxRecDepth 20000 in
theorem dX7_lots_78 : decode cX7_lots 78 = .ok (.iload_n 3, 1) := by decide +kernel
set_option maxRecDepth 20000 in
theorem dX7_lots_79 : decode cX7_lots 79 = .ok (.invokevirtual 298, 3) := by decide +kernel
set_option maxRecDepth 20000 in
theorem dX7_lots_82 : decode cX7_lots 82 = .ok (.iinc 4 1, 3) := by decide +kernel
set_option maxRecDepth 20000 in
theorem dX7_lots_85 : decode cX7_lots 85 = .ok (.goto (-26), 3) := by decide +kernel
set_option maxRecDepth 20000 in
theorem dX7_lots_88 : decode cX7_lots 88 = .ok (.aload_n 0, 1) := by decide +kernel
set_option maxRecDepth 20000 in
theorem dX7_lots_89 : decode cX7_lots 89 = .ok (.getfield 24, 3) := by decide +kernel
set_option maxRecDepth 20000 in
theorem dX7_lots_92 : decode cX7_lots 92 = .ok (.invokevirtual 301, 3) := by decide +kernel
set_option maxRecDepth 20000 in
theorem dX7_lots_95 : decode cX7_lots 95 = .ok (.ireturn, 1) := by decide +kernel
set_option maxRecDepth 20000 in
theorem dX7_asked_0 : decode cX7_asked 0 = .ok (.aload_n 0, 1) := by decide +kernel
set_option maxRecDepth 20000 in
theorem dX7_asked_1 : decode cX7_asked 1 = .ok (.getfield 73, 3) := by decide +kernel
set_option maxRecDepth 20000 in
theorem dX7_asked_4 : decode cX7_asked 4 = .ok (.ireturn, 1) := by decide +kernel
set_option maxRecDepth 20000 in
theorem dX7_upper_0 : decode cX7_upper 0 = .ok (.aload_n 0, 1) := by decide +kernel
set_option maxRecDepth 20000 in
theorem dX7_upper_1 : decode cX7_upper 1 = .ok (.getfield 76, 3) := by decide +kernel
set_option maxRecDepth 20000 in
theorem dX7_upper_4 : decode cX7_upper 4 = .ok (.lreturn, 1) := by decide +kernel
set_option maxRecDepth 20000 in
theorem dX7_lower_0 : decode cX7_lower 0 = .ok (.aload_n 0, 1) := by decide +kernel
set_option maxRecDepth 20000 in
theorem dX7_lower_1 : decode cX7_lower 1 = .ok (.getfield 80, 3) := by decide +kernel
set_option maxRecDepth 20000 in
theorem dX7_lower_4 : decode cX7_lower 4 = .ok (.lreturn, 1) := by decide +kernel
set_option maxRecDepth 20000 in
theorem dX7_count_0 : decode cX7_count 0 = .ok (.iload_n 1, 1) := by decide +kernel
set_option maxRecDepth 20000 in
theorem dX7_count_1 : decode cX7_count 1 = .ok (.ifCond .lt 9, 3) := by decide +kernel
set_option maxRecDepth 20000 in
theorem dX7_count_4 : decode cX7_count 4 = .ok (.iload_n 1, 1) := by decide +kernel
set_option maxRecDepth 20000 in
theorem dX7_count_5 : decode cX7_count 5 = .ok (.bipush 10, 2) := by decide +kernel
set_option maxRecDepth 20000 in
theorem dX7_count_7 : decode cX7_count 7 = .ok (.if_icmp .le 7, 3) := by decide +kernel
set_option maxRecDepth 20000 in
theorem dX7_count_10 : decode cX7_count 10 = .ok (.iconst (-1), 1) := by decide +kernel
set_option maxRecDepth 20000 in
theorem dX7_count_11 : decode cX7_count 11 = .ok (.goto 8, 3) := by decide +kernel
set_option maxRecDepth 20000 in
theorem dX7_count_14 : decode cX7_count 14 = .ok (.aload_n 0, 1) := by decide +kernel
set_option maxRecDepth 20000 in
theorem dX7_count_15 : decode cX7_count 15 = .ok (.iload_n 1, 1) := by decide +kernel
set_option maxRecDepth 20000 in
theorem dX7_count_16 : decode cX7_count 16 = .ok (.invokevirtual 304, 3) := by decide +kernel
set_option maxRecDepth 20000 in
theorem dX7_count_19 : decode cX7_count 19 = .ok (.ireturn, 1) := by decide +kernel
set_option maxRecDepth 20000 in
theorem dX7_finding_0 : decode cX7_finding 0 = .ok (.aload_n 0, 1) := by decide +kernel
set_option maxRecDepth 20000 in
theorem dX7_finding_1 : decode cX7_finding 1 = .ok (.getfield 69, 3) := by decide +kernel
set_option maxRecDepth 20000 in
theorem dX7_finding_4 : decode cX7_finding 4 = .ok (.ireturn, 1) := by decide +kernel
set_option maxRecDepth 20000 in
theorem dX7_findings_0 : decode cX7_findings 0 = .ok (.iload_n 1, 1) := by decide +kernel
set_option maxRecDepth 20000 in
theorem dX7_findings_1 : decode cX7_findings 1 = .ok (.iconst 1, 1) := by decide +kernel
set_option maxRecDepth 20000 in
theorem dX7_findings_2 : decode cX7_findings 2 = .ok (.if_icmp .lt 8, 3) := by decide +kernel
set_option maxRecDepth 20000 in
theorem dX7_findings_5 : decode cX7_findings 5 = .ok (.iload_n 1, 1) := by decide +kernel
set_option maxRecDepth 20000 in
theorem dX7_findings_6 : decode cX7_findings 6 = .ok (.iconst 5, 1) := by decide +kernel
set_option maxRecDepth 20000 in
theorem dX7_findings_7 : decode cX7_findings 7 = .ok (.if_icmp .le 7, 3) := by decide +kernel
set_option maxRecDepth 20000 in
theorem dX7_findings_10 : decode cX7_findings 10 = .ok (.iconst (-1), 1) := by decide +kernel
set_option maxRecDepth 20000 in
theorem dX7_findings_11 : decode cX7_findings 11 = .ok (.goto 9, 3) := by decide +kernel
set_option maxRecDepth 20000 in
theorem dX7_findings_14 : decode cX7_findings 14 = .ok (.aload_n 0, 1) := by decide +kernel
set_option maxRecDepth 20000 in
theorem dX7_findings_15 : decode cX7_findings 15 = .ok (.getfield 65, 3) := by decide +kernel
set_option maxRecDepth 20000 in
theorem dX7_findings_18 : decode cX7_findings 18 = .ok (.iload_n 1, 1) := by decide +kernel
set_option maxRecDepth 20000 in
theorem dX7_findings_19 : decode cX7_findings 19 = .ok (.iaload, 1) := by decide +kernel
set_option maxRecDepth 20000 in
theorem dX7_findings_20 : decode cX7_findings 20 = .ok (.ireturn, 1) := by decide +kernel
set_option maxRecDepth 20000 in
theorem dX7_digest_0 : decode cX7_digest 0 = .ok (.ldc2_w 307, 3) := by decide +kernel
set_option maxRecDepth 20000 in
theorem dX7_digest_3 : decode cX7_digest 3 = .ok (.lstore_n 1, 1) := by decide +kernel
set_option maxRecDepth 20000 in
theorem dX7_digest_4 : decode cX7_digest 4 = .ok (.iconst 0, 1) := by decide +kernel
set_option maxRecDepth 20000 in
theorem dX7_digest_5 : decode cX7_digest 5 = .ok (.istore_n 3, 1) := by decide +kernel
set_option maxRecDepth 20000 in
theorem dX7_digest_6 : decode cX7_digest 6 = .ok (.iload_n 3, 1) := by decide +kernel
set_option maxRecDepth 20000 in
theorem dX7_digest_7 : decode cX7_digest 7 = .ok (.bipush 10, 2) := by decide +kernel
set_option maxRecDepth 20000 in
theorem dX7_digest_9 : decode cX7_digest 9 = .ok (.if_icmp .gt 22, 3) := by decide +kernel
set_option maxRecDepth 20000 in
theorem dX7_digest_12 : decode cX7_digest 12 = .ok (.ldc2_w 309, 3) := by decide +kernel
set_option maxRecDepth 20000 in
theorem dX7_digest_15 : decode cX7_digest 15 = .ok (.lload_n 1, 1) := by decide +kernel
set_option maxRecDepth 20000 in
theorem dX7_digest_16 : decode cX7_digest 16 = .ok (.lmul, 1) := by decide +kernel
set_option maxRecDepth 20000 in
theorem dX7_digest_17 : decode cX7_digest 17 = .ok (.aload_n 0, 1) := by decide +kernel
set_option maxRecDepth 20000 in
theorem dX7_digest_18 : decode cX7_digest 18 = .ok (.iload_n 3, 1) := by decide +kernel
set_option maxRecDepth 20000 in
theorem dX7_digest_19 : decode cX7_digest 19 = .ok (.invokevirtual 304, 3) := by decide +kernel
set_option maxRecDepth 20000 in
theorem dX7_digest_22 : decode cX7_digest 22 = .ok (.i2l, 1) := by decide +kernel
set_option maxRecDepth 20000 in
theorem dX7_digest_23 : decode cX7_digest 23 = .ok (.ladd, 1) := by decide +kernel
set_option maxRecDepth 20000 in
theorem dX7_digest_24 : decode cX7_digest 24 = .ok (.lstore_n 1, 1) := by decide +kernel
set_option maxRecDepth 20000 in
theorem dX7_digest_25 : decode cX7_digest 25 = .ok (.iinc 3 1, 3) := by decide +kernel
set_option maxRecDepth 20000 in
theorem dX7_digest_28 : decode cX7_digest 28 = .ok (.goto (-22), 3) := by decide +kernel
set_option maxRecDepth 20000 in
theorem dX7_digest_31 : decode cX7_digest 31 = .ok (.iconst 0, 1) := by decide +kernel
set_option maxRecDepth 20000 in
theorem dX7_digest_32 : decode cX7_digest 32 = .ok (.istore_n 3, 1) := by decide +kernel
set_option maxRecDepth 20000 in
theorem dX7_digest_33 : decode cX7_digest 33 = .ok (.iload_n 3, 1) := by decide +kernel
set_option maxRecDepth 20000 in
theorem dX7_digest_34 : decode cX7_digest 34 = .ok (.aload_n 0, 1) := by decide +kernel
set_option maxRecDepth 20000 in
theorem dX7_digest_35 : decode cX7_digest 35 = .ok (.getfield 24, 3) := by decide +kernel
set_option maxRecDepth 20000 in
theorem dX7_digest_38 : decode cX7_digest 38 = .ok (.getfield 139, 3) := by decide +kernel
set_option maxRecDepth 20000 in
theorem dX7_digest_41 : decode cX7_digest 41 = .ok (.if_icmp .ge 40, 3) := by decide +kernel
set_option maxRecDepth 20000 in
theorem dX7_digest_44 : decode cX7_digest 44 = .ok (.iconst 0, 1) := by decide +kernel
set_option maxRecDepth 20000 in
theorem dX7_digest_45 : decode cX7_digest 45 = .ok (.istore 4, 2) := by decide +kernel
set_option maxRecDepth 20000 in
theorem dX7_digest_47 : decode cX7_digest 47 = .ok (.iload 4, 2) := by decide +kernel
set_option maxRecDepth 20000 in
theorem dX7_digest_49 : decode cX7_digest 49 = .ok (.bipush 7, 2) := by decide +kernel
set_option maxRecDepth 20000 in
theorem dX7_digest_51 : decode cX7_digest 51 = .ok (.if_icmp .gt 24, 3) := by decide +kernel
set_option maxRecDepth 20000 in
theorem dX7_digest_54 : decode cX7_digest 54 = .ok (.ldc2_w 309, 3) := by decide +kernel
set_option maxRecDepth 20000 in
theorem dX7_digest_57 : decode cX7_digest 57 = .ok (.lload_n 1, 1) := by decide +kernel
set_option maxRecDepth 20000 in
theorem dX7_digest_58 : decode cX7_digest 58 = .ok (.lmul, 1) := by decide +kernel
set_option maxRecDepth 20000 in
theorem dX7_digest_59 : decode cX7_digest 59 = .ok (.aload_n 0, 1) := by decide +kernel
set_option maxRecDepth 20000 in
theorem dX7_digest_60 : decode cX7_digest 60 = .ok (.iload_n 3, 1) := by decide +kernel
set_option maxRecDepth 20000 in
theorem dX7_digest_61 : decode cX7_digest 61 = .ok (.iload 4, 2) := by decide +kernel
set_option maxRecDepth 20000 in
theorem dX7_digest_63 : decode cX7_digest 63 = .ok (.invokevirtual 143, 3) := by decide +kernel
set_option maxRecDepth 20000 in
theorem dX7_digest_66 : decode cX7_digest 66 = .ok (.i2l, 1) := by decide +kernel
set_option maxRecDepth 20000 in
theorem dX7_digest_67 : decode cX7_digest 67 = .ok (.ladd, 1) := by decide +kernel
set_option maxRecDepth 20000 in
theorem dX7_digest_68 : decode cX7_digest 68 = .ok (.lstore_n 1, 1) := by decide +kernel
set_option maxRecDepth 20000 in
theorem dX7_digest_69 : decode cX7_digest 69 = .ok (.iinc 4 1, 3) := by decide +kernel
set_option maxRecDepth 20000 in
theorem dX7_digest_72 : decode cX7_digest 72 = .ok (.goto (-25), 3) := by decide +kernel
set_option maxRecDepth 20000 in
theorem dX7_digest_75 : decode cX7_digest 75 = .ok (.iinc 3 1, 3) := by decide +kernel
set_option maxRecDepth 20000 in
theorem dX7_digest_78 : decode cX7_digest 78 = .ok (.goto (-45), 3) := by decide +kernel
set_option maxRecDepth 20000 in
theorem dX7_digest_81 : decode cX7_digest 81 = .ok (.iconst 0, 1) := by decide +kernel
set_option maxRecDepth 20000 in
theorem dX7_digest_82 : decode cX7_digest 82 = .ok (.istore_n 3, 1) := by decide +kernel
set_option maxRecDepth 20000 in
theorem dX7_digest_83 : decode cX7_digest 83 = .ok (.iload_n 3, 1) := by decide +kernel
set_option maxRecDepth 20000 in
theorem dX7_digest_84 : decode cX7_digest 84 = .ok (.iconst 3, 1) := by decide +kernel
set_option maxRecDepth 20000 in
theorem dX7_digest_85 : decode cX7_digest 85 = .ok (.if_icmp .ge 26, 3) := by decide +kernel
set_option maxRecDepth 20000 in
theorem dX7_digest_88 : decode cX7_digest 88 = .ok (.ldc2_w 309, 3) := by decide +kernel
set_option maxRecDepth 20000 in
theorem dX7_digest_91 : decode cX7_digest 91 = .ok (.lload_n 1, 1) := by decide +kernel
set_option maxRecDepth 20000 in
theorem dX7_digest_92 : decode cX7_digest 92 = .ok (.lmul, 1) := by decide +kernel
set_option maxRecDepth 20000 in
theorem dX7_digest_93 : decode cX7_digest 93 = .ok (.aload_n 0, 1) := by decide +kernel
set_option maxRecDepth 20000 in
theorem dX7_digest_94 : decode cX7_digest 94 = .ok (.getfield 39, 3) := by decide +kernel
set_option maxRecDepth 20000 in
theorem dX7_digest_97 : decode cX7_digest 97 = .ok (.iload_n 3, 1) := by decide +kernel
set_option maxRecDepth 20000 in
theorem dX7_digest_98 : decode cX7_digest 98 = .ok (.aaload, 1) := by decide +kernel
set_option maxRecDepth 20000 in
theorem dX7_digest_99 : decode cX7_digest 99 = .ok (.getfield 85, 3) := by decide +kernel
set_option maxRecDepth 20000 in
theorem dX7_digest_102 : decode cX7_digest 102 = .ok (.i2l, 1) := by decide +kernel
set_option maxRecDepth 20000 in
theorem dX7_digest_103 : decode cX7_digest 103 = .ok (.ladd, 1) := by decide +kernel
set_option maxRecDepth 20000 in
theorem dX7_digest_104 : decode cX7_digest 104 = .ok (.lstore_n 1, 1) := by decide +kernel
set_option maxRecDepth 20000 in
theorem dX7_digest_105 : decode cX7_digest 105 = .ok (.iinc 3 1, 3) := by decide +kernel
set_option maxRecDepth 20000 in
theorem dX7_digest_108 : decode cX7_digest 108 = .ok (.goto (-25), 3) := by decide +kernel
set_option maxRecDepth 20000 in
theorem dX7_digest_111 : decode cX7_digest 111 = .ok (.iconst 0, 1) := by decide +kernel
set_option maxRecDepth 20000 in
theorem dX7_digest_112 : decode cX7_digest 112 = .ok (.istore_n 3, 1) := by decide +kernel
set_option maxRecDepth 20000 in
theorem dX7_digest_113 : decode cX7_digest 113 = .ok (.iload_n 3, 1) := by decide +kernel
set_option maxRecDepth 20000 in
theorem dX7_digest_114 : decode cX7_digest 114 = .ok (.bipush 6, 2) := by decide +kernel
set_option maxRecDepth 20000 in
theorem dX7_digest_116 : decode cX7_digest 116 = .ok (.if_icmp .ge 20, 3) := by decide +kernel
set_option maxRecDepth 20000 in
theorem dX7_digest_119 : decode cX7_digest 119 = .ok (.aload_n 0, 1) := by decide +kernel
set_option maxRecDepth 20000 in
theorem dX7_digest_120 : decode cX7_digest 120 = .ok (.getfield 11, 3) := by decide +kernel
set_option maxRecDepth 20000 in
theorem dX7_digest_123 : decode cX7_digest 123 = .ok (.iload_n 3, 1) := by decide +kernel
set_option maxRecDepth 20000 in
theorem dX7_digest_124 : decode cX7_digest 124 = .ok (.aaload, 1) := by decide +kernel
set_option maxRecDepth 20000 in
theorem dX7_digest_125 : decode cX7_digest 125 = .ok (.lload_n 1, 1) := by decide +kernel
set_option maxRecDepth 20000 in
theorem dX7_digest_126 : decode cX7_digest 126 = .ok (.invokevirtual 311, 3) := by decide +kernel
set_option maxRecDepth 20000 in
theorem dX7_digest_129 : decode cX7_digest 129 = .ok (.lstore_n 1, 1) := by decide +kernel
set_option maxRecDepth 20000 in
theorem dX7_digest_130 : decode cX7_digest 130 = .ok (.iinc 3 1, 3) := by decide +kernel
set_option maxRecDepth 20000 in
theorem dX7_digest_133 : decode cX7_digest 133 = .ok (.goto (-20), 3) := by decide +kernel
set_option maxRecDepth 20000 in
theorem dX7_digest_136 : decode cX7_digest 136 = .ok (.iconst 0, 1) := by decide +kernel
set_option maxRecDepth 20000 in
theorem dX7_digest_137 : decode cX7_digest 137 = .ok (.istore_n 3, 1) := by decide +kernel
set_option maxRecDepth 20000 in
theorem dX7_digest_138 : decode cX7_digest 138 = .ok (.iload_n 3, 1) := by decide +kernel
set_option maxRecDepth 20000 in
theorem dX7_digest_139 : decode cX7_digest 139 = .ok (.iconst 4, 1) := by decide +kernel
set_option maxRecDepth 20000 in
theorem dX7_digest_140 : decode cX7_digest 140 = .ok (.if_icmp .ge 20, 3) := by decide +kernel
set_option maxRecDepth 20000 in
theorem dX7_digest_143 : decode cX7_digest 143 = .ok (.aload_n 0, 1) := by decide +kernel
set_option maxRecDepth 20000 in
theorem dX7_digest_144 : decode cX7_digest 144 = .ok (.getfield 17, 3) := by decide +kernel
set_option maxRecDepth 20000 in
theorem dX7_digest_147 : decode cX7_digest 147 = .ok (.iload_n 3, 1) := by decide +kernel
set_option maxRecDepth 20000 in
theorem dX7_digest_148 : decode cX7_digest 148 = .ok (.aaload, 1) := by decide +kernel
set_option maxRecDepth 20000 in
theorem dX7_digest_149 : decode cX7_digest 149 = .ok (.lload_n 1, 1) := by decide +kernel
set_option maxRecDepth 20000 in
theorem dX7_digest_150 : decode cX7_digest 150 = .ok (.invokevirtual 315, 3) := by decide +kernel
set_option maxRecDepth 20000 in
theorem dX7_digest_153 : decode cX7_digest 153 = .ok (.lstore_n 1, 1) := by decide +kernel
set_option maxRecDepth 20000 in
theorem dX7_digest_154 : decode cX7_digest 154 = .ok (.iinc 3 1, 3) := by decide +kernel
set_option maxRecDepth 20000 in
theorem dX7_digest_157 : decode cX7_digest 157 = .ok (.goto (-19), 3) := by decide +kernel
set_option maxRecDepth 20000 in
theorem dX7_digest_160 : decode cX7_digest 160 = .ok (.lload_n 1, 1) := by decide +kernel
set_option maxRecDepth 20000 in
theorem dX7_digest_161 : decode cX7_digest 161 = .ok (.lreturn, 1) := by decide +kernel
set_option maxRecDepth 20000 in
theorem dX7_isRow_0 : decode cX7_isRow 0 = .ok (.iload_n 0, 1) := by decide +kernel
set_option maxRecDepth 20000 in
theorem dX7_isRow_1 : decode cX7_isRow 1 = .ok (.ifCond .lt 13, 3) := by decide +kernel
set_option maxRecDepth 20000 in
theorem dX7_isRow_4 : decode cX7_isRow 4 = .ok (.iload_n 0, 1) := by decide +kernel
set_option maxRecDepth 20000 in
theorem dX7_isRow_5 : decode cX7_isRow 5 = .ok (.bipush 6, 2) := by decide +kernel
set_option maxRecDepth 20000 in
theorem dX7_isRow_7 : decode cX7_isRow 7 = .ok (.if_icmp .ge 7, 3) := by decide +kernel
set_option maxRecDepth 20000 in
theorem dX7_isRow_10 : decode cX7_isRow 10 = .ok (.iconst 1, 1) := by decide +kernel
set_option maxRecDepth 20000 in
theorem dX7_isRow_11 : decode cX7_isRow 11 = .ok (.goto 4, 3) := by decide +kernel
set_option maxRecDepth 20000 in
theorem dX7_isRow_14 : decode cX7_isRow 14 = .ok (.iconst 0, 1) := by decide +kernel
set_option maxRecDepth 20000 in
theorem dX7_isRow_15 : decode cX7_isRow 15 = .ok (.ireturn, 1) := by decide +kernel
set_option maxRecDepth 20000 in
theorem dX7_isText_0 : decode cX7_isText 0 = .ok (.iload_n 0, 1) := by decide +kernel
set_option maxRecDepth 20000 in
theorem dX7_isText_1 : decode cX7_isText 1 = .ok (.ifCond .lt 12, 3) := by decide +kernel
set_option maxRecDepth 20000 in
theorem dX7_isText_4 : decode cX7_isText 4 = .ok (.iload_n 0, 1) := by decide +kernel
set_option maxRecDepth 20000 in
theorem dX7_isText_5 : decode cX7_isText 5 = .ok (.iconst 4, 1) := by decide +kernel
set_option maxRecDepth 20000 in
theorem dX7_isText_6 : decode cX7_isText 6 = .ok (.if_icmp .ge 7, 3) := by decide +kernel
set_option maxRecDepth 20000 in
theorem dX7_isText_9 : decode cX7_isText 9 = .ok (.iconst 1, 1) := by decide +kernel
set_option maxRecDepth 20000 in
theorem dX7_isText_10 : decode cX7_isText 10 = .ok (.goto 4, 3) := by decide +kernel
set_option maxRecDepth 20000 in
theorem dX7_isText_13 : decode cX7_isText 13 = .ok (.iconst 0, 1) := by decide +kernel
set_option maxRecDepth 20000 in
theorem dX7_isText_14 : decode cX7_isText 14 = .ok (.ireturn, 1) := by decide +kernel
set_option maxRecDepth 20000 in
theorem dX7_isKept_0 : decode cX7_isKept 0 = .ok (.iload_n 0, 1) := by decide +kernel
set_option maxRecDepth 20000 in
theorem dX7_isKept_1 : decode cX7_isKept 1 = .ok (.ifCond .lt 12, 3) := by decide +kernel
set_option maxRecDepth 20000 in
theorem dX7_isKept_4 : decode cX7_isKept 4 = .ok (.iload_n 0, 1) := by decide +kernel
set_option maxRecDepth 20000 in
theorem dX7_isKept_5 : decode cX7_isKept 5 = .ok (.iconst 3, 1) := by decide +kernel
set_option maxRecDepth 20000 in
theorem dX7_isKept_6 : decode cX7_isKept 6 = .ok (.if_icmp .ge 7, 3) := by decide +kernel
set_option maxRecDepth 20000 in
theorem dX7_isKept_9 : decode cX7_isKept 9 = .ok (.iconst 1, 1) := by decide +kernel
set_option maxRecDepth 20000 in
theorem dX7_isKept_10 : decode cX7_isKept 10 = .ok (.goto 4, 3) := by decide +kernel
set_option maxRecDepth 20000 in
theorem dX7_isKept_13 : decode cX7_isKept 13 = .ok (.iconst 0, 1) := by decide +kernel
set_option maxRecDepth 20000 in
theorem dX7_isKept_14 : decode cX7_isKept 14 = .ok (.ireturn, 1) := by decide +kernel
set_option maxRecDepth 20000 in
theorem dX7_isCell_0 : decode cX7_isCell 0 = .ok (.iload_n 0, 1) := by decide +kernel
set_option maxRecDepth 20000 in
theorem dX7_isCell_1 : decode cX7_isCell 1 = .ok (.ifCond .lt 13, 3) := by decide +kernel
set_option maxRecDepth 20000 in
theorem dX7_isCell_4 : decode cX7_isCell 4 = .ok (.iload_n 0, 1) := by decide +kernel
set_option maxRecDepth 20000 in
theorem dX7_isCell_5 : decode cX7_isCell 5 = .ok (.bipush 96, 2) := by decide +kernel
set_option maxRecDepth 20000 in
theorem dX7_isCell_7 : decode cX7_isCell 7 = .ok (.if_icmp .ge 7, 3) := by decide +kernel
set_option maxRecDepth 20000 in
theorem dX7_isCell_10 : decode cX7_isCell 10 = .ok (.iconst 1, 1) := by decide +kernel
set_option maxRecDepth 20000 in
theorem dX7_isCell_11 : decode cX7_isCell 11 = .ok (.goto 4, 3) := by decide +kernel
set_option maxRecDepth 20000 in
theorem dX7_isCell_14 : decode cX7_isCell 14 = .ok (.iconst 0, 1) := by decide +kernel
set_option maxRecDepth 20000 in
theorem dX7_isCell_15 : decode cX7_isCell 15 = .ok (.ireturn, 1) := by decide +kernel
set_option maxRecDepth 20000 in
theorem dX7_isNear_0 : decode cX7_isNear 0 = .ok (.iload_n 0, 1) := by decide +kernel
set_option maxRecDepth 20000 in
theorem dX7_isNear_1 : decode cX7_isNear 1 = .ok (.bipush (-3), 2) := by decide +kernel
set_option maxRecDepth 20000 in
theorem dX7_isNear_3 : decode cX7_isNear 3 = .ok (.if_icmp .lt 12, 3) := by decide +kernel
set_option maxRecDepth 20000 in
theorem dX7_isNear_6 : decode cX7_isNear 6 = .ok (.iload_n 0, 1) := by decide +kernel
set_option maxRecDepth 20000 in
theorem dX7_isNear_7 : decode cX7_isNear 7 = .ok (.iconst 3, 1) := by decide +kernel
set_option maxRecDepth 20000 in
theorem dX7_isNear_8 : decode cX7_isNear 8 = .ok (.if_icmp .gt 7, 3) := by decide +kernel
set_option maxRecDepth 20000 in
theorem dX7_isNear_11 : decode cX7_isNear 11 = .ok (.iconst 1, 1) := by decide +kernel
set_option maxRecDepth 20000 in
theorem dX7_isNear_12 : decode cX7_isNear 12 = .ok (.goto 4, 3) := by decide +kernel
set_option maxRecDepth 20000 in
theorem dX7_isNear_15 : decode cX7_isNear 15 = .ok (.iconst 0, 1) := by decide +kernel
set_option maxRecDepth 20000 in
theorem dX7_isNear_16 : decode cX7_isNear 16 = .ok (.ireturn, 1) := by decide +kernel
set_option maxRecDepth 20000 in
theorem dX7_isOf_0 : decode cX7_isOf 0 = .ok (.iload_n 0, 1) := by decide +kernel
set_option maxRecDepth 20000 in
theorem dX7_isOf_1 : decode cX7_isOf 1 = .ok (.iload_n 1, 1) := by decide +kernel
set_option maxRecDepth 20000 in
theorem dX7_isOf_2 : decode cX7_isOf 2 = .ok (.if_icmp .eq 27, 3) := by decide +kernel
set_option maxRecDepth 20000 in
theorem dX7_isOf_5 : decode cX7_isOf 5 = .ok (.iload_n 1, 1) := by decide +kernel
set_option maxRecDepth 20000 in
theorem dX7_isOf_6 : decode cX7_isOf 6 = .ok (.ifCond .eq 23, 3) := by decide +kernel
set_option maxRecDepth 20000 in
theorem dX7_isOf_9 : decode cX7_isOf 9 = .ok (.iload_n 0, 1) := by decide +kernel
set_option maxRecDepth 20000 in
theorem dX7_isOf_10 : decode cX7_isOf 10 = .ok (.iconst 4, 1) := by decide +kernel
set_option maxRecDepth 20000 in
theorem dX7_isOf_11 : decode cX7_isOf 11 = .ok (.if_icmp .ne 8, 3) := by decide +kernel
set_option maxRecDepth 20000 in
theorem dX7_isOf_14 : decode cX7_isOf 14 = .ok (.iload_n 1, 1) := by decide +kernel
set_option maxRecDepth 20000 in
theorem dX7_isOf_15 : decode cX7_isOf 15 = .ok (.iconst 1, 1) := by decide +kernel
set_option maxRecDepth 20000 in
theorem dX7_isOf_16 : decode cX7_isOf 16 = .ok (.if_icmp .eq 13, 3) := by decide +kernel
set_option maxRecDepth 20000 in
theorem dX7_isOf_19 : decode cX7_isOf 19 = .ok (.iload_n 0, 1) := by decide +kernel
set_option maxRecDepth 20000 in
theorem dX7_isOf_20 : decode cX7_isOf 20 = .ok (.iconst 5, 1) := by decide +kernel
set_option maxRecDepth 20000 in
theorem dX7_isOf_21 : decode cX7_isOf 21 = .ok (.if_icmp .ne 12, 3) := by decide +kernel
set_option maxRecDepth 20000 in
theorem dX7_isOf_24 : decode cX7_isOf 24 = .ok (.iload_n 1, 1) := by decide +kernel
set_option maxRecDepth 20000 in
theorem dX7_isOf_25 : decode cX7_isOf 25 = .ok (.iconst 2, 1) := by decide +kernel
set_option maxRecDepth 20000 in
theorem dX7_isOf_26 : decode cX7_isOf 26 = .ok (.if_icmp .ne 7, 3) := by decide +kernel
set_option maxRecDepth 20000 in
theorem dX7_isOf_29 : decode cX7_isOf 29 = .ok (.iconst 1, 1) := by decide +kernel
set_option maxRecDepth 20000 in
theorem dX7_isOf_30 : decode cX7_isOf 30 = .ok (.goto 4, 3) := by decide +kernel
set_option maxRecDepth 20000 in
theorem dX7_isOf_33 : decode cX7_isOf 33 = .ok (.iconst 0, 1) := by decide +kernel
set_option maxRecDepth 20000 in
theorem dX7_isOf_34 : decode cX7_isOf 34 = .ok (.ireturn, 1) := by decide +kernel
set_option maxRecDepth 20000 in
theorem dX7_found_0 : decode cX7_found 0 = .ok (.aload_n 0, 1) := by decide +kernel
set_option maxRecDepth 20000 in
theorem dX7_found_1 : decode cX7_found 1 = .ok (.iload_n 1, 1) := by decide +kernel
set_option maxRecDepth 20000 in
theorem dX7_found_2 : decode cX7_found 2 = .ok (.putfield 69, 3) := by decide +kernel
set_option maxRecDepth 20000 in
theorem dX7_found_5 : decode cX7_found 5 = .ok (.aload_n 0, 1) := by decide +kernel
set_option maxRecDepth 20000 in
theorem dX7_found_6 : decode cX7_found 6 = .ok (.getfield 65, 3) := by decide +kernel
set_option maxRecDepth 20000 in
theorem dX7_found_9 : decode cX7_found 9 = .ok (.iload_n 1, 1) := by decide +kernel
set_option maxRecDepth 20000 in
theorem dX7_found_10 : decode cX7_found 10 = .ok (.dup2, 1) := by decide +kernel
set_option maxRecDepth 20000 in
theorem dX7_found_11 : decode cX7_found 11 = .ok (.iaload, 1) := by decide +kernel
set_option maxRecDepth 20000 in
theorem dX7_found_12 : decode cX7_found 12 = .ok (.iconst 1, 1) := by decide +kernel
set_option maxRecDepth 20000 in
theorem dX7_found_13 : decode cX7_found 13 = .ok (.iadd, 1) := by decide +kernel
set_option maxRecDepth 20000 in
theorem dX7_found_14 : decode cX7_found 14 = .ok (.iastore, 1) := by decide +kernel
set_option maxRecDepth 20000 in
theorem dX7_found_15 : decode cX7_found 15 = .ok (.bipush (-3), 2) := by decide +kernel
set_option maxRecDepth 20000 in
theorem dX7_found_17 : decode cX7_found 17 = .ok (.ireturn, 1) := by decide +kernel
set_option maxRecDepth 20000 in
theorem dX7_refusalOfPlace_0 : decode cX7_refusalOfPlace 0 = .ok (.iload_n 1, 1) := by decide +kernel
set_option maxRecDepth 20000 in
theorem dX7_refusalOfPlace_1 : decode cX7_refusalOfPlace 1 = .ok (.invokestatic 88, 3) := by decide +kernel
set_option maxRecDepth 20000 in
theorem dX7_refusalOfPlace_4 : decode cX7_refusalOfPlace 4 = .ok (.ifCond .ne 5, 3) := by decide +kernel
set_option maxRecDepth 20000 in
theorem dX7_refusalOfPlace_7 : decode cX7_refusalOfPlace 7 = .ok (.iconst (-1), 1) := by decide +kernel
set_option maxRecDepth 20000 in
theorem dX7_refusalOfPlace_8 : decode cX7_refusalOfPlace 8 = .ok (.ireturn, 1) := by decide +kernel
set_option maxRecDepth 20000 in
theorem dX7_refusalOfPlace_9 : decode cX7_refusalOfPlace 9 = .ok (.aload_n 0, 1) := by decide +kernel
set_option maxRecDepth 20000 in
theorem dX7_refusalOfPlace_10 : decode cX7_refusalOfPlace 10 = .ok (.getfield 11, 3) := by decide +kernel
set_option maxRecDepth 20000 in
theorem dX7_refusalOfPlace_13 : decode cX7_refusalOfPlace 13 = .ok (.iload_n 1, 1) := by decide +kernel
set_option maxRecDepth 20000 in
theorem dX7_refusalOfPlace_14 : decode cX7_refusalOfPlace 14 = .ok (.aaload, 1) := by decide +kernel
set_option maxRecDepth 20000 in
theorem dX7_refusalOfPlace_15 : decode cX7_refusalOfPlace 15 = .ok (.getfield 107, 3) := by decide +kernel
set_option maxRecDepth 20000 in
theorem dX7_refusalOfPlace_18 : decode cX7_refusalOfPlace 18 = .ok (.iconst (-1), 1) := by decide +kernel
set_option maxRecDepth 20000 in
theorem dX7_refusalOfPlace_19 : decode cX7_refusalOfPlace 19 = .ok (.if_icmp .ne 9, 3) := by decide +kernel
set_option maxRecDepth 20000 in
theorem dX7_refusalOfPlace_22 : decode cX7_refusalOfPlace 22 = .ok (.aload_n 0, 1) := by decide +kernel
set_option maxRecDepth 20000 in
theorem dX7_refusalOfPlace_23 : decode cX7_refusalOfPlace 23 = .ok (.iconst 1, 1) := by decide +kernel
set_option maxRecDepth 20000 in
theorem dX7_refusalOfPlace_24 : decode cX7_refusalOfPlace 24 = .ok (.invokevirtual 92, 3) := by decide +kernel
set_option maxRecDepth 20000 in
theorem dX7_refusalOfPlace_27 : decode cX7_refusalOfPlace 27 = .ok (.ireturn, 1) := by decide +kernel
set_option maxRecDepth 20000 in
theorem dX7_refusalOfPlace_28 : decode cX7_refusalOfPlace 28 = .ok (.aload_n 0, 1) := by decide +kernel
set_option maxRecDepth 20000 in
theorem dX7_refusalOfPlace_29 : decode cX7_refusalOfPlace 29 = .ok (.getfield 11, 3) := by decide +kernel
set_option maxRecDepth 20000 in
theorem dX7_refusalOfPlace_32 : decode cX7_refusalOfPlace 32 = .ok (.iload_n 1, 1) := by decide +kernel
set_option maxRecDepth 20000 in
theorem dX7_refusalOfPlace_33 : decode cX7_refusalOfPlace 33 = .ok (.aaload, 1) := by decide +kernel
set_option maxRecDepth 20000 in
theorem dX7_refusalOfPlace_34 : decode cX7_refusalOfPlace 34 = .ok (.iload_n 2, 1) := by decide +kernel
set_option maxRecDepth 20000 in
theorem dX7_refusalOfPlace_35 : decode cX7_refusalOfPlace 35 = .ok (.iconst 1, 1) := by decide +kernel
set_option maxRecDepth 20000 in
theorem dX7_refusalOfPlace_36 : decode cX7_refusalOfPlace 36 = .ok (.invokevirtual 108, 3) := by decide +kernel
set_option maxRecDepth 20000 in
theorem dX7_refusalOfPlace_39 : decode cX7_refusalOfPlace 39 = .ok (.ifCond .eq 7, 3) := by decide +kernel
set_option maxRecDepth 20000 in
theorem dX7_refusalOfPlace_42 : decode cX7_refusalOfPlace 42 = .ok (.iconst 0, 1) := by decide +kernel
set_option maxRecDepth 20000 in
theorem dX7_refusalOfPlace_43 : decode cX7_refusalOfPlace 43 = .ok (.goto 8, 3) := by decide +kernel
set_option maxRecDepth 20000 in
theorem dX7_refusalOfPlace_46 : decode cX7_refusalOfPlace 46 = .ok (.aload_n 0, 1) := by decide +kernel
set_option maxRecDepth 20000 in
theorem dX7_refusalOfPlace_47 : decode cX7_refusalOfPlace 47 = .ok (.iconst 2, 1) := by decide +kernel
set_option maxRecDepth 20000 in
theorem dX7_refusalOfPlace_48 : decode cX7_refusalOfPlace 48 = .ok (.invokevirtual 92, 3) := by decide +kernel
set_option maxRecDepth 20000 in
theorem dX7_refusalOfPlace_51 : decode cX7_refusalOfPlace 51 = .ok (.ireturn, 1) := by decide +kernel
set_option maxRecDepth 20000 in
theorem dX7_refusalOfOpen_0 : decode cX7_refusalOfOpen 0 = .ok (.aload_n 0, 1) := by decide +kernel
set_option maxRecDepth 20000 in
theorem dX7_refusalOfOpen_1 : decode cX7_refusalOfOpen 1 = .ok (.getfield 24, 3) := by decide +kernel
set_option maxRecDepth 20000 in
theorem dX7_refusalOfOpen_4 : decode cX7_refusalOfOpen 4 = .ok (.iload_n 1, 1) := by decide +kernel
set_option maxRecDepth 20000 in
theorem dX7_refusalOfOpen_5 : decode cX7_refusalOfOpen 5 = .ok (.invokevirtual 140, 3) := by decide +kernel
set_option maxRecDepth 20000 in
theorem dX7_refusalOfOpen_8 : decode cX7_refusalOfOpen 8 = .ok (.ifCond .ne 5, 3) := by decide +kernel
set_option maxRecDepth 20000 in
theorem dX7_refusalOfOpen_11 : decode cX7_refusalOfOpen 11 = .ok (.iconst (-1), 1) := by decide +kernel
set_option maxRecDepth 20000 in
theorem dX7_refusalOfOpen_12 : decode cX7_refusalOfOpen 12 = .ok (.ireturn, 1) := by decide +kernel
set_option maxRecDepth 20000 in
theorem dX7_refusalOfOpen_13 : decode cX7_refusalOfOpen 13 = .ok (.aload_n 0, 1) := by decide +kernel
set_option maxRecDepth 20000 in
theorem dX7_refusalOfOpen_14 : decode cX7_refusalOfOpen 14 = .ok (.getfield 24, 3) := by decide +kernel
set_option maxRecDepth 20000 in
theorem dX7_refusalOfOpen_17 : decode cX7_refusalOfOpen 17 = .ok (.getfield 146, 3) := by decide +kernel
set_option maxRecDepth 20000 in
theorem dX7_refusalOfOpen_20 : decode cX7_refusalOfOpen 20 = .ok (.iload_n 1, 1) := by decide +kernel
set_option maxRecDepth 20000 in
theorem dX7_refusalOfOpen_21 : decode cX7_refusalOfOpen 21 = .ok (.aaload, 1) := by decide +kernel
set_option maxRecDepth 20000 in
theorem dX7_refusalOfOpen_22 : decode cX7_refusalOfOpen 22 = .ok (.getfield 206, 3) := by decide +kernel
set_option maxRecDepth 20000 in
theorem dX7_refusalOfOpen_25 : decode cX7_refusalOfOpen 25 = .ok (.ifCond .eq 7, 3) := by decide +kernel
set_option maxRecDepth 20000 in
theorem dX7_refusalOfOpen_28 : decode cX7_refusalOfOpen 28 = .ok (.iconst 0, 1) := by decide +kernel
set_option maxRecDepth 20000 in
theorem dX7_refusalOfOpen_29 : decode cX7_refusalOfOpen 29 = .ok (.goto 5, 3) := by decide +kernel
set_option maxRecDepth 20000 in
theorem dX7_refusalOfOpen_32 : decode cX7_refusalOfOpen 32 = .ok (.bipush (-4), 2) := by decide +kernel
set_option maxRecDepth 20000 in
theorem dX7_refusalOfOpen_34 : decode cX7_refusalOfOpen 34 = .ok (.ireturn, 1) := by decide +kernel
set_option maxRecDepth 20000 in
theorem dX7_refusalOfChance_0 : decode cX7_refusalOfChance 0 = .ok (.iload_n 2, 1) := by decide +kernel
set_option maxRecDepth 20000 in
theorem dX7_refusalOfChance_1 : decode cX7_refusalOfChance 1 = .ok (.ifCond .lt 9, 3) := by decide +kernel
set_option maxRecDepth 20000 in
theorem dX7_refusalOfChance_4 : decode cX7_refusalOfChance 4 = .ok (.iload_n 2, 1) := by decide +kernel
set_option maxRecDepth 20000 in
theorem dX7_refusalOfChance_5 : decode cX7_refusalOfChance 5 = .ok (.bipush 12, 2) := by decide +kernel
set_option maxRecDepth 20000 in
theorem dX7_refusalOfChance_7 : decode cX7_refusalOfChance 7 = .ok (.if_icmp .le 7, 3) := by decide +kernel
set_option maxRecDepth 20000 in
theorem dX7_refusalOfChance_10 : decode cX7_refusalOfChance 10 = .ok (.iconst (-1), 1) := by decide +kernel
set_option maxRecDepth 20000 in
theorem dX7_refusalOfChance_11 : decode cX7_refusalOfChance 11 = .ok (.goto 8, 3) := by decide +kernel
set_option maxRecDepth 20000 in
theorem dX7_refusalOfChance_14 : decode cX7_refusalOfChance 14 = .ok (.aload_n 0, 1) := by decide +kernel
set_option maxRecDepth 20000 in
theorem dX7_refusalOfChance_15 : decode cX7_refusalOfChance 15 = .ok (.iload_n 1, 1) := by decide +kernel
set_option maxRecDepth 20000 in
theorem dX7_refusalOfChance_16 : decode cX7_refusalOfChance 16 = .ok (.invokevirtual 241, 3) := by decide +kernel
set_option maxRecDepth 20000 in
theorem dX7_refusalOfChance_19 : decode cX7_refusalOfChance 19 = .ok (.ireturn, 1) := by decide +kernel
set_option maxRecDepth 20000 in
theorem dX7_refusalOfSights_0 : decode cX7_refusalOfSights 0 = .ok (.aload_n 0, 1) := by decide +kernel
set_option maxRecDepth 20000 in
theorem dX7_refusalOfSights_1 : decode cX7_refusalOfSights 1 = .ok (.getfield 24, 3) := by decide +kernel
set_option maxRecDepth 20000 in
theorem dX7_refusalOfSights_4 : decode cX7_refusalOfSights 4 = .ok (.iload_n 1, 1) := by decide +kernel
set_option maxRecDepth 20000 in
theorem dX7_refusalOfSights_5 : decode cX7_refusalOfSights 5 = .ok (.invokevirtual 140, 3) := by decide +kernel
set_option maxRecDepth 20000 in
theorem dX7_refusalOfSights_8 : decode cX7_refusalOfSights 8 = .ok (.ifCond .eq 10, 3) := by decide +kernel
set_option maxRecDepth 20000 in
theorem dX7_refusalOfSights_11 : decode cX7_refusalOfSights 11 = .ok (.iload_n 2, 1) := by decide +kernel
set_option maxRecDepth 20000 in
theorem dX7_refusalOfSights_12 : decode cX7_refusalOfSights 12 = .ok (.invokestatic 88, 3) := by decide +kernel
set_option maxRecDepth 20000 in
theorem dX7_refusalOfSights_15 : decode cX7_refusalOfSights 15 = .ok (.ifCond .ne 5, 3) := by decide +kernel
set_option maxRecDepth 20000 in
theorem dX7_refusalOfSights_18 : decode cX7_refusalOfSights 18 = .ok (.iconst (-1), 1) := by decide +kernel
set_option maxRecDepth 20000 in
theorem dX7_refusalOfSights_19 : decode cX7_refusalOfSights 19 = .ok (.ireturn, 1) := by decide +kernel
set_option maxRecDepth 20000 in
theorem dX7_refusalOfSights_20 : decode cX7_refusalOfSights 20 = .ok (.aload_n 0, 1) := by decide +kernel
set_option maxRecDepth 20000 in
theorem dX7_refusalOfSights_21 : decode cX7_refusalOfSights 21 = .ok (.getfield 11, 3) := by decide +kernel
set_option maxRecDepth 20000 in
theorem dX7_refusalOfSights_24 : decode cX7_refusalOfSights 24 = .ok (.iload_n 2, 1) := by decide +kernel
set_option maxRecDepth 20000 in
theorem dX7_refusalOfSights_25 : decode cX7_refusalOfSights 25 = .ok (.aaload, 1) := by decide +kernel
set_option maxRecDepth 20000 in
theorem dX7_refusalOfSights_26 : decode cX7_refusalOfSights 26 = .ok (.getfield 107, 3) := by decide +kernel
set_option maxRecDepth 20000 in
theorem dX7_refusalOfSights_29 : decode cX7_refusalOfSights 29 = .ok (.iconst (-1), 1) := by decide +kernel
set_option maxRecDepth 20000 in
theorem dX7_refusalOfSights_30 : decode cX7_refusalOfSights 30 = .ok (.if_icmp .ne 9, 3) := by decide +kernel
set_option maxRecDepth 20000 in
theorem dX7_refusalOfSights_33 : decode cX7_refusalOfSights 33 = .ok (.aload_n 0, 1) := by decide +kernel
set_option maxRecDepth 20000 in
theorem dX7_refusalOfSights_34 : decode cX7_refusalOfSights 34 = .ok (.iconst 1, 1) := by decide +kernel
set_option maxRecDepth 20000 in
theorem dX7_refusalOfSights_35 : decode cX7_refusalOfSights 35 = .ok (.invokevirtual 92, 3) := by decide +kernel
set_option maxRecDepth 20000 in
theorem dX7_refusalOfSights_38 : decode cX7_refusalOfSights 38 = .ok (.ireturn, 1) := by decide +kernel
set_option maxRecDepth 20000 in
theorem dX7_refusalOfSights_39 : decode cX7_refusalOfSights 39 = .ok (.aload_n 0, 1) := by decide +kernel
set_option maxRecDepth 20000 in
theorem dX7_refusalOfSights_40 : decode cX7_refusalOfSights 40 = .ok (.getfield 11, 3) := by decide +kernel
set_option maxRecDepth 20000 in
theorem dX7_refusalOfSights_43 : decode cX7_refusalOfSights 43 = .ok (.iload_n 2, 1) := by decide +kernel
set_option maxRecDepth 20000 in
theorem dX7_refusalOfSights_44 : decode cX7_refusalOfSights 44 = .ok (.aaload, 1) := by decide +kernel
set_option maxRecDepth 20000 in
theorem dX7_refusalOfSights_45 : decode cX7_refusalOfSights 45 = .ok (.getfield 107, 3) := by decide +kernel
set_option maxRecDepth 20000 in
theorem dX7_refusalOfSights_48 : decode cX7_refusalOfSights 48 = .ok (.iconst 2, 1) := by decide +kernel
set_option maxRecDepth 20000 in
theorem dX7_refusalOfSights_49 : decode cX7_refusalOfSights 49 = .ok (.irem, 1) := by decide +kernel
set_option maxRecDepth 20000 in
theorem dX7_refusalOfSights_50 : decode cX7_refusalOfSights 50 = .ok (.ifCond .eq 9, 3) := by decide +kernel
set_option maxRecDepth 20000 in
theorem dX7_refusalOfSights_53 : decode cX7_refusalOfSights 53 = .ok (.aload_n 0, 1) := by decide +kernel
set_option maxRecDepth 20000 in
theorem dX7_refusalOfSights_54 : decode cX7_refusalOfSights 54 = .ok (.iconst 5, 1) := by decide +kernel
set_option maxRecDepth 20000 in
theorem dX7_refusalOfSights_55 : decode cX7_refusalOfSights 55 = .ok (.invokevirtual 92, 3) := by decide +kernel
set_option maxRecDepth 20000 in
theorem dX7_refusalOfSights_58 : decode cX7_refusalOfSights 58 = .ok (.ireturn, 1) := by decide +kernel
set_option maxRecDepth 20000 in
theorem dX7_refusalOfSights_59 : decode cX7_refusalOfSights 59 = .ok (.iconst 0, 1) := by decide +kernel
set_option maxRecDepth 20000 in
theorem dX7_refusalOfSights_60 : decode cX7_refusalOfSights 60 = .ok (.istore_n 3, 1) := by decide +kernel
set_option maxRecDepth 20000 in
theorem dX7_refusalOfSights_61 : decode cX7_refusalOfSights 61 = .ok (.iload_n 3, 1) := by decide +kernel
set_option maxRecDepth 20000 in
theorem dX7_refusalOfSights_62 : decode cX7_refusalOfSights 62 = .ok (.iconst 1, 1) := by decide +kernel
set_option maxRecDepth 20000 in
theorem dX7_refusalOfSights_63 : decode cX7_refusalOfSights 63 = .ok (.iadd, 1) := by decide +kernel
set_option maxRecDepth 20000 in
theorem dX7_refusalOfSights_64 : decode cX7_refusalOfSights 64 = .ok (.aload_n 0, 1) := by decide +kernel
set_option maxRecDepth 20000 in
theorem dX7_refusalOfSights_65 : decode cX7_refusalOfSights 65 = .ok (.getfield 11, 3) := by decide +kernel
set_option maxRecDepth 20000 in
theorem dX7_refusalOfSights_68 : decode cX7_refusalOfSights 68 = .ok (.iload_n 2, 1) := by decide +kernel
set_option maxRecDepth 20000 in
theorem dX7_refusalOfSights_69 : decode cX7_refusalOfSights 69 = .ok (.aaload, 1) := by decide +kernel
set_option maxRecDepth 20000 in
theorem dX7_refusalOfSights_70 : decode cX7_refusalOfSights 70 = .ok (.getfield 107, 3) := by decide +kernel
set_option maxRecDepth 20000 in
theorem dX7_refusalOfSights_73 : decode cX7_refusalOfSights 73 = .ok (.if_icmp .ge 65, 3) := by decide +kernel
set_option maxRecDepth 20000 in
theorem dX7_refusalOfSights_76 : decode cX7_refusalOfSights 76 = .ok (.aload_n 0, 1) := by decide +kernel
set_option maxRecDepth 20000 in
theorem dX7_refusalOfSights_77 : decode cX7_refusalOfSights 77 = .ok (.getfield 11, 3) := by decide +kernel
set_option maxRecDepth 20000 in
theorem dX7_refusalOfSights_80 : decode cX7_refusalOfSights 80 = .ok (.iload_n 2, 1) := by decide +kernel
set_option maxRecDepth 20000 in
theorem dX7_refusalOfSights_81 : decode cX7_refusalOfSights 81 = .ok (.aaload, 1) := by decide +kernel
set_option maxRecDepth 20000 in
theorem dX7_refusalOfSights_82 : decode cX7_refusalOfSights 82 = .ok (.getfield 104, 3) := by decide +kernel
set_option maxRecDepth 20000 in
theorem dX7_refusalOfSights_85 : decode cX7_refusalOfSights 85 = .ok (.iload_n 3, 1) := by decide +kernel
set_option maxRecDepth 20000 in
theorem dX7_refusalOfSights_86 : decode cX7_refusalOfSights 86 = .ok (.iconst 1, 1) := by decide +kernel
set_option maxRecDepth 20000 in
theorem dX7_refusalOfSights_87 : decode cX7_refusalOfSights 87 = .ok (.iadd, 1) := by decide +kernel
set_option maxRecDepth 20000 in
theorem dX7_refusalOfSights_88 : decode cX7_refusalOfSights 88 = .ok (.iaload, 1) := by decide +kernel
set_option maxRecDepth 20000 in
theorem dX7_refusalOfSights_89 : decode cX7_refusalOfSights 89 = .ok (.istore 4, 2) := by decide +kernel
set_option maxRecDepth 20000 in
theorem dX7_refusalOfSights_91 : decode cX7_refusalOfSights 91 = .ok (.aload_n 0, 1) := by decide +kernel
set_option maxRecDepth 20000 in
theorem dX7_refusalOfSights_92 : decode cX7_refusalOfSights 92 = .ok (.getfield 11, 3) := by decide +kernel
set_option maxRecDepth 20000 in
theorem dX7_refusalOfSights_95 : decode cX7_refusalOfSights 95 = .ok (.iload_n 2, 1) := by decide +kernel
set_option maxRecDepth 20000 in
theorem dX7_refusalOfSights_96 : decode cX7_refusalOfSights 96 = .ok (.aaload, 1) := by decide +kernel
set_option maxRecDepth 20000 in
theorem dX7_refusalOfSights_97 : decode cX7_refusalOfSights 97 = .ok (.getfield 104, 3) := by decide +kernel
set_option maxRecDepth 20000 in
theorem dX7_refusalOfSights_100 : decode cX7_refusalOfSights 100 = .ok (.iload_n 3, 1) := by decide +kernel
set_option maxRecDepth 20000 in
theorem dX7_refusalOfSights_101 : decode cX7_refusalOfSights 101 = .ok (.iaload, 1) := by decide +kernel
set_option maxRecDepth 20000 in
theorem dX7_refusalOfSights_102 : decode cX7_refusalOfSights 102 = .ok (.invokestatic 174, 3) := by decide +kernel
set_option maxRecDepth 20000 in
theorem dX7_refusalOfSights_105 : decode cX7_refusalOfSights 105 = .ok (.ifCond .eq 21, 3) := by decide +kernel
set_option maxRecDepth 20000 in
theorem dX7_refusalOfSights_108 : decode cX7_refusalOfSights 108 = .ok (.iload 4, 2) := by decide +kernel
set_option maxRecDepth 20000 in
theorem dX7_refusalOfSights_110 : decode cX7_refusalOfSights 110 = .ok (.iconst (-1), 1) := by decide +kernel
set_option maxRecDepth 20000 in
theorem dX7_refusalOfSights_111 : decode cX7_refusalOfSights 111 = .ok (.if_icmp .eq 21, 3) := by decide +kernel
set_option maxRecDepth 20000 in
theorem dX7_refusalOfSights_114 : decode cX7_refusalOfSights 114 = .ok (.aload_n 0, 1) := by decide +kernel
set_option maxRecDepth 20000 in
theorem dX7_refusalOfSights_115 : decode cX7_refusalOfSights 115 = .ok (.getfield 24, 3) := by decide +kernel
set_option maxRecDepth 20000 in
theorem dX7_refusalOfSights_118 : decode cX7_refusalOfSights 118 = .ok (.iload 4, 2) := by decide +kernel
set_option maxRecDepth 20000 in
theorem dX7_refusalOfSights_120 : decode cX7_refusalOfSights 120 = .ok (.invokevirtual 140, 3) := by decide +kernel
set_option maxRecDepth 20000 in
theorem dX7_refusalOfSights_123 : decode cX7_refusalOfSights 123 = .ok (.ifCond .ne 9, 3) := by decide +kernel
set_option maxRecDepth 20000 in
theorem dX7_refusalOfSights_126 : decode cX7_refusalOfSights 126 = .ok (.aload_n 0, 1) := by decide +kernel
set_option maxRecDepth 20000 in
theorem dX7_refusalOfSights_127 : decode cX7_refusalOfSights 127 = .ok (.iconst 3, 1) := by decide +kernel
set_option maxRecDepth 20000 in
theorem dX7_refusalOfSights_128 : decode cX7_refusalOfSights 128 = .ok (.invokevirtual 92, 3) := by decide +kernel
set_option maxRecDepth 20000 in
theorem dX7_refusalOfSights_131 : decode cX7_refusalOfSights 131 = .ok (.ireturn, 1) := by decide +kernel
set_option maxRecDepth 20000 in
theorem dX7_refusalOfSights_132 : decode cX7_refusalOfSights 132 = .ok (.iinc 3 2, 3) := by decide +kernel
set_option maxRecDepth 20000 in
theorem dX7_refusalOfSights_135 : decode cX7_refusalOfSights 135 = .ok (.goto (-74), 3) := by decide +kernel
set_option maxRecDepth 20000 in
theorem dX7_refusalOfSights_138 : decode cX7_refusalOfSights 138 = .ok (.iconst 0, 1) := by decide +kernel
set_option maxRecDepth 20000 in
theorem dX7_refusalOfSights_139 : decode cX7_refusalOfSights 139 = .ok (.ireturn, 1) := by decide +kernel
set_option maxRecDepth 20000 in
theorem dX7_ofPane_0 : decode cX7_ofPane 0 = .ok (.aload_n 0, 1) := by decide +kernel
set_option maxRecDepth 20000 in
theorem dX7_ofPane_1 : decode cX7_ofPane 1 = .ok (.getfield 24, 3) := by decide +kernel
set_option maxRecDepth 20000 in
theorem dX7_ofPane_4 : decode cX7_ofPane 4 = .ok (.getfield 146, 3) := by decide +kernel
set_option maxRecDepth 20000 in
theorem dX7_ofPane_7 : decode cX7_ofPane 7 = .ok (.iload_n 1, 1) := by decide +kernel
set_option maxRecDepth 20000 in
theorem dX7_ofPane_8 : decode cX7_ofPane 8 = .ok (.aaload, 1) := by decide +kernel
set_option maxRecDepth 20000 in
theorem dX7_ofPane_9 : decode cX7_ofPane 9 = .ok (.astore_n 3, 1) := by decide +kernel
set_option maxRecDepth 20000 in
theorem dX7_ofPane_10 : decode cX7_ofPane 10 = .ok (.iload_n 2, 1) := by decide +kernel
set_option maxRecDepth 20000 in
theorem dX7_ofPane_11 : decode cX7_ofPane 11 = .ok (.tableswitch 84 0 6 #[41, 46, 51, 56, 61, 66, 71], 41) := by decide +kernel
set_option maxRecDepth 20000 in
theorem dX7_ofPane_52 : decode cX7_ofPane 52 = .ok (.aload_n 3, 1) := by decide +kernel
set_option maxRecDepth 20000 in
theorem dX7_ofPane_53 : decode cX7_ofPane 53 = .ok (.getfield 150, 3) := by decide +kernel
set_option maxRecDepth 20000 in
theorem dX7_ofPane_56 : decode cX7_ofPane 56 = .ok (.ireturn, 1) := by decide +kernel
set_option maxRecDepth 20000 in
theorem dX7_ofPane_57 : decode cX7_ofPane 57 = .ok (.aload_n 3, 1) := by decide +kernel
set_option maxRecDepth 20000 in
theorem dX7_ofPane_58 : decode cX7_ofPane 58 = .ok (.getfield 186, 3) := by decide +kernel
set_option maxRecDepth 20000 in
theorem dX7_ofPane_61 : decode cX7_ofPane 61 = .ok (.ireturn, 1) := by decide +kernel
set_option maxRecDepth 20000 in
theorem dX7_ofPane_62 : decode cX7_ofPane 62 = .ok (.aload_n 3, 1) := by decide +kernel
set_option maxRecDepth 20000 in
theorem dX7_ofPane_63 : decode cX7_ofPane 63 = .ok (.getfield 189, 3) := by decide +kernel
set_option maxRecDepth 20000 in
theorem dX7_ofPane_66 : decode cX7_ofPane 66 = .ok (.ireturn, 1) := by decide +kernel
set_option maxRecDepth 20000 in
theorem dX7_ofPane_67 : decode cX7_ofPane 67 = .ok (.aload_n 3, 1) := by decide +kernel
set_option maxRecDepth 20000 in
theorem dX7_ofPane_68 : decode cX7_ofPane 68 = .ok (.getfield 168, 3) := by decide +kernel
set_option maxRecDepth 20000 in
theorem dX7_ofPane_71 : decode cX7_ofPane 71 = .ok (.ireturn, 1) := by decide +kernel
set_option maxRecDepth 20000 in
theorem dX7_ofPane_72 : decode cX7_ofPane 72 = .ok (.aload_n 3, 1) := by decide +kernel
set_option maxRecDepth 20000 in
theorem dX7_ofPane_73 : decode cX7_ofPane 73 = .ok (.getfield 171, 3) := by decide +kernel
set_option maxRecDepth 20000 in
theorem dX7_ofPane_76 : decode cX7_ofPane 76 = .ok (.ireturn, 1) := by decide +kernel
set_option maxRecDepth 20000 in
theorem dX7_ofPane_77 : decode cX7_ofPane 77 = .ok (.aload_n 3, 1) := by decide +kernel
set_option maxRecDepth 20000 in
theorem dX7_ofPane_78 : decode cX7_ofPane 78 = .ok (.getfield 316, 3) := by decide +kernel
set_option maxRecDepth 20000 in
theorem dX7_ofPane_81 : decode cX7_ofPane 81 = .ok (.ireturn, 1) := by decide +kernel
set_option maxRecDepth 20000 in
theorem dX7_ofPane_82 : decode cX7_ofPane 82 = .ok (.aload_n 3, 1) := by decide +kernel
set_option maxRecDepth 20000 in
theorem dX7_ofPane_83 : decode cX7_ofPane 83 = .ok (.getfield 206, 3) := by decide +kernel
set_option maxRecDepth 20000 in
theorem dX7_ofPane_86 : decode cX7_ofPane 86 = .ok (.ifCond .eq 7, 3) := by decide +kernel
set_option maxRecDepth 20000 in
theorem dX7_ofPane_89 : decode cX7_ofPane 89 = .ok (.iconst 1, 1) := by decide +kernel
set_option maxRecDepth 20000 in
theorem dX7_ofPane_90 : decode cX7_ofPane 90 = .ok (.goto 4, 3) := by decide +kernel
set_option maxRecDepth 20000 in
theorem dX7_ofPane_93 : decode cX7_ofPane 93 = .ok (.iconst 0, 1) := by decide +kernel
set_option maxRecDepth 20000 in
theorem dX7_ofPane_94 : decode cX7_ofPane 94 = .ok (.ireturn, 1) := by decide +kernel
set_option maxRecDepth 20000 in
theorem dX7_ofPane_95 : decode cX7_ofPane 95 = .ok (.aload_n 0, 1) := by decide +kernel
set_option maxRecDepth 20000 in
theorem dX7_ofPane_96 : decode cX7_ofPane 96 = .ok (.getfield 24, 3) := by decide +kernel
set_option maxRecDepth 20000 in
theorem dX7_ofPane_99 : decode cX7_ofPane 99 = .ok (.iload_n 1, 1) := by decide +kernel
set_option maxRecDepth 20000 in
theorem dX7_ofPane_100 : decode cX7_ofPane 100 = .ok (.invokevirtual 252, 3) := by decide +kernel
set_option maxRecDepth 20000 in
theorem dX7_ofPane_103 : decode cX7_ofPane 103 = .ok (.ireturn, 1) := by decide +kernel
set_option maxRecDepth 20000 in
theorem dX7_ofAll_0 : decode cX7_ofAll 0 = .ok (.iload_n 1, 1) := by decide +kernel
set_option maxRecDepth 20000 in
theorem dX7_ofAll_1 : decode cX7_ofAll 1 = .ok (.tableswitch 127 0 9 #[55, 63, 71, 79, 87, 95, 103, 108, 113, 118], 55) := by decide +kernel
set_option maxRecDepth 20000 in
theorem dX7_ofAll_56 : decode cX7_ofAll 56 = .ok (.aload_n 0, 1) := by decide +kernel
set_option maxRecDepth 20000 in
theorem dX7_ofAll_57 : decode cX7_ofAll 57 = .ok (.getfield 24, 3) := by decide +kernel
set_option maxRecDepth 20000 in
theorem dX7_ofAll_60 : decode cX7_ofAll 60 = .ok (.getfield 139, 3) := by decide +kernel
set_option maxRecDepth 20000 in
theorem dX7_ofAll_63 : decode cX7_ofAll 63 = .ok (.ireturn, 1) := by decide +kernel
set_option maxRecDepth 20000 in
theorem dX7_ofAll_64 : decode cX7_ofAll 64 = .ok (.aload_n 0, 1) := by decide +kernel
set_option maxRecDepth 20000 in
theorem dX7_ofAll_65 : decode cX7_ofAll 65 = .ok (.getfield 24, 3) := by decide +kernel
set_option maxRecDepth 20000 in
theorem dX7_ofAll_68 : decode cX7_ofAll 68 = .ok (.invokevirtual 210, 3) := by decide +kernel
set_option maxRecDepth 20000 in
theorem dX7_ofAll_71 : decode cX7_ofAll 71 = .ok (.ireturn, 1) := by decide +kernel
set_option maxRecDepth 20000 in
theorem dX7_ofAll_72 : decode cX7_ofAll 72 = .ok (.aload_n 0, 1) := by decide +kernel
set_option maxRecDepth 20000 in
theorem dX7_ofAll_73 : decode cX7_ofAll 73 = .ok (.getfield 31, 3) := by decide +kernel
set_option maxRecDepth 20000 in
theorem dX7_ofAll_76 : decode cX7_ofAll 76 = .ok (.getfield 85, 3) := by decide +kernel
set_option maxRecDepth 20000 in
theorem dX7_ofAll_79 : decode cX7_ofAll 79 = .ok (.ireturn, 1) := by decide +kernel
set_option maxRecDepth 20000 in
theorem dX7_ofAll_80 : decode cX7_ofAll 80 = .ok (.aload_n 0, 1) := by decide +kernel
set_option maxRecDepth 20000 in
theorem dX7_ofAll_81 : decode cX7_ofAll 81 = .ok (.getfield 24, 3) := by decide +kernel
set_option maxRecDepth 20000 in
theorem dX7_ofAll_84 : decode cX7_ofAll 84 = .ok (.invokevirtual 301, 3) := by decide +kernel
set_option maxRecDepth 20000 in
theorem dX7_ofAll_87 : decode cX7_ofAll 87 = .ok (.ireturn, 1) := by decide +kernel
set_option maxRecDepth 20000 in
theorem dX7_ofAll_88 : decode cX7_ofAll 88 = .ok (.aload_n 0, 1) := by decide +kernel
set_option maxRecDepth 20000 in
theorem dX7_ofAll_89 : decode cX7_ofAll 89 = .ok (.getfield 24, 3) := by decide +kernel
set_option maxRecDepth 20000 in
theorem dX7_ofAll_92 : decode cX7_ofAll 92 = .ok (.invokevirtual 228, 3) := by decide +kernel
set_option maxRecDepth 20000 in
theorem dX7_ofAll_95 : decode cX7_ofAll 95 = .ok (.ireturn, 1) := by decide +kernel
set_option maxRecDepth 20000 in
theorem dX7_ofAll_96 : decode cX7_ofAll 96 = .ok (.aload_n 0, 1) := by decide +kernel
set_option maxRecDepth 20000 in
theorem dX7_ofAll_97 : decode cX7_ofAll 97 = .ok (.getfield 24, 3) := by decide +kernel
set_option maxRecDepth 20000 in
theorem dX7_ofAll_100 : decode cX7_ofAll 100 = .ok (.invokevirtual 319, 3) := by decide +kernel
set_option maxRecDepth 20000 in
theorem dX7_ofAll_103 : decode cX7_ofAll 103 = .ok (.ireturn, 1) := by decide +kernel
set_option maxRecDepth 20000 in
theorem dX7_ofAll_104 : decode cX7_ofAll 104 = .ok (.aload_n 0, 1) := by decide +kernel
set_option maxRecDepth 20000 in
theorem dX7_ofAll_105 : decode cX7_ofAll 105 = .ok (.invokevirtual 322, 3) := by decide +kernel
set_option maxRecDepth 20000 in
theorem dX7_ofAll_108 : decode cX7_ofAll 108 = .ok (.ireturn, 1) := by decide +kernel
set_option maxRecDepth 20000 in
theorem dX7_ofAll_109 : decode cX7_ofAll 109 = .ok (.aload_n 0, 1) := by decide +kernel
set_option maxRecDepth 20000 in
theorem dX7_ofAll_110 : decode cX7_ofAll 110 = .ok (.invokevirtual 325, 3) := by decide +kernel
set_option maxRecDepth 20000 in
theorem dX7_ofAll_113 : decode cX7_ofAll 113 = .ok (.ireturn, 1) := by decide +kernel
set_option maxRecDepth 20000 in
theorem dX7_ofAll_114 : decode cX7_ofAll 114 = .ok (.aload_n 0, 1) := by decide +kernel
set_option maxRecDepth 20000 in
theorem dX7_ofAll_115 : decode cX7_ofAll 115 = .ok (.invokevirtual 328, 3) := by decide +kernel
set_option maxRecDepth 20000 in
theorem dX7_ofAll_118 : decode cX7_ofAll 118 = .ok (.ireturn, 1) := by decide +kernel
set_option maxRecDepth 20000 in
theorem dX7_ofAll_119 : decode cX7_ofAll 119 = .ok (.aload_n 0, 1) := by decide +kernel
set_option maxRecDepth 20000 in
theorem dX7_ofAll_120 : decode cX7_ofAll 120 = .ok (.getfield 24, 3) := by decide +kernel
set_option maxRecDepth 20000 in
theorem dX7_ofAll_123 : decode cX7_ofAll 123 = .ok (.iconst 1, 1) := by decide +kernel
set_option maxRecDepth 20000 in
theorem dX7_ofAll_124 : decode cX7_ofAll 124 = .ok (.invokevirtual 331, 3) := by decide +kernel
set_option maxRecDepth 20000 in
theorem dX7_ofAll_127 : decode cX7_ofAll 127 = .ok (.ireturn, 1) := by decide +kernel
set_option maxRecDepth 20000 in
theorem dX7_ofAll_128 : decode cX7_ofAll 128 = .ok (.aload_n 0, 1) := by decide +kernel
set_option maxRecDepth 20000 in
theorem dX7_ofAll_129 : decode cX7_ofAll 129 = .ok (.getfield 24, 3) := by decide +kernel
set_option maxRecDepth 20000 in
theorem dX7_ofAll_132 : decode cX7_ofAll 132 = .ok (.iconst 2, 1) := by decide +kernel
set_option maxRecDepth 20000 in
theorem dX7_ofAll_133 : decode cX7_ofAll 133 = .ok (.invokevirtual 331, 3) := by decide +kernel
set_option maxRecDepth 20000 in
theorem dX7_ofAll_136 : decode cX7_ofAll 136 = .ok (.ireturn, 1) := by decide +kernel
set_option maxRecDepth 20000 in
theorem dX7_rowsThere_0 : decode cX7_rowsThere 0 = .ok (.iconst 0, 1) := by decide +kernel
set_option maxRecDepth 20000 in
theorem dX7_rowsThere_1 : decode cX7_rowsThere 1 = .ok (.istore_n 1, 1) := by decide +kernel
set_option maxRecDepth 20000 in
theorem dX7_rowsThere_2 : decode cX7_rowsThere 2 = .ok (.iconst 0, 1) := by decide +kernel
set_option maxRecDepth 20000 in
theorem dX7_rowsThere_3 : decode cX7_rowsThere 3 = .ok (.istore_n 2, 1) := by decide +kernel
set_option maxRecDepth 20000 in
theorem dX7_rowsThere_4 : decode cX7_rowsThere 4 = .ok (.iload_n 2, 1) := by decide +kernel
set_option maxRecDepth 20000 in
theorem dX7_rowsThere_5 : decode cX7_rowsThere 5 = .ok (.bipush 6, 2) := by decide +kernel
set_option maxRecDepth 20000 in
theorem dX7_rowsThere_7 : decode cX7_rowsThere 7 = .ok (.if_icmp .ge 30, 3) := by decide +kernel
set_option maxRecDepth 20000 in
theorem dX7_rowsThere_10 : decode cX7_rowsThere 10 = .ok (.iload_n 1, 1) := by decide +kernel
set_option maxRecDepth 20000 in
theorem dX7_rowsThere_11 : decode cX7_rowsThere 11 = .ok (.aload_n 0, 1) := by decide +kernel
set_option maxRecDepth 20000 in
theorem dX7_rowsThere_12 : decode cX7_rowsThere 12 = .ok (.getfield 11, 3) := by decide +kernel
set_option maxRecDepth 20000 in
theorem dX7_rowsThere_15 : decode cX7_rowsThere 15 = .ok (.iload_n 2, 1) := by decide +kernel
set_option maxRecDepth 20000 in
theorem dX7_rowsThere_16 : decode cX7_rowsThere 16 = .ok (.aaload, 1) := by decide +kernel
set_option maxRecDepth 20000 in
theorem dX7_rowsThere_17 : decode cX7_rowsThere 17 = .ok (.getfield 107, 3) := by decide +kernel
set_option maxRecDepth 20000 in
theorem dX7_rowsThere_20 : decode cX7_rowsThere 20 = .ok (.iconst (-1), 1) := by decide +kernel
set_option maxRecDepth 20000 in
theorem dX7_rowsThere_21 : decode cX7_rowsThere 21 = .ok (.if_icmp .ne 7, 3) := by decide +kernel
set_option maxRecDepth 20000 in
theorem dX7_rowsThere_24 : decode cX7_rowsThere 24 = .ok (.iconst 0, 1) := by decide +kernel
set_option maxRecDepth 20000 in
theorem dX7_rowsThere_25 : decode cX7_rowsThere 25 = .ok (.goto 4, 3) := by decide +kernel
set_option maxRecDepth 20000 in
theorem dX7_rowsThere_28 : decode cX7_rowsThere 28 = .ok (.iconst 1, 1) := by decide +kernel
set_option maxRecDepth 20000 in
theorem dX7_rowsThere_29 : decode cX7_rowsThere 29 = .ok (.iadd, 1) := by decide +kernel
set_option maxRecDepth 20000 in
theorem dX7_rowsThere_30 : decode cX7_rowsThere 30 = .ok (.istore_n 1, 1) := by decide +kernel
set_option maxRecDepth 20000 in
theorem dX7_rowsThere_31 : decode cX7_rowsThere 31 = .ok (.iinc 2 1, 3) := by decide +kernel
set_option maxRecDepth 20000 in
theorem dX7_rowsThere_34 : decode cX7_rowsThere 34 = .ok (.goto (-30), 3) := by decide +kernel
set_option maxRecDepth 20000 in
theorem dX7_rowsThere_37 : decode cX7_rowsThere 37 = .ok (.iload_n 1, 1) := by decide +kernel
set_option maxRecDepth 20000 in
theorem dX7_rowsThere_38 : decode cX7_rowsThere 38 = .ok (.ireturn, 1) := by decide +kernel
set_option maxRecDepth 20000 in
theorem dX7_textsThere_0 : decode cX7_textsThere 0 = .ok (.iconst 0, 1) := by decide +kernel
set_option maxRecDepth 20000 in
theorem dX7_textsThere_1 : decode cX7_textsThere 1 = .ok (.istore_n 1, 1) := by decide +kernel
set_option maxRecDepth 20000 in
theorem dX7_textsThere_2 : decode cX7_textsThere 2 = .ok (.iconst 0, 1) := by decide +kernel
set_option maxRecDepth 20000 in
theorem dX7_textsThere_3 : decode cX7_textsThere 3 = .ok (.istore_n 2, 1) := by decide +kernel
set_option maxRecDepth 20000 in
theorem dX7_textsThere_4 : decode cX7_textsThere 4 = .ok (.iload_n 2, 1) := by decide +kernel
set_option maxRecDepth 20000 in
theorem dX7_textsThere_5 : decode cX7_textsThere 5 = .ok (.iconst 4, 1) := by decide +kernel
set_option maxRecDepth 20000 in
theorem dX7_textsThere_6 : decode cX7_textsThere 6 = .ok (.if_icmp .ge 30, 3) := by decide +kernel
set_option maxRecDepth 20000 in
theorem dX7_textsThere_9 : decode cX7_textsThere 9 = .ok (.iload_n 1, 1) := by decide +kernel
set_option maxRecDepth 20000 in
theorem dX7_textsThere_10 : decode cX7_textsThere 10 = .ok (.aload_n 0, 1) := by decide +kernel
set_option maxRecDepth 20000 in
theorem dX7_textsThere_11 : decode cX7_textsThere 11 = .ok (.getfield 17, 3) := by decide +kernel
set_option maxRecDepth 20000 in
theorem dX7_textsThere_14 : decode cX7_textsThere 14 = .ok (.iload_n 2, 1) := by decide +kernel
set_option maxRecDepth 20000 in
theorem dX7_textsThere_15 : decode cX7_textsThere 15 = .ok (.aaload, 1) := by decide +kernel
set_option maxRecDepth 20000 in
theorem dX7_textsThere_16 : decode cX7_textsThere 16 = .ok (.getfield 126, 3) := by decide +kernel
set_option maxRecDepth 20000 in
theorem dX7_textsThere_19 : decode cX7_textsThere 19 = .ok (.iconst (-1), 1) := by decide +kernel
set_option maxRecDepth 20000 in
theorem dX7_textsThere_20 : decode cX7_textsThere 20 = .ok (.if_icmp .ne 7, 3) := by decide +kernel
set_option maxRecDepth 20000 in
theorem dX7_textsThere_23 : decode cX7_textsThere 23 = .ok (.iconst 0, 1) := by decide +kernel
set_option maxRecDepth 20000 in
theorem dX7_textsThere_24 : decode cX7_textsThere 24 = .ok (.goto 4, 3) := by decide +kernel
set_option maxRecDepth 20000 in
theorem dX7_textsThere_27 : decode cX7_textsThere 27 = .ok (.iconst 1, 1) := by decide +kernel
set_option maxRecDepth 20000 in
theorem dX7_textsThere_28 : decode cX7_textsThere 28 = .ok (.iadd, 1) := by decide +kernel
set_option maxRecDepth 20000 in
theorem dX7_textsThere_29 : decode cX7_textsThere 29 = .ok (.istore_n 1, 1) := by decide +kernel
set_option maxRecDepth 20000 in
theorem dX7_textsThere_30 : decode cX7_textsThere 30 = .ok (.iinc 2 1, 3) := by decide +kernel
set_option maxRecDepth 20000 in
theorem dX7_textsThere_33 : decode cX7_textsThere 33 = .ok (.goto (-29), 3) := by decide +kernel
set_option maxRecDepth 20000 in
theorem dX7_textsThere_36 : decode cX7_textsThere 36 = .ok (.iload_n 1, 1) := by decide +kernel
set_option maxRecDepth 20000 in
theorem dX7_textsThere_37 : decode cX7_textsThere 37 = .ok (.ireturn, 1) := by decide +kernel
set_option maxRecDepth 20000 in
theorem dX7_keptThere_0 : decode cX7_keptThere 0 = .ok (.iconst 0, 1) := by decide +kernel
set_option maxRecDepth 20000 in
theorem dX7_keptThere_1 : decode cX7_keptThere 1 = .ok (.istore_n 1, 1) := by decide +kernel
set_option maxRecDepth 20000 in
theorem dX7_keptThere_2 : decode cX7_keptThere 2 = .ok (.iconst 0, 1) := by decide +kernel
set_option maxRecDepth 20000 in
theorem dX7_keptThere_3 : decode cX7_keptThere 3 = .ok (.istore_n 2, 1) := by decide +kernel
set_option maxRecDepth 20000 in
theorem dX7_keptThere_4 : decode cX7_keptThere 4 = .ok (.iload_n 2, 1) := by decide +kernel
set_option maxRecDepth 20000 in
theorem dX7_keptThere_5 : decode cX7_keptThere 5 = .ok (.iconst 3, 1) := by decide +kernel
set_option maxRecDepth 20000 in
theorem dX7_keptThere_6 : decode cX7_keptThere 6 = .ok (.if_icmp .ge 30, 3) := by decide +kernel
set_option maxRecDepth 20000 in
theorem dX7_keptThere_9 : decode cX7_keptThere 9 = .ok (.iload_n 1, 1) := by decide +kernel
set_option maxRecDepth 20000 in
theorem dX7_keptThere_10 : decode cX7_keptThere 10 = .ok (.aload_n 0, 1) := by decide +kernel
set_option maxRecDepth 20000 in
theorem dX7_keptThere_11 : decode cX7_keptThere 11 = .ok (.getfield 39, 3) := by decide +kernel
set_option maxRecDepth 20000 in
theorem dX7_keptThere_14 : decode cX7_keptThere 14 = .ok (.iload_n 2, 1) := by decide +kernel
set_option maxRecDepth 20000 in
theorem dX7_keptThere_15 : decode cX7_keptThere 15 = .ok (.aaload, 1) := by decide +kernel
set_option maxRecDepth 20000 in
theorem dX7_keptThere_16 : decode cX7_keptThere 16 = .ok (.getfield 85, 3) := by decide +kernel
set_option maxRecDepth 20000 in
theorem dX7_keptThere_19 : decode cX7_keptThere 19 = .ok (.iconst (-1), 1) := by decide +kernel
set_option maxRecDepth 20000 in
theorem dX7_keptThere_20 : decode cX7_keptThere 20 = .ok (.if_icmp .ne 7, 3) := by decide +kernel
set_option maxRecDepth 20000 in
theorem dX7_keptThere_23 : decode cX7_keptThere 23 = .ok (.iconst 0, 1) := by decide +kernel
set_option maxRecDepth 20000 in
theorem dX7_keptThere_24 : decode cX7_keptThere 24 = .ok (.goto 4, 3) := by decide +kernel
set_option maxRecDepth 20000 in
theorem dX7_keptThere_27 : decode cX7_keptThere 27 = .ok (.iconst 1, 1) := by decide +kernel
set_option maxRecDepth 20000 in
theorem dX7_keptThere_28 : decode cX7_keptThere 28 = .ok (.iadd, 1) := by decide +kernel
set_option maxRecDepth 20000 in
theorem dX7_keptThere_29 : decode cX7_keptThere 29 = .ok (.istore_n 1, 1) := by decide +kernel
set_option maxRecDepth 20000 in
theorem dX7_keptThere_30 : decode cX7_keptThere 30 = .ok (.iinc 2 1, 3) := by decide +kernel
set_option maxRecDepth 20000 in
theorem dX7_keptThere_33 : decode cX7_keptThere 33 = .ok (.goto (-29), 3) := by decide +kernel
set_option maxRecDepth 20000 in
theorem dX7_keptThere_36 : decode cX7_keptThere 36 = .ok (.iload_n 1, 1) := by decide +kernel
set_option maxRecDepth 20000 in
theorem dX7_keptThere_37 : decode cX7_keptThere 37 = .ok (.ireturn, 1) := by decide +kernel
set_option maxRecDepth 20000 in
theorem dX7_reorder_0 : decode cX7_reorder 0 = .ok (.aload_n 0, 1) := by decide +kernel
set_option maxRecDepth 20000 in
theorem dX7_reorder_1 : decode cX7_reorder 1 = .ok (.getfield 24, 3) := by decide +kernel
set_option maxRecDepth 20000 in
theorem dX7_reorder_4 : decode cX7_reorder 4 = .ok (.iload_n 1, 1) := by decide +kernel
set_option maxRecDepth 20000 in
theorem dX7_reorder_5 : decode cX7_reorder 5 = .ok (.invokevirtual 140, 3) := by decide +kernel
set_option maxRecDepth 20000 in
theorem dX7_reorder_8 : decode cX7_reorder 8 = .ok (.ifCond .ne 5, 3) := by decide +kernel
set_option maxRecDepth 20000 in
theorem dX7_reorder_11 : decode cX7_reorder 11 = .ok (.iconst (-1), 1) := by decide +kernel
set_option maxRecDepth 20000 in
theorem dX7_reorder_12 : decode cX7_reorder 12 = .ok (.ireturn, 1) := by decide +kernel
set_option maxRecDepth 20000 in
theorem dX7_reorder_13 : decode cX7_reorder 13 = .ok (.aload_n 0, 1) := by decide +kernel
set_option maxRecDepth 20000 in
theorem dX7_reorder_14 : decode cX7_reorder 14 = .ok (.getfield 24, 3) := by decide +kernel
set_option maxRecDepth 20000 in
theorem dX7_reorder_17 : decode cX7_reorder 17 = .ok (.getfield 146, 3) := by decide +kernel
set_option maxRecDepth 20000 in
theorem dX7_reorder_20 : decode cX7_reorder 20 = .ok (.iload_n 1, 1) := by decide +kernel
set_option maxRecDepth 20000 in
theorem dX7_reorder_21 : decode cX7_reorder 21 = .ok (.aaload, 1) := by decide +kernel
set_option maxRecDepth 20000 in
theorem dX7_reorder_22 : decode cX7_reorder 22 = .ok (.getfield 316, 3) := by decide +kernel
set_option maxRecDepth 20000 in
theorem dX7_reorder_25 : decode cX7_reorder 25 = .ok (.istore_n 3, 1) := by decide +kernel
set_option maxRecDepth 20000 in
theorem dX7_reorder_26 : decode cX7_reorder 26 = .ok (.iload_n 3, 1) := by decide +kernel
set_option maxRecDepth 20000 in
theorem dX7_reorder_27 : decode cX7_reorder 27 = .ok (.iload_n 2, 1) := by decide +kernel
set_option maxRecDepth 20000 in
theorem dX7_reorder_28 : decode cX7_reorder 28 = .ok (.if_icmp .ne 6, 3) := by decide +kernel
set_option maxRecDepth 20000 in
theorem dX7_reorder_31 : decode cX7_reorder 31 = .ok (.bipush (-4), 2) := by decide +kernel
set_option maxRecDepth 20000 in
theorem dX7_reorder_33 : decode cX7_reorder 33 = .ok (.ireturn, 1) := by decide +kernel
set_option maxRecDepth 20000 in
theorem dX7_reorder_34 : decode cX7_reorder 34 = .ok (.aload_n 0, 1) := by decide +kernel
set_option maxRecDepth 20000 in
theorem dX7_reorder_35 : decode cX7_reorder 35 = .ok (.getfield 31, 3) := by decide +kernel
set_option maxRecDepth 20000 in
theorem dX7_reorder_38 : decode cX7_reorder 38 = .ok (.iconst 1, 1) := by decide +kernel
set_option maxRecDepth 20000 in
theorem dX7_reorder_39 : decode cX7_reorder 39 = .ok (.invokevirtual 195, 3) := by decide +kernel
set_option maxRecDepth 20000 in
theorem dX7_reorder_42 : decode cX7_reorder 42 = .ok (.ifCond .ne 6, 3) := by decide +kernel
set_option maxRecDepth 20000 in
theorem dX7_reorder_45 : decode cX7_reorder 45 = .ok (.bipush (-2), 2) := by decide +kernel
set_option maxRecDepth 20000 in
theorem dX7_reorder_47 : decode cX7_reorder 47 = .ok (.ireturn, 1) := by decide +kernel
set_option maxRecDepth 20000 in
theorem dX7_reorder_48 : decode cX7_reorder 48 = .ok (.aload_n 0, 1) := by decide +kernel
set_option maxRecDepth 20000 in
theorem dX7_reorder_49 : decode cX7_reorder 49 = .ok (.getfield 24, 3) := by decide +kernel
set_option maxRecDepth 20000 in
theorem dX7_reorder_52 : decode cX7_reorder 52 = .ok (.iload_n 1, 1) := by decide +kernel
set_option maxRecDepth 20000 in
theorem dX7_reorder_53 : decode cX7_reorder 53 = .ok (.iload_n 2, 1) := by decide +kernel
set_option maxRecDepth 20000 in
theorem dX7_reorder_54 : decode cX7_reorder 54 = .ok (.invokevirtual 334, 3) := by decide +kernel
set_option maxRecDepth 20000 in
theorem dX7_reorder_57 : decode cX7_reorder 57 = .ok (.aload_n 0, 1) := by decide +kernel
set_option maxRecDepth 20000 in
theorem dX7_reorder_58 : decode cX7_reorder 58 = .ok (.getfield 31, 3) := by decide +kernel
set_option maxRecDepth 20000 in
theorem dX7_reorder_61 : decode cX7_reorder 61 = .ok (.iconst 0, 1) := by decide +kernel
set_option maxRecDepth 20000 in
theorem dX7_reorder_62 : decode cX7_reorder 62 = .ok (.iload_n 1, 1) := by decide +kernel
set_option maxRecDepth 20000 in
theorem dX7_reorder_63 : decode cX7_reorder 63 = .ok (.iload_n 3, 1) := by decide +kernel
set_option maxRecDepth 20000 in
theorem dX7_reorder_64 : decode cX7_reorder 64 = .ok (.iconst 0, 1) := by decide +kernel
set_option maxRecDepth 20000 in
theorem dX7_reorder_65 : decode cX7_reorder 65 = .ok (.invokevirtual 202, 3) := by decide +kernel
set_option maxRecDepth 20000 in
theorem dX7_reorder_68 : decode cX7_reorder 68 = .ok (.iload_n 3, 1) := by decide +kernel
set_option maxRecDepth 20000 in
theorem dX7_reorder_69 : decode cX7_reorder 69 = .ok (.ireturn, 1) := by decide +kernel
set_option maxRecDepth 20000 in
theorem dX7_doByLot_0 : decode cX7_doByLot 0 = .ok (.aload_n 0, 1) := by decide +kernel
set_option maxRecDepth 20000 in
theorem dX7_doByLot_1 : decode cX7_doByLot 1 = .ok (.getfield 24, 3) := by decide +kernel
set_option maxRecDepth 20000 in
theorem dX7_doByLot_4 : decode cX7_doByLot 4 = .ok (.getfield 139, 3) := by decide +kernel
set_option maxRecDepth 20000 in
theorem dX7_doByLot_7 : decode cX7_doByLot 7 = .ok (.ifCond .ne 7, 3) := by decide +kernel
set_option maxRecDepth 20000 in
theorem dX7_doByLot_10 : decode cX7_doByLot 10 = .ok (.iconst 0, 1) := by decide +kernel
set_option maxRecDepth 20000 in
theorem dX7_doByLot_11 : decode cX7_doByLot 11 = .ok (.goto 15, 3) := by decide +kernel
set_option maxRecDepth 20000 in
theorem dX7_doByLot_14 : decode cX7_doByLot 14 = .ok (.iload_n 1, 1) := by decide +kernel
set_option maxRecDepth 20000 in
theorem dX7_doByLot_15 : decode cX7_doByLot 15 = .ok (.bipush 8, 2) := by decide +kernel
set_option maxRecDepth 20000 in
theorem dX7_doByLot_17 : decode cX7_doByLot 17 = .ok (.idiv, 1) := by decide +kernel
set_option maxRecDepth 20000 in
theorem dX7_doByLot_18 : decode cX7_doByLot 18 = .ok (.aload_n 0, 1) := by decide +kernel
set_option maxRecDepth 20000 in
theorem dX7_doByLot_19 : decode cX7_doByLot 19 = .ok (.getfield 24, 3) := by decide +kernel
set_option maxRecDepth 20000 in
theorem dX7_doByLot_22 : decode cX7_doByLot 22 = .ok (.getfield 139, 3) := by decide +kernel
set_option maxRecDepth 20000 in
theorem dX7_doByLot_25 : decode cX7_doByLot 25 = .ok (.irem, 1) := by decide +kernel
set_option maxRecDepth 20000 in
theorem dX7_doByLot_26 : decode cX7_doByLot 26 = .ok (.istore_n 2, 1) := by decide +kernel
set_option maxRecDepth 20000 in
theorem dX7_doByLot_27 : decode cX7_doByLot 27 = .ok (.iload_n 1, 1) := by decide +kernel
set_option maxRecDepth 20000 in
theorem dX7_doByLot_28 : decode cX7_doByLot 28 = .ok (.iconst 4, 1) := by decide +kernel
set_option maxRecDepth 20000 in
theorem dX7_doByLot_29 : decode cX7_doByLot 29 = .ok (.irem, 1) := by decide +kernel
set_option maxRecDepth 20000 in
theorem dX7_doByLot_30 : decode cX7_doByLot 30 = .ok (.tableswitch 73 0 2 #[26, 35, 44], 26) := by decide +kernel
set_option maxRecDepth 20000 in
theorem dX7_doByLot_56 : decode cX7_doByLot 56 = .ok (.aload_n 0, 1) := by decide +kernel
set_option maxRecDepth 20000 in
theorem dX7_doByLot_57 : decode cX7_doByLot 57 = .ok (.iload_n 2, 1) := by decide +kernel
set_option maxRecDepth 20000 in
theorem dX7_doByLot_58 : decode cX7_doByLot 58 = .ok (.invokevirtual 337, 3) := by decide +kernel
set_option maxRecDepth 20000 in
theorem dX7_doByLot_61 : decode cX7_doByLot 61 = .ok (.istore_n 3, 1) := by decide +kernel
set_option maxRecDepth 20000 in
theorem dX7_doByLot_62 : decode cX7_doByLot 62 = .ok (.goto 47, 3) := by decide +kernel
set_option maxRecDepth 20000 in
theorem dX7_doByLot_65 : decode cX7_doByLot 65 = .ok (.aload_n 0, 1) := by decide +kernel
set_option maxRecDepth 20000 in
theorem dX7_doByLot_66 : decode cX7_doByLot 66 = .ok (.iload_n 2, 1) := by decide +kernel
set_option maxRecDepth 20000 in
theorem dX7_doByLot_67 : decode cX7_doByLot 67 = .ok (.invokevirtual 340, 3) := by decide +kernel
set_option maxRecDepth 20000 in
theorem dX7_doByLot_70 : decode cX7_doByLot 70 = .ok (.istore_n 3, 1) := by decide +kernel
set_option maxRecDepth 20000 in
theorem dX7_doByLot_71 : decode cX7_doByLot 71 = .ok (.goto 38, 3) := by decide +kernel
set_option maxRecDepth 20000 in
theorem dX7_doByLot_74 : decode cX7_doByLot 74 = .ok (.aload_n 0, 1) := by decide +kernel
set_option maxRecDepth 20000 in
theorem dX7_doByLot_75 : decode cX7_doByLot 75 = .ok (.iload_n 2, 1) := by decide +kernel
set_option maxRecDepth 20000 in
theorem dX7_doByLot_76 : decode cX7_doByLot 76 = .ok (.iload_n 1, 1) := by decide +kernel
set_option maxRecDepth 20000 in
theorem dX7_doByLot_77 : decode cX7_doByLot 77 = .ok (.sipush 128, 3) := by decide +kernel
set_option maxRecDepth 20000 in
theorem dX7_doByLot_80 : decode cX7_doByLot 80 = .ok (.idiv, 1) := by decide +kernel
set_option maxRecDepth 20000 in
theorem dX7_doByLot_81 : decode cX7_doByLot 81 = .ok (.bipush 7, 2) := by decide +kernel
set_option maxRecDepth 20000 in
theorem dX7_doByLot_83 : decode cX7_doByLot 83 = .ok (.irem, 1) := by decide +kernel
set_option maxRecDepth 20000 in
theorem dX7_doByLot_84 : decode cX7_doByLot 84 = .ok (.iconst 3, 1) := by decide +kernel
set_option maxRecDepth 20000 in
theorem dX7_doByLot_85 : decode cX7_doByLot 85 = .ok (.isub, 1) := by decide +kernel
set_option maxRecDepth 20000 in
theorem dX7_doByLot_86 : decode cX7_doByLot 86 = .ok (.iload_n 1, 1) := by decide +kernel
set_option maxRecDepth 20000 in
theorem dX7_doByLot_87 : decode cX7_doByLot 87 = .ok (.sipush 1024, 3) := by decide +kernel
set_option maxRecDepth 20000 in
theorem dX7_doByLot_90 : decode cX7_doByLot 90 = .ok (.idiv, 1) := by decide +kernel
set_option maxRecDepth 20000 in
theorem dX7_doByLot_91 : decode cX7_doByLot 91 = .ok (.bipush 7, 2) := by decide +kernel
set_option maxRecDepth 20000 in
theorem dX7_doByLot_93 : decode cX7_doByLot 93 = .ok (.irem, 1) := by decide +kernel
set_option maxRecDepth 20000 in
theorem dX7_doByLot_94 : decode cX7_doByLot 94 = .ok (.iconst 3, 1) := by decide +kernel
set_option maxRecDepth 20000 in
theorem dX7_doByLot_95 : decode cX7_doByLot 95 = .ok (.isub, 1) := by decide +kernel
set_option maxRecDepth 20000 in
theorem dX7_doByLot_96 : decode cX7_doByLot 96 = .ok (.invokevirtual 343, 3) := by decide +kernel
set_option maxRecDepth 20000 in
theorem dX7_doByLot_99 : decode cX7_doByLot 99 = .ok (.istore_n 3, 1) := by decide +kernel
set_option maxRecDepth 20000 in
theorem dX7_doByLot_100 : decode cX7_doByLot 100 = .ok (.goto 9, 3) := by decide +kernel
set_option maxRecDepth 20000 in
theorem dX7_doByLot_103 : decode cX7_doByLot 103 = .ok (.aload_n 0, 1) := by decide +kernel
set_option maxRecDepth 20000 in
theorem dX7_doByLot_104 : decode cX7_doByLot 104 = .ok (.iload_n 2, 1) := by decide +kernel
set_option maxRecDepth 20000 in
theorem dX7_doByLot_105 : decode cX7_doByLot 105 = .ok (.invokevirtual 347, 3) := by decide +kernel
set_option maxRecDepth 20000 in
theorem dX7_doByLot_108 : decode cX7_doByLot 108 = .ok (.istore_n 3, 1) := by decide +kernel
set_option maxRecDepth 20000 in
theorem dX7_doByLot_109 : decode cX7_doByLot 109 = .ok (.iload_n 3, 1) := by decide +kernel
set_option maxRecDepth 20000 in
theorem dX7_doByLot_110 : decode cX7_doByLot 110 = .ok (.ifCond .ge 14, 3) := by decide +kernel
set_option maxRecDepth 20000 in
theorem dX7_doByLot_113 : decode cX7_doByLot 113 = .ok (.aload_n 0, 1) := by decide +kernel
set_option maxRecDepth 20000 in
theorem dX7_doByLot_114 : decode cX7_doByLot 114 = .ok (.getfield 31, 3) := by decide +kernel
set_option maxRecDepth 20000 in
theorem dX7_doByLot_117 : decode cX7_doByLot 117 = .ok (.iconst 3, 1) := by decide +kernel
set_option maxRecDepth 20000 in
theorem dX7_doByLot_118 : decode cX7_doByLot 118 = .ok (.iload_n 2, 1) := by decide +kernel
set_option maxRecDepth 20000 in
theorem dX7_doByLot_119 : decode cX7_doByLot 119 = .ok (.iconst 0, 1) := by decide +kernel
set_option maxRecDepth 20000 in
theorem dX7_doByLot_120 : decode cX7_doByLot 120 = .ok (.iconst 0, 1) := by decide +kernel
set_option maxRecDepth 20000 in
theorem dX7_doByLot_121 : decode cX7_doByLot 121 = .ok (.invokevirtual 202, 3) := by decide +kernel
set_option maxRecDepth 20000 in
theorem dX7_doByLot_124 : decode cX7_doByLot 124 = .ok (.return_, 1) := by decide +kernel
set_option maxRecDepth 20000 in
theorem dX7_possibleKinds_0 : decode cX7_possibleKinds 0 = .ok (.aload_n 0, 1) := by decide +kernel
set_option maxRecDepth 20000 in
theorem dX7_possibleKinds_1 : decode cX7_possibleKinds 1 = .ok (.getfield 43, 3) := by decide +kernel
set_option maxRecDepth 20000 in
theorem dX7_possibleKinds_4 : decode cX7_possibleKinds 4 = .ok (.aload_n 0, 1) := by decide +kernel
set_option maxRecDepth 20000 in
theorem dX7_possibleKinds_5 : decode cX7_possibleKinds 5 = .ok (.getfield 24, 3) := by decide +kernel
set_option maxRecDepth 20000 in
theorem dX7_possibleKinds_8 : decode cX7_possibleKinds 8 = .ok (.invokevirtual 135, 3) := by decide +kernel
set_option maxRecDepth 20000 in
theorem dX7_possibleKinds_11 : decode cX7_possibleKinds 11 = .ok (.iconst 0, 1) := by decide +kernel
set_option maxRecDepth 20000 in
theorem dX7_possibleKinds_12 : decode cX7_possibleKinds 12 = .ok (.istore_n 3, 1) := by decide +kernel
set_option maxRecDepth 20000 in
theorem dX7_possibleKinds_13 : decode cX7_possibleKinds 13 = .ok (.iconst 0, 1) := by decide +kernel
set_option maxRecDepth 20000 in
theorem dX7_possibleKinds_14 : decode cX7_possibleKinds 14 = .ok (.istore 4, 2) := by decide +kernel
set_option maxRecDepth 20000 in
theorem dX7_possibleKinds_16 : decode cX7_possibleKinds 16 = .ok (.iload 4, 2) := by decide +kernel
set_option maxRecDepth 20000 in
theorem dX7_possibleKinds_18 : decode cX7_possibleKinds 18 = .ok (.bipush 6, 2) := by decide +kernel
set_option maxRecDepth 20000 in
theorem dX7_possibleKinds_20 : decode cX7_possibleKinds 20 = .ok (.if_icmp .ge 41, 3) := by decide +kernel
set_option maxRecDepth 20000 in
theorem dX7_possibleKinds_23 : decode cX7_possibleKinds 23 = .ok (.aload_n 0, 1) := by decide +kernel
set_option maxRecDepth 20000 in
theorem dX7_possibleKinds_24 : decode cX7_possibleKinds 24 = .ok (.getfield 43, 3) := by decide +kernel
set_option maxRecDepth 20000 in
theorem dX7_possibleKinds_27 : decode cX7_possibleKinds 27 = .ok (.getfield 146, 3) := by decide +kernel
set_option maxRecDepth 20000 in
theorem dX7_possibleKinds_30 : decode cX7_possibleKinds 30 = .ok (.iload_n 1, 1) := by decide +kernel
set_option maxRecDepth 20000 in
theorem dX7_possibleKinds_31 : decode cX7_possibleKinds 31 = .ok (.aaload, 1) := by decide +kernel
set_option maxRecDepth 20000 in
theorem dX7_possibleKinds_32 : decode cX7_possibleKinds 32 = .ok (.iload 4, 2) := by decide +kernel
set_option maxRecDepth 20000 in
theorem dX7_possibleKinds_34 : decode cX7_possibleKinds 34 = .ok (.invokevirtual 350, 3) := by decide +kernel
set_option maxRecDepth 20000 in
theorem dX7_possibleKinds_37 : decode cX7_possibleKinds 37 = .ok (.aload_n 0, 1) := by decide +kernel
set_option maxRecDepth 20000 in
theorem dX7_possibleKinds_38 : decode cX7_possibleKinds 38 = .ok (.getfield 43, 3) := by decide +kernel
set_option maxRecDepth 20000 in
theorem dX7_possibleKinds_41 : decode cX7_possibleKinds 41 = .ok (.aload_n 2, 1) := by decide +kernel
set_option maxRecDepth 20000 in
theorem dX7_possibleKinds_42 : decode cX7_possibleKinds 42 = .ok (.invokevirtual 266, 3) := by decide +kernel
set_option maxRecDepth 20000 in
theorem dX7_possibleKinds_45 : decode cX7_possibleKinds 45 = .ok (.ifCond .eq 10, 3) := by decide +kernel
set_option maxRecDepth 20000 in
theorem dX7_possibleKinds_48 : decode cX7_possibleKinds 48 = .ok (.iload_n 3, 1) := by decide +kernel
set_option maxRecDepth 20000 in
theorem dX7_possibleKinds_49 : decode cX7_possibleKinds 49 = .ok (.iconst 1, 1) := by decide +kernel
set_option maxRecDepth 20000 in
theorem dX7_possibleKinds_50 : decode cX7_possibleKinds 50 = .ok (.iload 4, 2) := by decide +kernel
set_option maxRecDepth 20000 in
theorem dX7_possibleKinds_52 : decode cX7_possibleKinds 52 = .ok (.ishl, 1) := by decide +kernel
set_option maxRecDepth 20000 in
theorem dX7_possibleKinds_53 : decode cX7_possibleKinds 53 = .ok (.ior, 1) := by decide +kernel
set_option maxRecDepth 20000 in
theorem dX7_possibleKinds_54 : decode cX7_possibleKinds 54 = .ok (.istore_n 3, 1) := by decide +kernel
set_option maxRecDepth 20000 in
theorem dX7_possibleKinds_55 : decode cX7_possibleKinds 55 = .ok (.iinc 4 1, 3) := by decide +kernel
set_option maxRecDepth 20000 in
theorem dX7_possibleKinds_58 : decode cX7_possibleKinds 58 = .ok (.goto (-42), 3) := by decide +kernel
set_option maxRecDepth 20000 in
theorem dX7_possibleKinds_61 : decode cX7_possibleKinds 61 = .ok (.iload_n 3, 1) := by decide +kernel
set_option maxRecDepth 20000 in
theorem dX7_possibleKinds_62 : decode cX7_possibleKinds 62 = .ok (.ireturn, 1) := by decide +kernel
set_option maxRecDepth 20000 in
theorem dX7_sortIntoParts_0 : decode cX7_sortIntoParts 0 = .ok (.iconst 0, 1) := by decide +kernel
set_option maxRecDepth 20000 in
theorem dX7_sortIntoParts_1 : decode cX7_sortIntoParts 1 = .ok (.istore_n 3, 1) := by decide +kernel
set_option maxRecDepth 20000 in
theorem dX7_sortIntoParts_2 : decode cX7_sortIntoParts 2 = .ok (.iload_n 3, 1) := by decide +kernel
set_option maxRecDepth 20000 in
theorem dX7_sortIntoParts_3 : decode cX7_sortIntoParts 3 = .ok (.bipush 7, 2) := by decide +kernel
set_option maxRecDepth 20000 in
theorem dX7_sortIntoParts_5 : decode cX7_sortIntoParts 5 = .ok (.if_icmp .gt 19, 3) := by decide +kernel
set_option maxRecDepth 20000 in
theorem dX7_sortIntoParts_8 : decode cX7_sortIntoParts 8 = .ok (.aload_n 0, 1) := by decide +kernel
set_option maxRecDepth 20000 in
theorem dX7_sortIntoParts_9 : decode cX7_sortIntoParts 9 = .ok (.getfield 62, 3) := by decide +kernel
set_option maxRecDepth 20000 in
theorem dX7_sortIntoParts_12 : decode cX7_sortIntoParts 12 = .ok (.iload_n 3, 1) := by decide +kernel
set_option maxRecDepth 20000 in
theorem dX7_sortIntoParts_13 : decode cX7_sortIntoParts 13 = .ok (.aaload, 1) := by decide +kernel
set_option maxRecDepth 20000 in
theorem dX7_sortIntoParts_14 : decode cX7_sortIntoParts 14 = .ok (.iconst 0, 1) := by decide +kernel
set_option maxRecDepth 20000 in
theorem dX7_sortIntoParts_15 : decode cX7_sortIntoParts 15 = .ok (.invokestatic 353, 3) := by decide +kernel
set_option maxRecDepth 20000 in
theorem dX7_sortIntoParts_18 : decode cX7_sortIntoParts 18 = .ok (.iinc 3 1, 3) := by decide +kernel
set_option maxRecDepth 20000 in
theorem dX7_sortIntoParts_21 : decode cX7_sortIntoParts 21 = .ok (.goto (-19), 3) := by decide +kernel
set_option maxRecDepth 20000 in
theorem dX7_sortIntoParts_24 : decode cX7_sortIntoParts 24 = .ok (.aload_n 0, 1) := by decide +kernel
set_option maxRecDepth 20000 in
theorem dX7_sortIntoParts_25 : decode cX7_sortIntoParts 25 = .ok (.getfield 43, 3) := by decide +kernel
set_option maxRecDepth 20000 in
theorem dX7_sortIntoParts_28 : decode cX7_sortIntoParts 28 = .ok (.aload_n 0, 1) := by decide +kernel
set_option maxRecDepth 20000 in
theorem dX7_sortIntoParts_29 : decode cX7_sortIntoParts 29 = .ok (.getfield 24, 3) := by decide +kernel
set_option maxRecDepth 20000 in
theorem dX7_sortIntoParts_32 : decode cX7_sortIntoParts 32 = .ok (.invokevirtual 135, 3) := by decide +kernel
set_option maxRecDepth 20000 in
theorem dX7_sortIntoParts_35 : decode cX7_sortIntoParts 35 = .ok (.iconst 0, 1) := by decide +kernel
set_option maxRecDepth 20000 in
theorem dX7_sortIntoParts_36 : decode cX7_sortIntoParts 36 = .ok (.istore_n 3, 1) := by decide +kernel
set_option maxRecDepth 20000 in
theorem dX7_sortIntoParts_37 : decode cX7_sortIntoParts 37 = .ok (.iload_n 3, 1) := by decide +kernel
set_option maxRecDepth 20000 in
theorem dX7_sortIntoParts_38 : decode cX7_sortIntoParts 38 = .ok (.bipush 6, 2) := by decide +kernel
set_option maxRecDepth 20000 in
theorem dX7_sortIntoParts_40 : decode cX7_sortIntoParts 40 = .ok (.if_icmp .ge 69, 3) := by decide +kernel
set_option maxRecDepth 20000 in
theorem dX7_sortIntoParts_43 : decode cX7_sortIntoParts 43 = .ok (.iload_n 2, 1) := by decide +kernel
set_option maxRecDepth 20000 in
theorem dX7_sortIntoParts_44 : decode cX7_sortIntoParts 44 = .ok (.iload_n 3, 1) := by decide +kernel
set_option maxRecDepth 20000 in
theorem dX7_sortIntoParts_45 : decode cX7_sortIntoParts 45 = .ok (.ishr, 1) := by decide +kernel
set_option maxRecDepth 20000 in
theorem dX7_sortIntoParts_46 : decode cX7_sortIntoParts 46 = .ok (.iconst 1, 1) := by decide +kernel
set_option maxRecDepth 20000 in
theorem dX7_sortIntoParts_47 : decode cX7_sortIntoParts 47 = .ok (.iand, 1) := by decide +kernel
set_option maxRecDepth 20000 in
theorem dX7_sortIntoParts_48 : decode cX7_sortIntoParts 48 = .ok (.ifCond .eq 55, 3) := by decide +kernel
set_option maxRecDepth 20000 in
theorem dX7_sortIntoParts_51 : decode cX7_sortIntoParts 51 = .ok (.aload_n 0, 1) := by decide +kernel
set_option maxRecDepth 20000 in
theorem dX7_sortIntoParts_52 : decode cX7_sortIntoParts 52 = .ok (.getfield 43, 3) := by decide +kernel
set_option maxRecDepth 20000 in
theorem dX7_sortIntoParts_55 : decode cX7_sortIntoParts 55 = .ok (.getfield 146, 3) := by decide +kernel
set_option maxRecDepth 20000 in
theorem dX7_sortIntoParts_58 : decode cX7_sortIntoParts 58 = .ok (.iload_n 1, 1) := by decide +kernel
set_option maxRecDepth 20000 in
theorem dX7_sortIntoParts_59 : decode cX7_sortIntoParts 59 = .ok (.aaload, 1) := by decide +kernel
set_option maxRecDepth 20000 in
theorem dX7_sortIntoParts_60 : decode cX7_sortIntoParts 60 = .ok (.iload_n 3, 1) := by decide +kernel
set_option maxRecDepth 20000 in
theorem dX7_sortIntoParts_61 : decode cX7_sortIntoParts 61 = .ok (.invokevirtual 350, 3) := by decide +kernel
set_option maxRecDepth 20000 in
theorem dX7_sortIntoParts_64 : decode cX7_sortIntoParts 64 = .ok (.iconst 0, 1) := by decide +kernel
set_option maxRecDepth 20000 in
theorem dX7_sortIntoParts_65 : decode cX7_sortIntoParts 65 = .ok (.istore 4, 2) := by decide +kernel
set_option maxRecDepth 20000 in
theorem dX7_sortIntoParts_67 : decode cX7_sortIntoParts 67 = .ok (.iload 4, 2) := by decide +kernel
set_option maxRecDepth 20000 in
theorem dX7_sortIntoParts_69 : decode cX7_sortIntoParts 69 = .ok (.bipush 96, 2) := by decide +kernel
set_option maxRecDepth 20000 in
theorem dX7_sortIntoParts_71 : decode cX7_sortIntoParts 71 = .ok (.if_icmp .ge 32, 3) := by decide +kernel
set_option maxRecDepth 20000 in
theorem dX7_sortIntoParts_74 : decode cX7_sortIntoParts 74 = .ok (.aload_n 0, 1) := by decide +kernel
set_option maxRecDepth 20000 in
theorem dX7_sortIntoParts_75 : decode cX7_sortIntoParts 75 = .ok (.getfield 62, 3) := by decide +kernel
set_option maxRecDepth 20000 in
theorem dX7_sortIntoParts_78 : decode cX7_sortIntoParts 78 = .ok (.aload_n 0, 1) := by decide +kernel
set_option maxRecDepth 20000 in
theorem dX7_sortIntoParts_79 : decode cX7_sortIntoParts 79 = .ok (.getfield 43, 3) := by decide +kernel
set_option maxRecDepth 20000 in
theorem dX7_sortIntoParts_82 : decode cX7_sortIntoParts 82 = .ok (.iload 4, 2) := by decide +kernel
set_option maxRecDepth 20000 in
theorem dX7_sortIntoParts_84 : decode cX7_sortIntoParts 84 = .ok (.invokevirtual 222, 3) := by decide +kernel
set_option maxRecDepth 20000 in
theorem dX7_sortIntoParts_87 : decode cX7_sortIntoParts 87 = .ok (.iconst 1, 1) := by decide +kernel
set_option maxRecDepth 20000 in
theorem dX7_sortIntoParts_88 : decode cX7_sortIntoParts 88 = .ok (.iadd, 1) := by decide +kernel
set_option maxRecDepth 20000 in
theorem dX7_sortIntoParts_89 : decode cX7_sortIntoParts 89 = .ok (.aaload, 1) := by decide +kernel
set_option maxRecDepth 20000 in
theorem dX7_sortIntoParts_90 : decode cX7_sortIntoParts 90 = .ok (.iload 4, 2) := by decide +kernel
set_option maxRecDepth 20000 in
theorem dX7_sortIntoParts_92 : decode cX7_sortIntoParts 92 = .ok (.dup2, 1) := by decide +kernel
set_option maxRecDepth 20000 in
theorem dX7_sortIntoParts_93 : decode cX7_sortIntoParts 93 = .ok (.iaload, 1) := by decide +kernel
set_option maxRecDepth 20000 in
theorem dX7_sortIntoParts_94 : decode cX7_sortIntoParts 94 = .ok (.iconst 1, 1) := by decide +kernel
set_option maxRecDepth 20000 in
theorem dX7_sortIntoParts_95 : decode cX7_sortIntoParts 95 = .ok (.iadd, 1) := by decide +kernel
set_option maxRecDepth 20000 in
theorem dX7_sortIntoParts_96 : decode cX7_sortIntoParts 96 = .ok (.iastore, 1) := by decide +kernel
set_option maxRecDepth 20000 in
theorem dX7_sortIntoParts_97 : decode cX7_sortIntoParts 97 = .ok (.iinc 4 1, 3) := by decide +kernel
set_option maxRecDepth 20000 in
theorem dX7_sortIntoParts_100 : decode cX7_sortIntoParts 100 = .ok (.goto (-33), 3) := by decide +kernel
set_option maxRecDepth 20000 in
theorem dX7_sortIntoParts_103 : decode cX7_sortIntoParts 103 = .ok (.iinc 3 1, 3) := by decide +kernel
set_option maxRecDepth 20000 in
theorem dX7_sortIntoParts_106 : decode cX7_sortIntoParts 106 = .ok (.goto (-69), 3) := by decide +kernel
set_option maxRecDepth 20000 in
theorem dX7_sortIntoParts_109 : decode cX7_sortIntoParts 109 = .ok (.return_, 1) := by decide +kernel
set_option maxRecDepth 20000 in
theorem dX7_greatestPart_0 : decode cX7_greatestPart 0 = .ok (.iconst 0, 1) := by decide +kernel
set_option maxRecDepth 20000 in
theorem dX7_greatestPart_1 : decode cX7_greatestPart 1 = .ok (.istore_n 2, 1) := by decide +kernel
set_option maxRecDepth 20000 in
theorem dX7_greatestPart_2 : decode cX7_greatestPart 2 = .ok (.iconst 0, 1) := by decide +kernel
set_option maxRecDepth 20000 in
theorem dX7_greatestPart_3 : decode cX7_greatestPart 3 = .ok (.istore_n 3, 1) := by decide +kernel
set_option maxRecDepth 20000 in
theorem dX7_greatestPart_4 : decode cX7_greatestPart 4 = .ok (.iload_n 3, 1) := by decide +kernel
set_option maxRecDepth 20000 in
theorem dX7_greatestPart_5 : decode cX7_greatestPart 5 = .ok (.bipush 7, 2) := by decide +kernel
set_option maxRecDepth 20000 in
theorem dX7_greatestPart_7 : decode cX7_greatestPart 7 = .ok (.if_icmp .gt 22, 3) := by decide +kernel
set_option maxRecDepth 20000 in
theorem dX7_greatestPart_10 : decode cX7_greatestPart 10 = .ok (.iload_n 2, 1) := by decide +kernel
set_option maxRecDepth 20000 in
theorem dX7_greatestPart_11 : decode cX7_greatestPart 11 = .ok (.aload_n 0, 1) := by decide +kernel
set_option maxRecDepth 20000 in
theorem dX7_greatestPart_12 : decode cX7_greatestPart 12 = .ok (.getfield 62, 3) := by decide +kernel
set_option maxRecDepth 20000 in
theorem dX7_greatestPart_15 : decode cX7_greatestPart 15 = .ok (.iload_n 3, 1) := by decide +kernel
set_option maxRecDepth 20000 in
theorem dX7_greatestPart_16 : decode cX7_greatestPart 16 = .ok (.aaload, 1) := by decide +kernel
set_option maxRecDepth 20000 in
theorem dX7_greatestPart_17 : decode cX7_greatestPart 17 = .ok (.iload_n 1, 1) := by decide +kernel
set_option maxRecDepth 20000 in
theorem dX7_greatestPart_18 : decode cX7_greatestPart 18 = .ok (.iaload, 1) := by decide +kernel
set_option maxRecDepth 20000 in
theorem dX7_greatestPart_19 : decode cX7_greatestPart 19 = .ok (.invokestatic 359, 3) := by decide +kernel
set_option maxRecDepth 20000 in
theorem dX7_greatestPart_22 : decode cX7_greatestPart 22 = .ok (.istore_n 2, 1) := by decide +kernel
set_option maxRecDepth 20000 in
theorem dX7_greatestPart_23 : decode cX7_greatestPart 23 = .ok (.iinc 3 1, 3) := by decide +kernel
set_option maxRecDepth 20000 in
theorem dX7_greatestPart_26 : decode cX7_greatestPart 26 = .ok (.goto (-22), 3) := by decide +kernel
set_option maxRecDepth 20000 in
theorem dX7_greatestPart_29 : decode cX7_greatestPart 29 = .ok (.iload_n 2, 1) := by decide +kernel
set_option maxRecDepth 20000 in
theorem dX7_greatestPart_30 : decode cX7_greatestPart 30 = .ok (.ireturn, 1) := by decide +kernel
set_option maxRecDepth 20000 in
theorem dX7_power_0 : decode cX7_power 0 = .ok (.lconst 1, 1) := by decide +kernel
set_option maxRecDepth 20000 in
theorem dX7_power_1 : decode cX7_power 1 = .ok (.lstore_n 2, 1) := by decide +kernel
set_option maxRecDepth 20000 in
theorem dX7_power_2 : decode cX7_power 2 = .ok (.iconst 0, 1) := by decide +kernel
set_option maxRecDepth 20000 in
theorem dX7_power_3 : decode cX7_power 3 = .ok (.istore 4, 2) := by decide +kernel
set_option maxRecDepth 20000 in
theorem dX7_power_5 : decode cX7_power 5 = .ok (.iload 4, 2) := by decide +kernel
set_option maxRecDepth 20000 in
theorem dX7_power_7 : decode cX7_power 7 = .ok (.iload_n 1, 1) := by decide +kernel
set_option maxRecDepth 20000 in
theorem dX7_power_8 : decode cX7_power 8 = .ok (.if_icmp .ge 14, 3) := by decide +kernel
set_option maxRecDepth 20000 in
theorem dX7_power_11 : decode cX7_power 11 = .ok (.lload_n 2, 1) := by decide +kernel
set_option maxRecDepth 20000 in
theorem dX7_power_12 : decode cX7_power 12 = .ok (.iload_n 0, 1) := by decide +kernel
set_option maxRecDepth 20000 in
theorem dX7_power_13 : decode cX7_power 13 = .ok (.i2l, 1) := by decide +kernel
set_option maxRecDepth 20000 in
theorem dX7_power_14 : decode cX7_power 14 = .ok (.lmul, 1) := by decide +kernel
set_option maxRecDepth 20000 in
theorem dX7_power_15 : decode cX7_power 15 = .ok (.lstore_n 2, 1) := by decide +kernel
set_option maxRecDepth 20000 in
theorem dX7_power_16 : decode cX7_power 16 = .ok (.iinc 4 1, 3) := by decide +kernel
set_option maxRecDepth 20000 in
theorem dX7_power_19 : decode cX7_power 19 = .ok (.goto (-14), 3) := by decide +kernel
set_option maxRecDepth 20000 in
theorem dX7_power_22 : decode cX7_power 22 = .ok (.lload_n 2, 1) := by decide +kernel
set_option maxRecDepth 20000 in
theorem dX7_power_23 : decode cX7_power 23 = .ok (.lreturn, 1) := by decide +kernel
set_option maxRecDepth 20000 in
theorem dX7_tellFraction_0 : decode cX7_tellFraction 0 = .ok (.lload_n 1, 1) := by decide +kernel
set_option maxRecDepth 20000 in
theorem dX7_tellFraction_1 : decode cX7_tellFraction 1 = .ok (.lstore 5, 2) := by decide +kernel
set_option maxRecDepth 20000 in
theorem dX7_tellFraction_3 : decode cX7_tellFraction 3 = .ok (.lload_n 3, 1) := by decide +kernel
set_option maxRecDepth 20000 in
theorem dX7_tellFraction_4 : decode cX7_tellFraction 4 = .ok (.lstore 7, 2) := by decide +kernel
set_option maxRecDepth 20000 in
theorem dX7_tellFraction_6 : decode cX7_tellFraction 6 = .ok (.iconst 0, 1) := by decide +kernel
set_option maxRecDepth 20000 in
theorem dX7_tellFraction_7 : decode cX7_tellFraction 7 = .ok (.istore 9, 2) := by decide +kernel
set_option maxRecDepth 20000 in
theorem dX7_tellFraction_9 : decode cX7_tellFraction 9 = .ok (.iload 9, 2) := by decide +kernel
set_option maxRecDepth 20000 in
theorem dX7_tellFraction_11 : decode cX7_tellFraction 11 = .ok (.bipush 100, 2) := by decide +kernel
set_option maxRecDepth 20000 in
theorem dX7_tellFraction_13 : decode cX7_tellFraction 13 = .ok (.if_icmp .ge 31, 3) := by decide +kernel
set_option maxRecDepth 20000 in
theorem dX7_tellFraction_16 : decode cX7_tellFraction 16 = .ok (.lload 7, 2) := by decide +kernel
set_option maxRecDepth 20000 in
theorem dX7_tellFraction_18 : decode cX7_tellFraction 18 = .ok (.lconst 0, 1) := by decide +kernel
set_option maxRecDepth 20000 in
theorem dX7_tellFraction_19 : decode cX7_tellFraction 19 = .ok (.lcmp, 1) := by decide +kernel
set_option maxRecDepth 20000 in
theorem dX7_tellFraction_20 : decode cX7_tellFraction 20 = .ok (.ifCond .eq 24, 3) := by decide +kernel
set_option maxRecDepth 20000 in
theorem dX7_tellFraction_23 : decode cX7_tellFraction 23 = .ok (.lload 5, 2) := by decide +kernel
set_option maxRecDepth 20000 in
theorem dX7_tellFraction_25 : decode cX7_tellFraction 25 = .ok (.lload 7, 2) := by decide +kernel
set_option maxRecDepth 20000 in
theorem dX7_tellFraction_27 : decode cX7_tellFraction 27 = .ok (.lrem, 1) := by decide +kernel
set_option maxRecDepth 20000 in
theorem dX7_tellFraction_28 : decode cX7_tellFraction 28 = .ok (.lstore 10, 2) := by decide +kernel
set_option maxRecDepth 20000 in
theorem dX7_tellFraction_30 : decode cX7_tellFraction 30 = .ok (.lload 7, 2) := by decide +kernel
set_option maxRecDepth 20000 in
theorem dX7_tellFraction_32 : decode cX7_tellFraction 32 = .ok (.lstore 5, 2) := by decide +kernel
set_option maxRecDepth 20000 in
theorem dX7_tellFraction_34 : decode cX7_tellFraction 34 = .ok (.lload 10, 2) := by decide +kernel
set_option maxRecDepth 20000 in
theorem dX7_tellFraction_36 : decode cX7_tellFraction 36 = .ok (.lstore 7, 2) := by decide +kernel
set_option maxRecDepth 20000 in
theorem dX7_tellFraction_38 : decode cX7_tellFraction 38 = .ok (.iinc 9 1, 3) := by decide +kernel
set_option maxRecDepth 20000 in
theorem dX7_tellFraction_41 : decode cX7_tellFraction 41 = .ok (.goto (-32), 3) := by decide +kernel
set_option maxRecDepth 20000 in
theorem dX7_tellFraction_44 : decode cX7_tellFraction 44 = .ok (.lload 5, 2) := by decide +kernel
set_option maxRecDepth 20000 in
theorem dX7_tellFraction_46 : decode cX7_tellFraction 46 = .ok (.lconst 0, 1) := by decide +kernel
set_option maxRecDepth 20000 in
theorem dX7_tellFraction_47 : decode cX7_tellFraction 47 = .ok (.lcmp, 1) := by decide +kernel
set_option maxRecDepth 20000 in
theorem dX7_tellFraction_48 : decode cX7_tellFraction 48 = .ok (.ifCond .le 19, 3) := by decide +kernel
set_option maxRecDepth 20000 in
theorem dX7_tellFraction_51 : decode cX7_tellFraction 51 = .ok (.aload_n 0, 1) := by decide +kernel
set_option maxRecDepth 20000 in
theorem dX7_tellFraction_52 : decode cX7_tellFraction 52 = .ok (.lload_n 1, 1) := by decide +kernel
set_option maxRecDepth 20000 in
theorem dX7_tellFraction_53 : decode cX7_tellFraction 53 = .ok (.lload 5, 2) := by decide +kernel
set_option maxRecDepth 20000 in
theorem dX7_tellFraction_55 : decode cX7_tellFraction 55 = .ok (.ldiv, 1) := by decide +kernel
set_option maxRecDepth 20000 in
theorem dX7_tellFraction_56 : decode cX7_tellFraction 56 = .ok (.putfield 76, 3) := by decide +kernel
set_option maxRecDepth 20000 in
theorem dX7_tellFraction_59 : decode cX7_tellFraction 59 = .ok (.aload_n 0, 1) := by decide +kernel
set_option maxRecDepth 20000 in
theorem dX7_tellFraction_60 : decode cX7_tellFraction 60 = .ok (.lload_n 3, 1) := by decide +kernel
set_option maxRecDepth 20000 in
theorem dX7_tellFraction_61 : decode cX7_tellFraction 61 = .ok (.lload 5, 2) := by decide +kernel
set_option maxRecDepth 20000 in
theorem dX7_tellFraction_63 : decode cX7_tellFraction 63 = .ok (.ldiv, 1) := by decide +kernel
set_option maxRecDepth 20000 in
theorem dX7_tellFraction_64 : decode cX7_tellFraction 64 = .ok (.putfield 80, 3) := by decide +kernel
set_option maxRecDepth 20000 in
theorem dX7_tellFraction_67 : decode cX7_tellFraction 67 = .ok (.return_, 1) := by decide +kernel
