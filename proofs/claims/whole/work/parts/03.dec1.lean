theorem dX7_serve_86 : decode cX7_serve 86 = .ok (.ineg, 1) := by decide +kernel
theorem dX7_serve_87 : decode cX7_serve 87 = .ok (.istore 8, 2) := by decide +kernel
theorem dX7_serve_89 : decode cX7_serve 89 = .ok (.iload 8, 2) := by decide +kernel
theorem dX7_serve_91 : decode cX7_serve 91 = .ok (.ifCond .le 38, 3) := by decide +kernel
theorem dX7_serve_94 : decode cX7_serve 94 = .ok (.aload_n 0, 1) := by decide +kernel
theorem dX7_serve_95 : decode cX7_serve 95 = .ok (.getfield 31, 3) := by decide +kernel
theorem dX7_serve_98 : decode cX7_serve 98 = .ok (.iload 7, 2) := by decide +kernel
theorem dX7_serve_100 : decode cX7_serve 100 = .ok (.ishr, 1) := by decide +kernel
theorem dX7_serve_101 : decode cX7_serve 101 = .ok (.iconst 1, 1) := by decide +kernel
theorem dX7_serve_102 : decode cX7_serve 102 = .ok (.iand, 1) := by decide +kernel
theorem dX7_serve_103 : decode cX7_serve 103 = .ok (.ifCond .ne 26, 3) := by decide +kernel
theorem dX7_serve_106 : decode cX7_serve 106 = .ok (.aload_n 2, 1) := by decide +kernel
theorem dX7_serve_107 : decode cX7_serve 107 = .ok (.iload 8, 2) := by decide +kernel
theorem dX7_serve_109 : decode cX7_serve 109 = .ok (.invokevirtual 71, 3) := by decide +kernel
theorem dX7_serve_112 : decode cX7_serve 112 = .ok (.istore 9, 2) := by decide +kernel
theorem dX7_serve_114 : decode cX7_serve 114 = .ok (.iload 9, 2) := by decide +kernel
theorem dX7_serve_116 : decode cX7_serve 116 = .ok (.iload 6, 2) := by decide +kernel
theorem dX7_serve_118 : decode cX7_serve 118 = .ok (.if_icmp .le 11, 3) := by decide +kernel
theorem dX7_serve_121 : decode cX7_serve 121 = .ok (.iload 7, 2) := by decide +kernel
theorem dX7_serve_123 : decode cX7_serve 123 = .ok (.istore 5, 2) := by decide +kernel
theorem dX7_serve_125 : decode cX7_serve 125 = .ok (.iload 9, 2) := by decide +kernel
theorem dX7_serve_127 : decode cX7_serve 127 = .ok (.istore 6, 2) := by decide +kernel
theorem dX7_serve_129 : decode cX7_serve 129 = .ok (.iinc 7 1, 3) := by decide +kernel
theorem dX7_serve_132 : decode cX7_serve 132 = .ok (.goto (-62), 3) := by decide +kernel
theorem dX7_serve_135 : decode cX7_serve 135 = .ok (.iload 5, 2) := by decide +kernel
theorem dX7_serve_137 : decode cX7_serve 137 = .ok (.bipush 8, 2) := by decide +kernel
theorem dX7_serve_139 : decode cX7_serve 139 = .ok (.if_icmp .ne 4, 3) := by decide +kernel
theorem dX7_serve_142 : decode cX7_serve 142 = .ok (.return_, 1) := by decide +kernel
theorem dX7_serve_143 : decode cX7_serve 143 = .ok (.aload_n 1, 1) := by decide +kernel
theorem dX7_serve_144 : decode cX7_serve 144 = .ok (.iload 5, 2) := by decide +kernel
theorem dX7_serve_146 : decode cX7_serve 146 = .ok (.iload_n 3, 1) := by decide +kernel
theorem dX7_serve_147 : decode cX7_serve 147 = .ok (.invokevirtual 59, 3) := by decide +kernel
theorem dX7_serve_150 : decode cX7_serve 150 = .ok (.aload_n 1, 1) := by decide +kernel
theorem dX7_serve_151 : decode cX7_serve 151 = .ok (.bipush 16, 2) := by decide +kernel
theorem dX7_serve_153 : decode cX7_serve 153 = .ok (.invokevirtual 62, 3) := by decide +kernel
theorem dX7_serve_156 : decode cX7_serve 156 = .ok (.iadd, 1) := by decide +kernel
theorem dX7_serve_157 : decode cX7_serve 157 = .ok (.istore 7, 2) := by decide +kernel
theorem dX7_serve_159 : decode cX7_serve 159 = .ok (.aload_n 1, 1) := by decide +kernel
theorem dX7_serve_160 : decode cX7_serve 160 = .ok (.iload 5, 2) := by decide +kernel
theorem dX7_serve_162 : decode cX7_serve 162 = .ok (.iload_n 3, 1) := by decide +kernel
theorem dX7_serve_163 : decode cX7_serve 163 = .ok (.iload 7, 2) := by decide +kernel
theorem dX7_serve_165 : decode cX7_serve 165 = .ok (.bipush 9, 2) := by decide +kernel
theorem dX7_serve_167 : decode cX7_serve 167 = .ok (.invokestatic 74, 3) := by decide +kernel
theorem dX7_serve_170 : decode cX7_serve 170 = .ok (.invokevirtual 79, 3) := by decide +kernel
theorem dX7_serve_173 : decode cX7_serve 173 = .ok (.aload_n 1, 1) := by decide +kernel
theorem dX7_serve_174 : decode cX7_serve 174 = .ok (.iload_n 3, 1) := by decide +kernel
theorem dX7_serve_175 : decode cX7_serve 175 = .ok (.iload 6, 2) := by decide +kernel
theorem dX7_serve_177 : decode cX7_serve 177 = .ok (.invokevirtual 83, 3) := by decide +kernel
theorem dX7_serve_180 : decode cX7_serve 180 = .ok (.aload_n 0, 1) := by decide +kernel
theorem dX7_serve_181 : decode cX7_serve 181 = .ok (.getfield 15, 3) := by decide +kernel
theorem dX7_serve_184 : decode cX7_serve 184 = .ok (.aload_n 0, 1) := by decide +kernel
theorem dX7_serve_185 : decode cX7_serve 185 = .ok (.getfield 9, 3) := by decide +kernel
theorem dX7_serve_188 : decode cX7_serve 188 = .ok (.iload_n 3, 1) := by decide +kernel
theorem dX7_serve_189 : decode cX7_serve 189 = .ok (.iastore, 1) := by decide +kernel
theorem dX7_serve_190 : decode cX7_serve 190 = .ok (.aload_n 0, 1) := by decide +kernel
theorem dX7_serve_191 : decode cX7_serve 191 = .ok (.getfield 19, 3) := by decide +kernel
theorem dX7_serve_194 : decode cX7_serve 194 = .ok (.aload_n 0, 1) := by decide +kernel
theorem dX7_serve_195 : decode cX7_serve 195 = .ok (.getfield 9, 3) := by decide +kernel
theorem dX7_serve_198 : decode cX7_serve 198 = .ok (.iload 5, 2) := by decide +kernel
theorem dX7_serve_200 : decode cX7_serve 200 = .ok (.iastore, 1) := by decide +kernel
theorem dX7_serve_201 : decode cX7_serve 201 = .ok (.aload_n 0, 1) := by decide +kernel
theorem dX7_serve_202 : decode cX7_serve 202 = .ok (.getfield 22, 3) := by decide +kernel
theorem dX7_serve_205 : decode cX7_serve 205 = .ok (.aload_n 0, 1) := by decide +kernel
theorem dX7_serve_206 : decode cX7_serve 206 = .ok (.getfield 9, 3) := by decide +kernel
theorem dX7_serve_209 : decode cX7_serve 209 = .ok (.iload 4, 2) := by decide +kernel
theorem dX7_serve_211 : decode cX7_serve 211 = .ok (.iastore, 1) := by decide +kernel
theorem dX7_serve_212 : decode cX7_serve 212 = .ok (.aload_n 0, 1) := by decide +kernel
theorem dX7_serve_213 : decode cX7_serve 213 = .ok (.getfield 25, 3) := by decide +kernel
theorem dX7_serve_216 : decode cX7_serve 216 = .ok (.aload_n 0, 1) := by decide +kernel
theorem dX7_serve_217 : decode cX7_serve 217 = .ok (.getfield 9, 3) := by decide +kernel
theorem dX7_serve_220 : decode cX7_serve 220 = .ok (.iload 6, 2) := by decide +kernel
theorem dX7_serve_222 : decode cX7_serve 222 = .ok (.iastore, 1) := by decide +kernel
theorem dX7_serve_223 : decode cX7_serve 223 = .ok (.aload_n 0, 1) := by decide +kernel
theorem dX7_serve_224 : decode cX7_serve 224 = .ok (.dup, 1) := by decide +kernel
theorem dX7_serve_225 : decode cX7_serve 225 = .ok (.getfield 9, 3) := by decide +kernel
theorem dX7_serve_228 : decode cX7_serve 228 = .ok (.iconst 1, 1) := by decide +kernel
theorem dX7_serve_229 : decode cX7_serve 229 = .ok (.iadd, 1) := by decide +kernel
theorem dX7_serve_230 : decode cX7_serve 230 = .ok (.putfield 9, 3) := by decide +kernel
theorem dX7_serve_233 : decode cX7_serve 233 = .ok (.aload_n 0, 1) := by decide +kernel
theorem dX7_serve_234 : decode cX7_serve 234 = .ok (.dup, 1) := by decide +kernel
theorem dX7_serve_235 : decode cX7_serve 235 = .ok (.getfield 28, 3) := by decide +kernel
theorem dX7_serve_238 : decode cX7_serve 238 = .ok (.iconst 1, 1) := by decide +kernel
theorem dX7_serve_239 : decode cX7_serve 239 = .ok (.iload_n 3, 1) := by decide +kernel
theorem dX7_serve_240 : decode cX7_serve 240 = .ok (.ishl, 1) := by decide +kernel
theorem dX7_serve_241 : decode cX7_serve 241 = .ok (.ior, 1) := by decide +kernel
theorem dX7_serve_242 : decode cX7_serve 242 = .ok (.putfield 28, 3) := by decide +kernel
theorem dX7_serve_245 : decode cX7_serve 245 = .ok (.aload_n 0, 1) := by decide +kernel
theorem dX7_serve_246 : decode cX7_serve 246 = .ok (.dup, 1) := by decide +kernel
theorem dX7_serve_247 : decode cX7_serve 247 = .ok (.getfield 31, 3) := by decide +kernel
theorem dX7_serve_250 : decode cX7_serve 250 = .ok (.iconst 1, 1) := by decide +kernel
theorem dX7_serve_251 : decode cX7_serve 251 = .ok (.iload 5, 2) := by decide +kernel
theorem dX7_serve_253 : decode cX7_serve 253 = .ok (.ishl, 1) := by decide +kernel
theorem dX7_serve_254 : decode cX7_serve 254 = .ok (.ior, 1) := by decide +kernel
theorem dX7_serve_255 : decode cX7_serve 255 = .ok (.putfield 31, 3) := by decide +kernel
theorem dX7_serve_258 : decode cX7_serve 258 = .ok (.return_, 1) := by decide +kernel
theorem dX7_weigherOf_0 : decode cX7_weigherOf 0 = .ok (.iconst 0, 1) := by decide +kernel
theorem dX7_weigherOf_1 : decode cX7_weigherOf 1 = .ok (.istore_n 2, 1) := by decide +kernel
theorem dX7_weigherOf_2 : decode cX7_weigherOf 2 = .ok (.iload_n 2, 1) := by decide +kernel
theorem dX7_weigherOf_3 : decode cX7_weigherOf 3 = .ok (.aload_n 0, 1) := by decide +kernel
theorem dX7_weigherOf_4 : decode cX7_weigherOf 4 = .ok (.getfield 9, 3) := by decide +kernel
theorem dX7_weigherOf_7 : decode cX7_weigherOf 7 = .ok (.if_icmp .ge 32, 3) := by decide +kernel
theorem dX7_weigherOf_10 : decode cX7_weigherOf 10 = .ok (.iload_n 2, 1) := by decide +kernel
theorem dX7_weigherOf_11 : decode cX7_weigherOf 11 = .ok (.bipush 8, 2) := by decide +kernel
theorem dX7_weigherOf_13 : decode cX7_weigherOf 13 = .ok (.if_icmp .ge 26, 3) := by decide +kernel
theorem dX7_weigherOf_16 : decode cX7_weigherOf 16 = .ok (.aload_n 0, 1) := by decide +kernel
theorem dX7_weigherOf_17 : decode cX7_weigherOf 17 = .ok (.getfield 15, 3) := by decide +kernel
theorem dX7_weigherOf_20 : decode cX7_weigherOf 20 = .ok (.iload_n 2, 1) := by decide +kernel
theorem dX7_weigherOf_21 : decode cX7_weigherOf 21 = .ok (.iaload, 1) := by decide +kernel
theorem dX7_weigherOf_22 : decode cX7_weigherOf 22 = .ok (.iload_n 1, 1) := by decide +kernel
theorem dX7_weigherOf_23 : decode cX7_weigherOf 23 = .ok (.if_icmp .ne 10, 3) := by decide +kernel
theorem dX7_weigherOf_26 : decode cX7_weigherOf 26 = .ok (.aload_n 0, 1) := by decide +kernel
theorem dX7_weigherOf_27 : decode cX7_weigherOf 27 = .ok (.getfield 19, 3) := by decide +kernel
theorem dX7_weigherOf_30 : decode cX7_weigherOf 30 = .ok (.iload_n 2, 1) := by decide +kernel
theorem dX7_weigherOf_31 : decode cX7_weigherOf 31 = .ok (.iaload, 1) := by decide +kernel
theorem dX7_weigherOf_32 : decode cX7_weigherOf 32 = .ok (.ireturn, 1) := by decide +kernel
theorem dX7_weigherOf_33 : decode cX7_weigherOf 33 = .ok (.iinc 2 1, 3) := by decide +kernel
theorem dX7_weigherOf_36 : decode cX7_weigherOf 36 = .ok (.goto (-34), 3) := by decide +kernel
theorem dX7_weigherOf_39 : decode cX7_weigherOf 39 = .ok (.bipush 8, 2) := by decide +kernel
theorem dX7_weigherOf_41 : decode cX7_weigherOf 41 = .ok (.ireturn, 1) := by decide +kernel
theorem dX8_init_0 : decode cX8_init 0 = .ok (.aload_n 0, 1) := by decide +kernel
theorem dX8_init_1 : decode cX8_init 1 = .ok (.invokespecial 3, 3) := by decide +kernel
theorem dX8_init_4 : decode cX8_init 4 = .ok (.aload_n 0, 1) := by decide +kernel
theorem dX8_init_5 : decode cX8_init 5 = .ok (.bipush 6, 2) := by decide +kernel
theorem dX8_init_7 : decode cX8_init 7 = .ok (.newarray .int, 2) := by decide +kernel
theorem dX8_init_9 : decode cX8_init 9 = .ok (.dup, 1) := by decide +kernel
theorem dX8_init_10 : decode cX8_init 10 = .ok (.iconst 0, 1) := by decide +kernel
theorem dX8_init_11 : decode cX8_init 11 = .ok (.bipush 6, 2) := by decide +kernel
theorem dX8_init_13 : decode cX8_init 13 = .ok (.iastore, 1) := by decide +kernel
theorem dX8_init_14 : decode cX8_init 14 = .ok (.dup, 1) := by decide +kernel
theorem dX8_init_15 : decode cX8_init 15 = .ok (.iconst 1, 1) := by decide +kernel
theorem dX8_init_16 : decode cX8_init 16 = .ok (.bipush 6, 2) := by decide +kernel
theorem dX8_init_18 : decode cX8_init 18 = .ok (.iastore, 1) := by decide +kernel
theorem dX8_init_19 : decode cX8_init 19 = .ok (.dup, 1) := by decide +kernel
theorem dX8_init_20 : decode cX8_init 20 = .ok (.iconst 2, 1) := by decide +kernel
theorem dX8_init_21 : decode cX8_init 21 = .ok (.bipush 6, 2) := by decide +kernel
theorem dX8_init_23 : decode cX8_init 23 = .ok (.iastore, 1) := by decide +kernel
theorem dX8_init_24 : decode cX8_init 24 = .ok (.dup, 1) := by decide +kernel
theorem dX8_init_25 : decode cX8_init 25 = .ok (.iconst 3, 1) := by decide +kernel
theorem dX8_init_26 : decode cX8_init 26 = .ok (.bipush 6, 2) := by decide +kernel
theorem dX8_init_28 : decode cX8_init 28 = .ok (.iastore, 1) := by decide +kernel
theorem dX8_init_29 : decode cX8_init 29 = .ok (.dup, 1) := by decide +kernel
theorem dX8_init_30 : decode cX8_init 30 = .ok (.iconst 4, 1) := by decide +kernel
theorem dX8_init_31 : decode cX8_init 31 = .ok (.bipush 6, 2) := by decide +kernel
theorem dX8_init_33 : decode cX8_init 33 = .ok (.iastore, 1) := by decide +kernel
theorem dX8_init_34 : decode cX8_init 34 = .ok (.dup, 1) := by decide +kernel
theorem dX8_init_35 : decode cX8_init 35 = .ok (.iconst 5, 1) := by decide +kernel
theorem dX8_init_36 : decode cX8_init 36 = .ok (.bipush 6, 2) := by decide +kernel
theorem dX8_init_38 : decode cX8_init 38 = .ok (.iastore, 1) := by decide +kernel
theorem dX8_init_39 : decode cX8_init 39 = .ok (.putfield 11, 3) := by decide +kernel
theorem dX8_init_42 : decode cX8_init 42 = .ok (.aload_n 0, 1) := by decide +kernel
theorem dX8_init_43 : decode cX8_init 43 = .ok (.bipush 6, 2) := by decide +kernel
theorem dX8_init_45 : decode cX8_init 45 = .ok (.newarray .int, 2) := by decide +kernel
theorem dX8_init_47 : decode cX8_init 47 = .ok (.putfield 15, 3) := by decide +kernel
theorem dX8_init_50 : decode cX8_init 50 = .ok (.aload_n 0, 1) := by decide +kernel
theorem dX8_init_51 : decode cX8_init 51 = .ok (.bipush 6, 2) := by decide +kernel
theorem dX8_init_53 : decode cX8_init 53 = .ok (.newarray .int, 2) := by decide +kernel
theorem dX8_init_55 : decode cX8_init 55 = .ok (.putfield 18, 3) := by decide +kernel
theorem dX8_init_58 : decode cX8_init 58 = .ok (.aload_n 0, 1) := by decide +kernel
theorem dX8_init_59 : decode cX8_init 59 = .ok (.sipush 360, 3) := by decide +kernel
theorem dX8_init_62 : decode cX8_init 62 = .ok (.newarray .long, 2) := by decide +kernel
theorem dX8_init_64 : decode cX8_init 64 = .ok (.putfield 21, 3) := by decide +kernel
theorem dX8_init_67 : decode cX8_init 67 = .ok (.return_, 1) := by decide +kernel
theorem dX8_isSort_0 : decode cX8_isSort 0 = .ok (.iload_n 0, 1) := by decide +kernel
theorem dX8_isSort_1 : decode cX8_isSort 1 = .ok (.ifCond .lt 12, 3) := by decide +kernel
theorem dX8_isSort_4 : decode cX8_isSort 4 = .ok (.iload_n 0, 1) := by decide +kernel
theorem dX8_isSort_5 : decode cX8_isSort 5 = .ok (.iconst 4, 1) := by decide +kernel
theorem dX8_isSort_6 : decode cX8_isSort 6 = .ok (.if_icmp .gt 7, 3) := by decide +kernel
theorem dX8_isSort_9 : decode cX8_isSort 9 = .ok (.iconst 1, 1) := by decide +kernel
theorem dX8_isSort_10 : decode cX8_isSort 10 = .ok (.goto 4, 3) := by decide +kernel
theorem dX8_isSort_13 : decode cX8_isSort 13 = .ok (.iconst 0, 1) := by decide +kernel
theorem dX8_isSort_14 : decode cX8_isSort 14 = .ok (.ireturn, 1) := by decide +kernel
theorem dX8_has_0 : decode cX8_has 0 = .ok (.iload_n 1, 1) := by decide +kernel
theorem dX8_has_1 : decode cX8_has 1 = .ok (.ifCond .lt 13, 3) := by decide +kernel
theorem dX8_has_4 : decode cX8_has 4 = .ok (.iload_n 1, 1) := by decide +kernel
theorem dX8_has_5 : decode cX8_has 5 = .ok (.bipush 6, 2) := by decide +kernel
theorem dX8_has_7 : decode cX8_has 7 = .ok (.if_icmp .ge 7, 3) := by decide +kernel
theorem dX8_has_10 : decode cX8_has 10 = .ok (.iconst 1, 1) := by decide +kernel
theorem dX8_has_11 : decode cX8_has 11 = .ok (.goto 4, 3) := by decide +kernel
theorem dX8_has_14 : decode cX8_has 14 = .ok (.iconst 0, 1) := by decide +kernel
theorem dX8_has_15 : decode cX8_has 15 = .ok (.ireturn, 1) := by decide +kernel
theorem dX8_held_0 : decode cX8_held 0 = .ok (.aload_n 0, 1) := by decide +kernel
theorem dX8_held_1 : decode cX8_held 1 = .ok (.iload_n 1, 1) := by decide +kernel
theorem dX8_held_2 : decode cX8_held 2 = .ok (.invokevirtual 25, 3) := by decide +kernel
theorem dX8_held_5 : decode cX8_held 5 = .ok (.ifCond .eq 12, 3) := by decide +kernel
theorem dX8_held_8 : decode cX8_held 8 = .ok (.aload_n 0, 1) := by decide +kernel
theorem dX8_held_9 : decode cX8_held 9 = .ok (.getfield 11, 3) := by decide +kernel
theorem dX8_held_12 : decode cX8_held 12 = .ok (.iload_n 1, 1) := by decide +kernel
theorem dX8_held_13 : decode cX8_held 13 = .ok (.iaload, 1) := by decide +kernel
theorem dX8_held_14 : decode cX8_held 14 = .ok (.goto 5, 3) := by decide +kernel
theorem dX8_held_17 : decode cX8_held 17 = .ok (.bipush 6, 2) := by decide +kernel
theorem dX8_held_19 : decode cX8_held 19 = .ok (.ireturn, 1) := by decide +kernel
theorem dX8_isBare_0 : decode cX8_isBare 0 = .ok (.aload_n 0, 1) := by decide +kernel
theorem dX8_isBare_1 : decode cX8_isBare 1 = .ok (.iload_n 1, 1) := by decide +kernel
theorem dX8_isBare_2 : decode cX8_isBare 2 = .ok (.invokevirtual 29, 3) := by decide +kernel
theorem dX8_isBare_5 : decode cX8_isBare 5 = .ok (.bipush 6, 2) := by decide +kernel
theorem dX8_isBare_7 : decode cX8_isBare 7 = .ok (.if_icmp .ne 7, 3) := by decide +kernel
theorem dX8_isBare_10 : decode cX8_isBare 10 = .ok (.iconst 1, 1) := by decide +kernel
theorem dX8_isBare_11 : decode cX8_isBare 11 = .ok (.goto 4, 3) := by decide +kernel
theorem dX8_isBare_14 : decode cX8_isBare 14 = .ok (.iconst 0, 1) := by decide +kernel
theorem dX8_isBare_15 : decode cX8_isBare 15 = .ok (.ireturn, 1) := by decide +kernel
theorem dX8_holdsNeedle_0 : decode cX8_holdsNeedle 0 = .ok (.aload_n 0, 1) := by decide +kernel
theorem dX8_holdsNeedle_1 : decode cX8_holdsNeedle 1 = .ok (.iload_n 1, 1) := by decide +kernel
theorem dX8_holdsNeedle_2 : decode cX8_holdsNeedle 2 = .ok (.invokevirtual 29, 3) := by decide +kernel
theorem dX8_holdsNeedle_5 : decode cX8_holdsNeedle 5 = .ok (.iconst 5, 1) := by decide +kernel
theorem dX8_holdsNeedle_6 : decode cX8_holdsNeedle 6 = .ok (.if_icmp .ne 7, 3) := by decide +kernel
theorem dX8_holdsNeedle_9 : decode cX8_holdsNeedle 9 = .ok (.iconst 1, 1) := by decide +kernel
theorem dX8_holdsNeedle_10 : decode cX8_holdsNeedle 10 = .ok (.goto 4, 3) := by decide +kernel
theorem dX8_holdsNeedle_13 : decode cX8_holdsNeedle 13 = .ok (.iconst 0, 1) := by decide +kernel
theorem dX8_holdsNeedle_14 : decode cX8_holdsNeedle 14 = .ok (.ireturn, 1) := by decide +kernel
theorem dX8_holdsBytes_0 : decode cX8_holdsBytes 0 = .ok (.aload_n 0, 1) := by decide +kernel
theorem dX8_holdsBytes_1 : decode cX8_holdsBytes 1 = .ok (.iload_n 1, 1) := by decide +kernel
theorem dX8_holdsBytes_2 : decode cX8_holdsBytes 2 = .ok (.invokevirtual 29, 3) := by decide +kernel
theorem dX8_holdsBytes_5 : decode cX8_holdsBytes 5 = .ok (.ifCond .ne 7, 3) := by decide +kernel
theorem dX8_holdsBytes_8 : decode cX8_holdsBytes 8 = .ok (.iconst 1, 1) := by decide +kernel
theorem dX8_holdsBytes_9 : decode cX8_holdsBytes 9 = .ok (.goto 4, 3) := by decide +kernel
theorem dX8_holdsBytes_12 : decode cX8_holdsBytes 12 = .ok (.iconst 0, 1) := by decide +kernel
theorem dX8_holdsBytes_13 : decode cX8_holdsBytes 13 = .ok (.ireturn, 1) := by decide +kernel
theorem dX8_areAlikeRows_0 : decode cX8_areAlikeRows 0 = .ok (.aload_n 0, 1) := by decide +kernel
theorem dX8_areAlikeRows_1 : decode cX8_areAlikeRows 1 = .ok (.iload_n 1, 1) := by decide +kernel
theorem dX8_areAlikeRows_2 : decode cX8_areAlikeRows 2 = .ok (.invokevirtual 29, 3) := by decide +kernel
theorem dX8_areAlikeRows_5 : decode cX8_areAlikeRows 5 = .ok (.invokestatic 33, 3) := by decide +kernel
theorem dX8_areAlikeRows_8 : decode cX8_areAlikeRows 8 = .ok (.ifCond .eq 20, 3) := by decide +kernel
theorem dX8_areAlikeRows_11 : decode cX8_areAlikeRows 11 = .ok (.aload_n 0, 1) := by decide +kernel
theorem dX8_areAlikeRows_12 : decode cX8_areAlikeRows 12 = .ok (.iload_n 1, 1) := by decide +kernel
theorem dX8_areAlikeRows_13 : decode cX8_areAlikeRows 13 = .ok (.invokevirtual 29, 3) := by decide +kernel
theorem dX8_areAlikeRows_16 : decode cX8_areAlikeRows 16 = .ok (.aload_n 0, 1) := by decide +kernel
theorem dX8_areAlikeRows_17 : decode cX8_areAlikeRows 17 = .ok (.iload_n 2, 1) := by decide +kernel
theorem dX8_areAlikeRows_18 : decode cX8_areAlikeRows 18 = .ok (.invokevirtual 29, 3) := by decide +kernel
theorem dX8_areAlikeRows_21 : decode cX8_areAlikeRows 21 = .ok (.if_icmp .ne 7, 3) := by decide +kernel
theorem dX8_areAlikeRows_24 : decode cX8_areAlikeRows 24 = .ok (.iconst 1, 1) := by decide +kernel
theorem dX8_areAlikeRows_25 : decode cX8_areAlikeRows 25 = .ok (.goto 4, 3) := by decide +kernel
theorem dX8_areAlikeRows_28 : decode cX8_areAlikeRows 28 = .ok (.iconst 0, 1) := by decide +kernel
theorem dX8_areAlikeRows_29 : decode cX8_areAlikeRows 29 = .ok (.ireturn, 1) := by decide +kernel
theorem dX8_needleOn_0 : decode cX8_needleOn 0 = .ok (.aload_n 0, 1) := by decide +kernel
theorem dX8_needleOn_1 : decode cX8_needleOn 1 = .ok (.iload_n 1, 1) := by decide +kernel
theorem dX8_needleOn_2 : decode cX8_needleOn 2 = .ok (.invokevirtual 36, 3) := by decide +kernel
theorem dX8_needleOn_5 : decode cX8_needleOn 5 = .ok (.ifCond .eq 12, 3) := by decide +kernel
theorem dX8_needleOn_8 : decode cX8_needleOn 8 = .ok (.aload_n 0, 1) := by decide +kernel
theorem dX8_needleOn_9 : decode cX8_needleOn 9 = .ok (.getfield 18, 3) := by decide +kernel
theorem dX8_needleOn_12 : decode cX8_needleOn 12 = .ok (.iload_n 1, 1) := by decide +kernel
theorem dX8_needleOn_13 : decode cX8_needleOn 13 = .ok (.iaload, 1) := by decide +kernel
theorem dX8_needleOn_14 : decode cX8_needleOn 14 = .ok (.goto 4, 3) := by decide +kernel
theorem dX8_needleOn_17 : decode cX8_needleOn 17 = .ok (.iconst (-1), 1) := by decide +kernel
theorem dX8_needleOn_18 : decode cX8_needleOn 18 = .ok (.ireturn, 1) := by decide +kernel
theorem dX8_sizeOf_0 : decode cX8_sizeOf 0 = .ok (.aload_n 0, 1) := by decide +kernel
theorem dX8_sizeOf_1 : decode cX8_sizeOf 1 = .ok (.iload_n 1, 1) := by decide +kernel
theorem dX8_sizeOf_2 : decode cX8_sizeOf 2 = .ok (.invokevirtual 25, 3) := by decide +kernel
theorem dX8_sizeOf_5 : decode cX8_sizeOf 5 = .ok (.ifCond .eq 12, 3) := by decide +kernel
theorem dX8_sizeOf_8 : decode cX8_sizeOf 8 = .ok (.aload_n 0, 1) := by decide +kernel
theorem dX8_sizeOf_9 : decode cX8_sizeOf 9 = .ok (.getfield 15, 3) := by decide +kernel
theorem dX8_sizeOf_12 : decode cX8_sizeOf 12 = .ok (.iload_n 1, 1) := by decide +kernel
theorem dX8_sizeOf_13 : decode cX8_sizeOf 13 = .ok (.iaload, 1) := by decide +kernel
theorem dX8_sizeOf_14 : decode cX8_sizeOf 14 = .ok (.goto 4, 3) := by decide +kernel
theorem dX8_sizeOf_17 : decode cX8_sizeOf 17 = .ok (.iconst 0, 1) := by decide +kernel
theorem dX8_sizeOf_18 : decode cX8_sizeOf 18 = .ok (.ireturn, 1) := by decide +kernel
theorem dX8_refusalOfBytes_0 : decode cX8_refusalOfBytes 0 = .ok (.aload_n 0, 1) := by decide +kernel
theorem dX8_refusalOfBytes_1 : decode cX8_refusalOfBytes 1 = .ok (.iload_n 1, 1) := by decide +kernel
theorem dX8_refusalOfBytes_2 : decode cX8_refusalOfBytes 2 = .ok (.invokevirtual 39, 3) := by decide +kernel
theorem dX8_refusalOfBytes_5 : decode cX8_refusalOfBytes 5 = .ok (.ifCond .eq 6, 3) := by decide +kernel
theorem dX8_refusalOfBytes_8 : decode cX8_refusalOfBytes 8 = .ok (.bipush (-11), 2) := by decide +kernel
theorem dX8_refusalOfBytes_10 : decode cX8_refusalOfBytes 10 = .ok (.ireturn, 1) := by decide +kernel
theorem dX8_refusalOfBytes_11 : decode cX8_refusalOfBytes 11 = .ok (.aload_n 0, 1) := by decide +kernel
theorem dX8_refusalOfBytes_12 : decode cX8_refusalOfBytes 12 = .ok (.iload_n 1, 1) := by decide +kernel
theorem dX8_refusalOfBytes_13 : decode cX8_refusalOfBytes 13 = .ok (.invokevirtual 42, 3) := by decide +kernel
theorem dX8_refusalOfBytes_16 : decode cX8_refusalOfBytes 16 = .ok (.ifCond .eq 7, 3) := by decide +kernel
theorem dX8_refusalOfBytes_19 : decode cX8_refusalOfBytes 19 = .ok (.iconst 0, 1) := by decide +kernel
theorem dX8_refusalOfBytes_20 : decode cX8_refusalOfBytes 20 = .ok (.goto 5, 3) := by decide +kernel
theorem dX8_refusalOfBytes_23 : decode cX8_refusalOfBytes 23 = .ok (.bipush (-12), 2) := by decide +kernel
theorem dX8_refusalOfBytes_25 : decode cX8_refusalOfBytes 25 = .ok (.ireturn, 1) := by decide +kernel
theorem dX8_refusalOfPlace_0 : decode cX8_refusalOfPlace 0 = .ok (.aload_n 0, 1) := by decide +kernel
theorem dX8_refusalOfPlace_1 : decode cX8_refusalOfPlace 1 = .ok (.iload_n 1, 1) := by decide +kernel
theorem dX8_refusalOfPlace_2 : decode cX8_refusalOfPlace 2 = .ok (.invokevirtual 39, 3) := by decide +kernel
theorem dX8_refusalOfPlace_5 : decode cX8_refusalOfPlace 5 = .ok (.ifCond .eq 6, 3) := by decide +kernel
theorem dX8_refusalOfPlace_8 : decode cX8_refusalOfPlace 8 = .ok (.bipush (-11), 2) := by decide +kernel
theorem dX8_refusalOfPlace_10 : decode cX8_refusalOfPlace 10 = .ok (.ireturn, 1) := by decide +kernel
theorem dX8_refusalOfPlace_11 : decode cX8_refusalOfPlace 11 = .ok (.aload_n 0, 1) := by decide +kernel
theorem dX8_refusalOfPlace_12 : decode cX8_refusalOfPlace 12 = .ok (.iload_n 1, 1) := by decide +kernel
theorem dX8_refusalOfPlace_13 : decode cX8_refusalOfPlace 13 = .ok (.invokevirtual 29, 3) := by decide +kernel
theorem dX8_refusalOfPlace_16 : decode cX8_refusalOfPlace 16 = .ok (.invokestatic 33, 3) := by decide +kernel
theorem dX8_refusalOfPlace_19 : decode cX8_refusalOfPlace 19 = .ok (.ifCond .ne 6, 3) := by decide +kernel
theorem dX8_refusalOfPlace_22 : decode cX8_refusalOfPlace 22 = .ok (.bipush (-12), 2) := by decide +kernel
theorem dX8_refusalOfPlace_24 : decode cX8_refusalOfPlace 24 = .ok (.ireturn, 1) := by decide +kernel
theorem dX8_refusalOfPlace_25 : decode cX8_refusalOfPlace 25 = .ok (.aload_n 0, 1) := by decide +kernel
theorem dX8_refusalOfPlace_26 : decode cX8_refusalOfPlace 26 = .ok (.iload_n 1, 1) := by decide +kernel
theorem dX8_refusalOfPlace_27 : decode cX8_refusalOfPlace 27 = .ok (.iload_n 2, 1) := by decide +kernel
theorem dX8_refusalOfPlace_28 : decode cX8_refusalOfPlace 28 = .ok (.iconst 1, 1) := by decide +kernel
theorem dX8_refusalOfPlace_29 : decode cX8_refusalOfPlace 29 = .ok (.invokevirtual 45, 3) := by decide +kernel
theorem dX8_refusalOfPlace_32 : decode cX8_refusalOfPlace 32 = .ok (.ifCond .eq 7, 3) := by decide +kernel
theorem dX8_refusalOfPlace_35 : decode cX8_refusalOfPlace 35 = .ok (.iconst 0, 1) := by decide +kernel
theorem dX8_refusalOfPlace_36 : decode cX8_refusalOfPlace 36 = .ok (.goto 5, 3) := by decide +kernel
theorem dX8_refusalOfPlace_39 : decode cX8_refusalOfPlace 39 = .ok (.bipush (-13), 2) := by decide +kernel
theorem dX8_refusalOfPlace_41 : decode cX8_refusalOfPlace 41 = .ok (.ireturn, 1) := by decide +kernel
theorem dX8_hasPlaces_0 : decode cX8_hasPlaces 0 = .ok (.iload_n 2, 1) := by decide +kernel
theorem dX8_hasPlaces_1 : decode cX8_hasPlaces 1 = .ok (.ifCond .lt 22, 3) := by decide +kernel
theorem dX8_hasPlaces_4 : decode cX8_hasPlaces 4 = .ok (.iload_n 3, 1) := by decide +kernel
theorem dX8_hasPlaces_5 : decode cX8_hasPlaces 5 = .ok (.ifCond .lt 18, 3) := by decide +kernel
theorem dX8_hasPlaces_8 : decode cX8_hasPlaces 8 = .ok (.iload_n 2, 1) := by decide +kernel
theorem dX8_hasPlaces_9 : decode cX8_hasPlaces 9 = .ok (.aload_n 0, 1) := by decide +kernel
theorem dX8_hasPlaces_10 : decode cX8_hasPlaces 10 = .ok (.iload_n 1, 1) := by decide +kernel
theorem dX8_hasPlaces_11 : decode cX8_hasPlaces 11 = .ok (.invokevirtual 49, 3) := by decide +kernel
theorem dX8_hasPlaces_14 : decode cX8_hasPlaces 14 = .ok (.iload_n 3, 1) := by decide +kernel
theorem dX8_hasPlaces_15 : decode cX8_hasPlaces 15 = .ok (.isub, 1) := by decide +kernel
theorem dX8_hasPlaces_16 : decode cX8_hasPlaces 16 = .ok (.if_icmp .gt 7, 3) := by decide +kernel
theorem dX8_hasPlaces_19 : decode cX8_hasPlaces 19 = .ok (.iconst 1, 1) := by decide +kernel
theorem dX8_hasPlaces_20 : decode cX8_hasPlaces 20 = .ok (.goto 4, 3) := by decide +kernel
theorem dX8_hasPlaces_23 : decode cX8_hasPlaces 23 = .ok (.iconst 0, 1) := by decide +kernel
theorem dX8_hasPlaces_24 : decode cX8_hasPlaces 24 = .ok (.ireturn, 1) := by decide +kernel
theorem dX8_holdNothing_0 : decode cX8_holdNothing 0 = .ok (.aload_n 0, 1) := by decide +kernel
theorem dX8_holdNothing_1 : decode cX8_holdNothing 1 = .ok (.iload_n 1, 1) := by decide +kernel
theorem dX8_holdNothing_2 : decode cX8_holdNothing 2 = .ok (.bipush 6, 2) := by decide +kernel
theorem dX8_holdNothing_4 : decode cX8_holdNothing 4 = .ok (.invokevirtual 52, 3) := by decide +kernel
theorem dX8_holdNothing_7 : decode cX8_holdNothing 7 = .ok (.return_, 1) := by decide +kernel
theorem dX8_holdNeedle_0 : decode cX8_holdNeedle 0 = .ok (.aload_n 0, 1) := by decide +kernel
theorem dX8_holdNeedle_1 : decode cX8_holdNeedle 1 = .ok (.iload_n 1, 1) := by decide +kernel
theorem dX8_holdNeedle_2 : decode cX8_holdNeedle 2 = .ok (.invokevirtual 25, 3) := by decide +kernel
theorem dX8_holdNeedle_5 : decode cX8_holdNeedle 5 = .ok (.ifCond .eq 16, 3) := by decide +kernel
theorem dX8_holdNeedle_8 : decode cX8_holdNeedle 8 = .ok (.aload_n 0, 1) := by decide +kernel
theorem dX8_holdNeedle_9 : decode cX8_holdNeedle 9 = .ok (.iload_n 1, 1) := by decide +kernel
theorem dX8_holdNeedle_10 : decode cX8_holdNeedle 10 = .ok (.iconst 5, 1) := by decide +kernel
theorem dX8_holdNeedle_11 : decode cX8_holdNeedle 11 = .ok (.invokevirtual 52, 3) := by decide +kernel
theorem dX8_holdNeedle_14 : decode cX8_holdNeedle 14 = .ok (.aload_n 0, 1) := by decide +kernel
theorem dX8_holdNeedle_15 : decode cX8_holdNeedle 15 = .ok (.getfield 18, 3) := by decide +kernel
theorem dX8_holdNeedle_18 : decode cX8_holdNeedle 18 = .ok (.iload_n 1, 1) := by decide +kernel
theorem dX8_holdNeedle_19 : decode cX8_holdNeedle 19 = .ok (.iload_n 2, 1) := by decide +kernel
theorem dX8_holdNeedle_20 : decode cX8_holdNeedle 20 = .ok (.iastore, 1) := by decide +kernel
theorem dX8_holdNeedle_21 : decode cX8_holdNeedle 21 = .ok (.return_, 1) := by decide +kernel
theorem dX8_holdRow_0 : decode cX8_holdRow 0 = .ok (.aload_n 0, 1) := by decide +kernel
theorem dX8_holdRow_1 : decode cX8_holdRow 1 = .ok (.iload_n 1, 1) := by decide +kernel
theorem dX8_holdRow_2 : decode cX8_holdRow 2 = .ok (.invokevirtual 25, 3) := by decide +kernel
theorem dX8_holdRow_5 : decode cX8_holdRow 5 = .ok (.ifCond .eq 54, 3) := by decide +kernel
theorem dX8_holdRow_8 : decode cX8_holdRow 8 = .ok (.iload_n 3, 1) := by decide +kernel
theorem dX8_holdRow_9 : decode cX8_holdRow 9 = .ok (.ifCond .lt 50, 3) := by decide +kernel
theorem dX8_holdRow_12 : decode cX8_holdRow 12 = .ok (.iload_n 3, 1) := by decide +kernel
theorem dX8_holdRow_13 : decode cX8_holdRow 13 = .ok (.bipush 60, 2) := by decide +kernel
theorem dX8_holdRow_15 : decode cX8_holdRow 15 = .ok (.if_icmp .gt 44, 3) := by decide +kernel
theorem dX8_holdRow_18 : decode cX8_holdRow 18 = .ok (.aload_n 0, 1) := by decide +kernel
theorem dX8_holdRow_19 : decode cX8_holdRow 19 = .ok (.iload_n 1, 1) := by decide +kernel
theorem dX8_holdRow_20 : decode cX8_holdRow 20 = .ok (.iload_n 2, 1) := by decide +kernel
theorem dX8_holdRow_21 : decode cX8_holdRow 21 = .ok (.invokevirtual 52, 3) := by decide +kernel
theorem dX8_holdRow_24 : decode cX8_holdRow 24 = .ok (.aload_n 0, 1) := by decide +kernel
theorem dX8_holdRow_25 : decode cX8_holdRow 25 = .ok (.getfield 15, 3) := by decide +kernel
theorem dX8_holdRow_28 : decode cX8_holdRow 28 = .ok (.iload_n 1, 1) := by decide +kernel
theorem dX8_holdRow_29 : decode cX8_holdRow 29 = .ok (.iload_n 3, 1) := by decide +kernel
theorem dX8_holdRow_30 : decode cX8_holdRow 30 = .ok (.iastore, 1) := by decide +kernel
theorem dX8_holdRow_31 : decode cX8_holdRow 31 = .ok (.iconst 0, 1) := by decide +kernel
theorem dX8_holdRow_32 : decode cX8_holdRow 32 = .ok (.istore 4, 2) := by decide +kernel
theorem dX8_holdRow_34 : decode cX8_holdRow 34 = .ok (.iload 4, 2) := by decide +kernel
theorem dX8_holdRow_36 : decode cX8_holdRow 36 = .ok (.iload_n 3, 1) := by decide +kernel
theorem dX8_holdRow_37 : decode cX8_holdRow 37 = .ok (.if_icmp .ge 22, 3) := by decide +kernel
theorem dX8_holdRow_40 : decode cX8_holdRow 40 = .ok (.aload_n 0, 1) := by decide +kernel
theorem dX8_holdRow_41 : decode cX8_holdRow 41 = .ok (.getfield 21, 3) := by decide +kernel
theorem dX8_holdRow_44 : decode cX8_holdRow 44 = .ok (.iload_n 1, 1) := by decide +kernel
theorem dX8_holdRow_45 : decode cX8_holdRow 45 = .ok (.bipush 60, 2) := by decide +kernel
theorem dX8_holdRow_47 : decode cX8_holdRow 47 = .ok (.imul, 1) := by decide +kernel
theorem dX8_holdRow_48 : decode cX8_holdRow 48 = .ok (.iload 4, 2) := by decide +kernel
theorem dX8_holdRow_50 : decode cX8_holdRow 50 = .ok (.iadd, 1) := by decide +kernel
theorem dX8_holdRow_51 : decode cX8_holdRow 51 = .ok (.lconst 0, 1) := by decide +kernel
theorem dX8_holdRow_52 : decode cX8_holdRow 52 = .ok (.lastore, 1) := by decide +kernel
theorem dX8_holdRow_53 : decode cX8_holdRow 53 = .ok (.iinc 4 1, 3) := by decide +kernel
theorem dX8_holdRow_56 : decode cX8_holdRow 56 = .ok (.goto (-22), 3) := by decide +kernel
theorem dX8_holdRow_59 : decode cX8_holdRow 59 = .ok (.return_, 1) := by decide +kernel
theorem dX8_hold_0 : decode cX8_hold 0 = .ok (.aload_n 0, 1) := by decide +kernel
theorem dX8_hold_1 : decode cX8_hold 1 = .ok (.iload_n 1, 1) := by decide +kernel
theorem dX8_hold_2 : decode cX8_hold 2 = .ok (.invokevirtual 25, 3) := by decide +kernel
theorem dX8_hold_5 : decode cX8_hold 5 = .ok (.ifCond .eq 17, 3) := by decide +kernel
theorem dX8_hold_8 : decode cX8_hold 8 = .ok (.aload_n 0, 1) := by decide +kernel
theorem dX8_hold_9 : decode cX8_hold 9 = .ok (.getfield 11, 3) := by decide +kernel
theorem dX8_hold_12 : decode cX8_hold 12 = .ok (.iload_n 1, 1) := by decide +kernel
theorem dX8_hold_13 : decode cX8_hold 13 = .ok (.iload_n 2, 1) := by decide +kernel
theorem dX8_hold_14 : decode cX8_hold 14 = .ok (.iastore, 1) := by decide +kernel
theorem dX8_hold_15 : decode cX8_hold 15 = .ok (.aload_n 0, 1) := by decide +kernel
theorem dX8_hold_16 : decode cX8_hold 16 = .ok (.getfield 15, 3) := by decide +kernel
theorem dX8_hold_19 : decode cX8_hold 19 = .ok (.iload_n 1, 1) := by decide +kernel
theorem dX8_hold_20 : decode cX8_hold 20 = .ok (.iconst 0, 1) := by decide +kernel
theorem dX8_hold_21 : decode cX8_hold 21 = .ok (.iastore, 1) := by decide +kernel
theorem dX8_hold_22 : decode cX8_hold 22 = .ok (.return_, 1) := by decide +kernel
theorem dX8_at_0 : decode cX8_at 0 = .ok (.aload_n 0, 1) := by decide +kernel
theorem dX8_at_1 : decode cX8_at 1 = .ok (.iload_n 1, 1) := by decide +kernel
theorem dX8_at_2 : decode cX8_at 2 = .ok (.iload_n 2, 1) := by decide +kernel
theorem dX8_at_3 : decode cX8_at 3 = .ok (.iconst 1, 1) := by decide +kernel
theorem dX8_at_4 : decode cX8_at 4 = .ok (.invokevirtual 45, 3) := by decide +kernel
theorem dX8_at_7 : decode cX8_at 7 = .ok (.ifCond .eq 17, 3) := by decide +kernel
theorem dX8_at_10 : decode cX8_at 10 = .ok (.aload_n 0, 1) := by decide +kernel
theorem dX8_at_11 : decode cX8_at 11 = .ok (.getfield 21, 3) := by decide +kernel
theorem dX8_at_14 : decode cX8_at 14 = .ok (.iload_n 1, 1) := by decide +kernel
theorem dX8_at_15 : decode cX8_at 15 = .ok (.bipush 60, 2) := by decide +kernel
theorem dX8_at_17 : decode cX8_at 17 = .ok (.imul, 1) := by decide +kernel
theorem dX8_at_18 : decode cX8_at 18 = .ok (.iload_n 2, 1) := by decide +kernel
theorem dX8_at_19 : decode cX8_at 19 = .ok (.iadd, 1) := by decide +kernel
theorem dX8_at_20 : decode cX8_at 20 = .ok (.laload, 1) := by decide +kernel
theorem dX8_at_21 : decode cX8_at 21 = .ok (.goto 4, 3) := by decide +kernel
theorem dX8_at_24 : decode cX8_at 24 = .ok (.lconst 0, 1) := by decide +kernel
theorem dX8_at_25 : decode cX8_at 25 = .ok (.lreturn, 1) := by decide +kernel
theorem dX8_setAt_0 : decode cX8_setAt 0 = .ok (.aload_n 0, 1) := by decide +kernel
theorem dX8_setAt_1 : decode cX8_setAt 1 = .ok (.iload_n 1, 1) := by decide +kernel
theorem dX8_setAt_2 : decode cX8_setAt 2 = .ok (.iload_n 2, 1) := by decide +kernel
theorem dX8_setAt_3 : decode cX8_setAt 3 = .ok (.iconst 1, 1) := by decide +kernel
theorem dX8_setAt_4 : decode cX8_setAt 4 = .ok (.invokevirtual 45, 3) := by decide +kernel
theorem dX8_setAt_7 : decode cX8_setAt 7 = .ok (.ifCond .eq 23, 3) := by decide +kernel
theorem dX8_setAt_10 : decode cX8_setAt 10 = .ok (.aload_n 0, 1) := by decide +kernel
theorem dX8_setAt_11 : decode cX8_setAt 11 = .ok (.getfield 21, 3) := by decide +kernel
theorem dX8_setAt_14 : decode cX8_setAt 14 = .ok (.iload_n 1, 1) := by decide +kernel
theorem dX8_setAt_15 : decode cX8_setAt 15 = .ok (.bipush 60, 2) := by decide +kernel
theorem dX8_setAt_17 : decode cX8_setAt 17 = .ok (.imul, 1) := by decide +kernel
theorem dX8_setAt_18 : decode cX8_setAt 18 = .ok (.iload_n 2, 1) := by decide +kernel
theorem dX8_setAt_19 : decode cX8_setAt 19 = .ok (.iadd, 1) := by decide +kernel
theorem dX8_setAt_20 : decode cX8_setAt 20 = .ok (.aload_n 0, 1) := by decide +kernel
theorem dX8_setAt_21 : decode cX8_setAt 21 = .ok (.iload_n 1, 1) := by decide +kernel
theorem dX8_setAt_22 : decode cX8_setAt 22 = .ok (.invokevirtual 29, 3) := by decide +kernel
theorem dX8_setAt_25 : decode cX8_setAt 25 = .ok (.lload_n 3, 1) := by decide +kernel
theorem dX8_setAt_26 : decode cX8_setAt 26 = .ok (.invokestatic 56, 3) := by decide +kernel
theorem dX8_setAt_29 : decode cX8_setAt 29 = .ok (.lastore, 1) := by decide +kernel
theorem dX8_setAt_30 : decode cX8_setAt 30 = .ok (.return_, 1) := by decide +kernel
theorem dX8_lowestBits_0 : decode cX8_lowestBits 0 = .ok (.iload_n 0, 1) := by decide +kernel
theorem dX8_lowestBits_1 : decode cX8_lowestBits 1 = .ok (.tableswitch 61 0 4 #[35, 40, 45, 61, 49], 35) := by decide +kernel
theorem dX8_lowestBits_36 : decode cX8_lowestBits 36 = .ok (.lload_n 1, 1) := by decide +kernel
theorem dX8_lowestBits_37 : decode cX8_lowestBits 37 = .ok (.l2i, 1) := by decide +kernel
theorem dX8_lowestBits_38 : decode cX8_lowestBits 38 = .ok (.i2b, 1) := by decide +kernel
theorem dX8_lowestBits_39 : decode cX8_lowestBits 39 = .ok (.i2l, 1) := by decide +kernel
theorem dX8_lowestBits_40 : decode cX8_lowestBits 40 = .ok (.lreturn, 1) := by decide +kernel
theorem dX8_lowestBits_41 : decode cX8_lowestBits 41 = .ok (.lload_n 1, 1) := by decide +kernel
theorem dX8_lowestBits_42 : decode cX8_lowestBits 42 = .ok (.l2i, 1) := by decide +kernel
theorem dX8_lowestBits_43 : decode cX8_lowestBits 43 = .ok (.i2s, 1) := by decide +kernel
theorem dX8_lowestBits_44 : decode cX8_lowestBits 44 = .ok (.i2l, 1) := by decide +kernel
theorem dX8_lowestBits_45 : decode cX8_lowestBits 45 = .ok (.lreturn, 1) := by decide +kernel
theorem dX8_lowestBits_46 : decode cX8_lowestBits 46 = .ok (.lload_n 1, 1) := by decide +kernel
theorem dX8_lowestBits_47 : decode cX8_lowestBits 47 = .ok (.l2i, 1) := by decide +kernel
theorem dX8_lowestBits_48 : decode cX8_lowestBits 48 = .ok (.i2l, 1) := by decide +kernel
theorem dX8_lowestBits_49 : decode cX8_lowestBits 49 = .ok (.lreturn, 1) := by decide +kernel
theorem dX8_lowestBits_50 : decode cX8_lowestBits 50 = .ok (.lload_n 1, 1) := by decide +kernel
theorem dX8_lowestBits_51 : decode cX8_lowestBits 51 = .ok (.lconst 0, 1) := by decide +kernel
theorem dX8_lowestBits_52 : decode cX8_lowestBits 52 = .ok (.lcmp, 1) := by decide +kernel
theorem dX8_lowestBits_53 : decode cX8_lowestBits 53 = .ok (.ifCond .eq 7, 3) := by decide +kernel
theorem dX8_lowestBits_56 : decode cX8_lowestBits 56 = .ok (.lconst 1, 1) := by decide +kernel
theorem dX8_lowestBits_57 : decode cX8_lowestBits 57 = .ok (.goto 4, 3) := by decide +kernel
theorem dX8_lowestBits_60 : decode cX8_lowestBits 60 = .ok (.lconst 0, 1) := by decide +kernel
theorem dX8_lowestBits_61 : decode cX8_lowestBits 61 = .ok (.lreturn, 1) := by decide +kernel
theorem dX8_lowestBits_62 : decode cX8_lowestBits 62 = .ok (.lload_n 1, 1) := by decide +kernel
theorem dX8_lowestBits_63 : decode cX8_lowestBits 63 = .ok (.lreturn, 1) := by decide +kernel
theorem dX8_copy_0 : decode cX8_copy 0 = .ok (.aload_n 0, 1) := by decide +kernel
theorem dX8_copy_1 : decode cX8_copy 1 = .ok (.iload_n 1, 1) := by decide +kernel
theorem dX8_copy_2 : decode cX8_copy 2 = .ok (.iload_n 2, 1) := by decide +kernel
theorem dX8_copy_3 : decode cX8_copy 3 = .ok (.iload 5, 2) := by decide +kernel
theorem dX8_copy_5 : decode cX8_copy 5 = .ok (.invokevirtual 45, 3) := by decide +kernel
theorem dX8_copy_8 : decode cX8_copy 8 = .ok (.ifCond .eq 41, 3) := by decide +kernel
theorem dX8_copy_11 : decode cX8_copy 11 = .ok (.aload_n 0, 1) := by decide +kernel
theorem dX8_copy_12 : decode cX8_copy 12 = .ok (.iload_n 3, 1) := by decide +kernel
theorem dX8_copy_13 : decode cX8_copy 13 = .ok (.iload 4, 2) := by decide +kernel
theorem dX8_copy_15 : decode cX8_copy 15 = .ok (.iload 5, 2) := by decide +kernel
theorem dX8_copy_17 : decode cX8_copy 17 = .ok (.invokevirtual 45, 3) := by decide +kernel
theorem dX8_copy_20 : decode cX8_copy 20 = .ok (.ifCond .eq 29, 3) := by decide +kernel
theorem dX8_copy_23 : decode cX8_copy 23 = .ok (.aload_n 0, 1) := by decide +kernel
theorem dX8_copy_24 : decode cX8_copy 24 = .ok (.getfield 21, 3) := by decide +kernel
theorem dX8_copy_27 : decode cX8_copy 27 = .ok (.iload_n 1, 1) := by decide +kernel
theorem dX8_copy_28 : decode cX8_copy 28 = .ok (.bipush 60, 2) := by decide +kernel
theorem dX8_copy_30 : decode cX8_copy 30 = .ok (.imul, 1) := by decide +kernel
theorem dX8_copy_31 : decode cX8_copy 31 = .ok (.iload_n 2, 1) := by decide +kernel
theorem dX8_copy_32 : decode cX8_copy 32 = .ok (.iadd, 1) := by decide +kernel
theorem dX8_copy_33 : decode cX8_copy 33 = .ok (.aload_n 0, 1) := by decide +kernel
theorem dX8_copy_34 : decode cX8_copy 34 = .ok (.getfield 21, 3) := by decide +kernel
theorem dX8_copy_37 : decode cX8_copy 37 = .ok (.iload_n 3, 1) := by decide +kernel
theorem dX8_copy_38 : decode cX8_copy 38 = .ok (.bipush 60, 2) := by decide +kernel
theorem dX8_copy_40 : decode cX8_copy 40 = .ok (.imul, 1) := by decide +kernel
theorem dX8_copy_41 : decode cX8_copy 41 = .ok (.iload 4, 2) := by decide +kernel
theorem dX8_copy_43 : decode cX8_copy 43 = .ok (.iadd, 1) := by decide +kernel
theorem dX8_copy_44 : decode cX8_copy 44 = .ok (.iload 5, 2) := by decide +kernel
theorem dX8_copy_46 : decode cX8_copy 46 = .ok (.invokestatic 60, 3) := by decide +kernel
theorem dX8_copy_49 : decode cX8_copy 49 = .ok (.return_, 1) := by decide +kernel
theorem dX9_init_0 : decode cX9_init 0 = .ok (.aload_n 0, 1) := by decide +kernel
theorem dX9_init_1 : decode cX9_init 1 = .ok (.invokespecial 3, 3) := by decide +kernel
theorem dX9_init_4 : decode cX9_init 4 = .ok (.aload_n 0, 1) := by decide +kernel
theorem dX9_init_5 : decode cX9_init 5 = .ok (.new 9, 3) := by decide +kernel
theorem dX9_init_8 : decode cX9_init 8 = .ok (.dup, 1) := by decide +kernel
theorem dX9_init_9 : decode cX9_init 9 = .ok (.invokespecial 11, 3) := by decide +kernel
theorem dX9_init_12 : decode cX9_init 12 = .ok (.putfield 12, 3) := by decide +kernel
theorem dX9_init_15 : decode cX9_init 15 = .ok (.aload_n 0, 1) := by decide +kernel
theorem dX9_init_16 : decode cX9_init 16 = .ok (.bipush 8, 2) := by decide +kernel
theorem dX9_init_18 : decode cX9_init 18 = .ok (.putfield 18, 3) := by decide +kernel
theorem dX9_init_21 : decode cX9_init 21 = .ok (.aload_n 0, 1) := by decide +kernel
theorem dX9_init_22 : decode cX9_init 22 = .ok (.iconst 0, 1) := by decide +kernel
theorem dX9_init_23 : decode cX9_init 23 = .ok (.putfield 22, 3) := by decide +kernel
theorem dX9_init_26 : decode cX9_init 26 = .ok (.aload_n 0, 1) := by decide +kernel
theorem dX9_init_27 : decode cX9_init 27 = .ok (.iconst 0, 1) := by decide +kernel
theorem dX9_init_28 : decode cX9_init 28 = .ok (.putfield 25, 3) := by decide +kernel
theorem dX9_init_31 : decode cX9_init 31 = .ok (.aload_n 0, 1) := by decide +kernel
theorem dX9_init_32 : decode cX9_init 32 = .ok (.iconst 0, 1) := by decide +kernel
theorem dX9_init_33 : decode cX9_init 33 = .ok (.putfield 28, 3) := by decide +kernel
theorem dX9_init_36 : decode cX9_init 36 = .ok (.aload_n 0, 1) := by decide +kernel
theorem dX9_init_37 : decode cX9_init 37 = .ok (.iconst 0, 1) := by decide +kernel
theorem dX9_init_38 : decode cX9_init 38 = .ok (.putfield 31, 3) := by decide +kernel
theorem dX9_init_41 : decode cX9_init 41 = .ok (.aload_n 0, 1) := by decide +kernel
theorem dX9_init_42 : decode cX9_init 42 = .ok (.iconst 0, 1) := by decide +kernel
theorem dX9_init_43 : decode cX9_init 43 = .ok (.putfield 34, 3) := by decide +kernel
theorem dX9_init_46 : decode cX9_init 46 = .ok (.aload_n 0, 1) := by decide +kernel
theorem dX9_init_47 : decode cX9_init 47 = .ok (.new 37, 3) := by decide +kernel
theorem dX9_init_50 : decode cX9_init 50 = .ok (.dup, 1) := by decide +kernel
theorem dX9_init_51 : decode cX9_init 51 = .ok (.invokespecial 39, 3) := by decide +kernel
theorem dX9_init_54 : decode cX9_init 54 = .ok (.putfield 40, 3) := by decide +kernel
theorem dX9_init_57 : decode cX9_init 57 = .ok (.aload_n 0, 1) := by decide +kernel
theorem dX9_init_58 : decode cX9_init 58 = .ok (.bipush 19, 2) := by decide +kernel
theorem dX9_init_60 : decode cX9_init 60 = .ok (.newarray .int, 2) := by decide +kernel
theorem dX9_init_62 : decode cX9_init 62 = .ok (.putfield 44, 3) := by decide +kernel
theorem dX9_init_65 : decode cX9_init 65 = .ok (.aload_n 0, 1) := by decide +kernel
theorem dX9_init_66 : decode cX9_init 66 = .ok (.aload_n 1, 1) := by decide +kernel
theorem dX9_init_67 : decode cX9_init 67 = .ok (.putfield 48, 3) := by decide +kernel
theorem dX9_init_70 : decode cX9_init 70 = .ok (.aload_n 0, 1) := by decide +kernel
theorem dX9_init_71 : decode cX9_init 71 = .ok (.aload_n 2, 1) := by decide +kernel
theorem dX9_init_72 : decode cX9_init 72 = .ok (.putfield 51, 3) := by decide +kernel
theorem dX9_init_75 : decode cX9_init 75 = .ok (.aload_n 0, 1) := by decide +kernel
theorem dX9_init_76 : decode cX9_init 76 = .ok (.aload_n 3, 1) := by decide +kernel
theorem dX9_init_77 : decode cX9_init 77 = .ok (.putfield 55, 3) := by decide +kernel
theorem dX9_init_80 : decode cX9_init 80 = .ok (.return_, 1) := by decide +kernel
theorem dX9_begin_0 : decode cX9_begin 0 = .ok (.aload_n 0, 1) := by decide +kernel
theorem dX9_begin_1 : decode cX9_begin 1 = .ok (.getfield 12, 3) := by decide +kernel
theorem dX9_begin_4 : decode cX9_begin 4 = .ok (.aload_n 0, 1) := by decide +kernel
theorem dX9_begin_5 : decode cX9_begin 5 = .ok (.getfield 48, 3) := by decide +kernel
theorem dX9_begin_8 : decode cX9_begin 8 = .ok (.invokevirtual 59, 3) := by decide +kernel
theorem dX9_begin_11 : decode cX9_begin 11 = .ok (.return_, 1) := by decide +kernel
theorem dX9_goOn_0 : decode cX9_goOn 0 = .ok (.iconst 0, 1) := by decide +kernel
theorem dX9_goOn_1 : decode cX9_goOn 1 = .ok (.istore_n 2, 1) := by decide +kernel
theorem dX9_goOn_2 : decode cX9_goOn 2 = .ok (.iconst 0, 1) := by decide +kernel
theorem dX9_goOn_3 : decode cX9_goOn 3 = .ok (.istore_n 3, 1) := by decide +kernel
theorem dX9_goOn_4 : decode cX9_goOn 4 = .ok (.iload_n 3, 1) := by decide +kernel
theorem dX9_goOn_5 : decode cX9_goOn 5 = .ok (.iload_n 1, 1) := by decide +kernel
theorem dX9_goOn_6 : decode cX9_goOn 6 = .ok (.if_icmp .ge 27, 3) := by decide +kernel
theorem dX9_goOn_9 : decode cX9_goOn 9 = .ok (.iload_n 2, 1) := by decide +kernel
theorem dX9_goOn_10 : decode cX9_goOn 10 = .ok (.aload_n 0, 1) := by decide +kernel
theorem dX9_goOn_11 : decode cX9_goOn 11 = .ok (.getfield 40, 3) := by decide +kernel
theorem dX9_goOn_14 : decode cX9_goOn 14 = .ok (.aload_n 0, 1) := by decide +kernel
theorem dX9_goOn_15 : decode cX9_goOn 15 = .ok (.getfield 12, 3) := by decide +kernel
theorem dX9_goOn_18 : decode cX9_goOn 18 = .ok (.aload_n 0, 1) := by decide +kernel
theorem dX9_goOn_19 : decode cX9_goOn 19 = .ok (.getfield 51, 3) := by decide +kernel
theorem dX9_goOn_22 : decode cX9_goOn 22 = .ok (.invokevirtual 63, 3) := by decide +kernel
theorem dX9_goOn_25 : decode cX9_goOn 25 = .ok (.iadd, 1) := by decide +kernel
theorem dX9_goOn_26 : decode cX9_goOn 26 = .ok (.istore_n 2, 1) := by decide +kernel
theorem dX9_goOn_27 : decode cX9_goOn 27 = .ok (.iinc 3 1, 3) := by decide +kernel
theorem dX9_goOn_30 : decode cX9_goOn 30 = .ok (.goto (-26), 3) := by decide +kernel
theorem dX9_goOn_33 : decode cX9_goOn 33 = .ok (.iload_n 2, 1) := by decide +kernel
theorem dX9_goOn_34 : decode cX9_goOn 34 = .ok (.ireturn, 1) := by decide +kernel
theorem dX9_daysFed_0 : decode cX9_daysFed 0 = .ok (.iconst 0, 1) := by decide +kernel
theorem dX9_daysFed_1 : decode cX9_daysFed 1 = .ok (.istore_n 2, 1) := by decide +kernel
theorem dX9_daysFed_2 : decode cX9_daysFed 2 = .ok (.iload_n 2, 1) := by decide +kernel
theorem dX9_daysFed_3 : decode cX9_daysFed 3 = .ok (.bipush 40, 2) := by decide +kernel
theorem dX9_daysFed_5 : decode cX9_daysFed 5 = .ok (.if_icmp .ge 40, 3) := by decide +kernel
theorem dX9_daysFed_8 : decode cX9_daysFed 8 = .ok (.aload_n 0, 1) := by decide +kernel
theorem dX9_daysFed_9 : decode cX9_daysFed 9 = .ok (.getfield 40, 3) := by decide +kernel
theorem dX9_daysFed_12 : decode cX9_daysFed 12 = .ok (.aload_n 0, 1) := by decide +kernel
theorem dX9_daysFed_13 : decode cX9_daysFed 13 = .ok (.getfield 12, 3) := by decide +kernel
theorem dX9_daysFed_16 : decode cX9_daysFed 16 = .ok (.aload_n 0, 1) := by decide +kernel
theorem dX9_daysFed_17 : decode cX9_daysFed 17 = .ok (.getfield 51, 3) := by decide +kernel
theorem dX9_daysFed_20 : decode cX9_daysFed 20 = .ok (.invokevirtual 63, 3) := by decide +kernel
theorem dX9_daysFed_23 : decode cX9_daysFed 23 = .ok (.pop, 1) := by decide +kernel
theorem dX9_daysFed_24 : decode cX9_daysFed 24 = .ok (.aload_n 0, 1) := by decide +kernel
theorem dX9_daysFed_25 : decode cX9_daysFed 25 = .ok (.getfield 40, 3) := by decide +kernel
theorem dX9_daysFed_28 : decode cX9_daysFed 28 = .ok (.iload_n 1, 1) := by decide +kernel
theorem dX9_daysFed_29 : decode cX9_daysFed 29 = .ok (.invokevirtual 67, 3) := by decide +kernel
theorem dX9_daysFed_32 : decode cX9_daysFed 32 = .ok (.bipush 8, 2) := by decide +kernel
theorem dX9_daysFed_34 : decode cX9_daysFed 34 = .ok (.if_icmp .ne 5, 3) := by decide +kernel
theorem dX9_daysFed_37 : decode cX9_daysFed 37 = .ok (.iload_n 2, 1) := by decide +kernel
theorem dX9_daysFed_38 : decode cX9_daysFed 38 = .ok (.ireturn, 1) := by decide +kernel
theorem dX9_daysFed_39 : decode cX9_daysFed 39 = .ok (.iinc 2 1, 3) := by decide +kernel
theorem dX9_daysFed_42 : decode cX9_daysFed 42 = .ok (.goto (-40), 3) := by decide +kernel
theorem dX9_daysFed_45 : decode cX9_daysFed 45 = .ok (.bipush 40, 2) := by decide +kernel
theorem dX9_daysFed_47 : decode cX9_daysFed 47 = .ok (.ireturn, 1) := by decide +kernel
theorem dX9_seekWorth_0 : decode cX9_seekWorth 0 = .ok (.aload_n 0, 1) := by decide +kernel
theorem dX9_seekWorth_1 : decode cX9_seekWorth 1 = .ok (.bipush 8, 2) := by decide +kernel
theorem dX9_seekWorth_3 : decode cX9_seekWorth 3 = .ok (.putfield 18, 3) := by decide +kernel
theorem dX9_seekWorth_6 : decode cX9_seekWorth 6 = .ok (.aload_n 0, 1) := by decide +kernel
theorem dX9_seekWorth_7 : decode cX9_seekWorth 7 = .ok (.bipush 100, 2) := by decide +kernel
theorem dX9_seekWorth_9 : decode cX9_seekWorth 9 = .ok (.putfield 22, 3) := by decide +kernel
theorem dX9_seekWorth_12 : decode cX9_seekWorth 12 = .ok (.iconst 0, 1) := by decide +kernel
theorem dX9_seekWorth_13 : decode cX9_seekWorth 13 = .ok (.istore_n 3, 1) := by decide +kernel
theorem dX9_seekWorth_14 : decode cX9_seekWorth 14 = .ok (.iload_n 3, 1) := by decide +kernel
theorem dX9_seekWorth_15 : decode cX9_seekWorth 15 = .ok (.aload_n 0, 1) := by decide +kernel
theorem dX9_seekWorth_16 : decode cX9_seekWorth 16 = .ok (.getfield 48, 3) := by decide +kernel
theorem dX9_seekWorth_19 : decode cX9_seekWorth 19 = .ok (.getfield 71, 3) := by decide +kernel
theorem dX9_seekWorth_22 : decode cX9_seekWorth 22 = .ok (.if_icmp .ge 70, 3) := by decide +kernel
theorem dX9_seekWorth_25 : decode cX9_seekWorth 25 = .ok (.iload_n 3, 1) := by decide +kernel
theorem dX9_seekWorth_26 : decode cX9_seekWorth 26 = .ok (.iload_n 1, 1) := by decide +kernel
theorem dX9_seekWorth_27 : decode cX9_seekWorth 27 = .ok (.if_icmp .ne 6, 3) := by decide +kernel
theorem dX9_seekWorth_30 : decode cX9_seekWorth 30 = .ok (.goto 56, 3) := by decide +kernel
theorem dX9_seekWorth_33 : decode cX9_seekWorth 33 = .ok (.aload_n 0, 1) := by decide +kernel
theorem dX9_seekWorth_34 : decode cX9_seekWorth 34 = .ok (.invokevirtual 74, 3) := by decide +kernel
theorem dX9_seekWorth_37 : decode cX9_seekWorth 37 = .ok (.aload_n 0, 1) := by decide +kernel
theorem dX9_seekWorth_38 : decode cX9_seekWorth 38 = .ok (.getfield 12, 3) := by decide +kernel
theorem dX9_seekWorth_41 : decode cX9_seekWorth 41 = .ok (.iload_n 3, 1) := by decide +kernel
theorem dX9_seekWorth_42 : decode cX9_seekWorth 42 = .ok (.iload_n 1, 1) := by decide +kernel
theorem dX9_seekWorth_43 : decode cX9_seekWorth 43 = .ok (.bipush (-9), 2) := by decide +kernel
theorem dX9_seekWorth_45 : decode cX9_seekWorth 45 = .ok (.invokevirtual 77, 3) := by decide +kernel
theorem dX9_seekWorth_48 : decode cX9_seekWorth 48 = .ok (.aload_n 0, 1) := by decide +kernel
theorem dX9_seekWorth_49 : decode cX9_seekWorth 49 = .ok (.iload_n 2, 1) := by decide +kernel
theorem dX9_seekWorth_50 : decode cX9_seekWorth 50 = .ok (.invokevirtual 81, 3) := by decide +kernel
theorem dX9_seekWorth_53 : decode cX9_seekWorth 53 = .ok (.pop, 1) := by decide +kernel
theorem dX9_seekWorth_54 : decode cX9_seekWorth 54 = .ok (.aload_n 0, 1) := by decide +kernel
theorem dX9_seekWorth_55 : decode cX9_seekWorth 55 = .ok (.getfield 12, 3) := by decide +kernel
theorem dX9_seekWorth_58 : decode cX9_seekWorth 58 = .ok (.iload_n 1, 1) := by decide +kernel
theorem dX9_seekWorth_59 : decode cX9_seekWorth 59 = .ok (.invokevirtual 84, 3) := by decide +kernel
theorem dX9_seekWorth_62 : decode cX9_seekWorth 62 = .ok (.aload_n 0, 1) := by decide +kernel
theorem dX9_seekWorth_63 : decode cX9_seekWorth 63 = .ok (.getfield 22, 3) := by decide +kernel
theorem dX9_seekWorth_66 : decode cX9_seekWorth 66 = .ok (.if_icmp .ge 20, 3) := by decide +kernel
theorem dX9_seekWorth_69 : decode cX9_seekWorth 69 = .ok (.aload_n 0, 1) := by decide +kernel
theorem dX9_seekWorth_70 : decode cX9_seekWorth 70 = .ok (.iload_n 3, 1) := by decide +kernel
theorem dX9_seekWorth_71 : decode cX9_seekWorth 71 = .ok (.putfield 18, 3) := by decide +kernel
theorem dX9_seekWorth_74 : decode cX9_seekWorth 74 = .ok (.aload_n 0, 1) := by decide +kernel
theorem dX9_seekWorth_75 : decode cX9_seekWorth 75 = .ok (.aload_n 0, 1) := by decide +kernel
theorem dX9_seekWorth_76 : decode cX9_seekWorth 76 = .ok (.getfield 12, 3) := by decide +kernel
theorem dX9_seekWorth_79 : decode cX9_seekWorth 79 = .ok (.iload_n 1, 1) := by decide +kernel
theorem dX9_seekWorth_80 : decode cX9_seekWorth 80 = .ok (.invokevirtual 84, 3) := by decide +kernel
theorem dX9_seekWorth_83 : decode cX9_seekWorth 83 = .ok (.putfield 22, 3) := by decide +kernel
theorem dX9_seekWorth_86 : decode cX9_seekWorth 86 = .ok (.iinc 3 1, 3) := by decide +kernel
theorem dX9_seekWorth_89 : decode cX9_seekWorth 89 = .ok (.goto (-75), 3) := by decide +kernel
theorem dX9_seekWorth_92 : decode cX9_seekWorth 92 = .ok (.return_, 1) := by decide +kernel
theorem dX9_firstUnlike_0 : decode cX9_firstUnlike 0 = .ok (.aload_n 0, 1) := by decide +kernel
theorem dX9_firstUnlike_1 : decode cX9_firstUnlike 1 = .ok (.getfield 55, 3) := by decide +kernel
theorem dX9_firstUnlike_4 : decode cX9_firstUnlike 4 = .ok (.iload_n 1, 1) := by decide +kernel
theorem dX9_firstUnlike_5 : decode cX9_firstUnlike 5 = .ok (.invokevirtual 87, 3) := by decide +kernel
theorem dX9_firstUnlike_8 : decode cX9_firstUnlike 8 = .ok (.bipush 40, 2) := by decide +kernel
theorem dX9_firstUnlike_10 : decode cX9_firstUnlike 10 = .ok (.invokestatic 92, 3) := by decide +kernel
theorem dX9_firstUnlike_13 : decode cX9_firstUnlike 13 = .ok (.istore_n 3, 1) := by decide +kernel
theorem dX9_firstUnlike_14 : decode cX9_firstUnlike 14 = .ok (.iconst 0, 1) := by decide +kernel
theorem dX9_firstUnlike_15 : decode cX9_firstUnlike 15 = .ok (.istore 4, 2) := by decide +kernel
theorem dX9_firstUnlike_17 : decode cX9_firstUnlike 17 = .ok (.iload 4, 2) := by decide +kernel
theorem dX9_firstUnlike_19 : decode cX9_firstUnlike 19 = .ok (.iload_n 3, 1) := by decide +kernel
theorem dX9_firstUnlike_20 : decode cX9_firstUnlike 20 = .ok (.if_icmp .ge 64, 3) := by decide +kernel
theorem dX9_firstUnlike_23 : decode cX9_firstUnlike 23 = .ok (.aload_n 0, 1) := by decide +kernel
theorem dX9_firstUnlike_24 : decode cX9_firstUnlike 24 = .ok (.getfield 55, 3) := by decide +kernel
theorem dX9_firstUnlike_27 : decode cX9_firstUnlike 27 = .ok (.iload_n 1, 1) := by decide +kernel
theorem dX9_firstUnlike_28 : decode cX9_firstUnlike 28 = .ok (.iload 4, 2) := by decide +kernel
theorem dX9_firstUnlike_30 : decode cX9_firstUnlike 30 = .ok (.invokevirtual 98, 3) := by decide +kernel
theorem dX9_firstUnlike_33 : decode cX9_firstUnlike 33 = .ok (.lstore 5, 2) := by decide +kernel
theorem dX9_firstUnlike_35 : decode cX9_firstUnlike 35 = .ok (.aload_n 0, 1) := by decide +kernel
theorem dX9_firstUnlike_36 : decode cX9_firstUnlike 36 = .ok (.getfield 40, 3) := by decide +kernel
theorem dX9_firstUnlike_39 : decode cX9_firstUnlike 39 = .ok (.aload_n 0, 1) := by decide +kernel
theorem dX9_firstUnlike_40 : decode cX9_firstUnlike 40 = .ok (.getfield 12, 3) := by decide +kernel
theorem dX9_firstUnlike_43 : decode cX9_firstUnlike 43 = .ok (.aload_n 0, 1) := by decide +kernel
theorem dX9_firstUnlike_44 : decode cX9_firstUnlike 44 = .ok (.getfield 51, 3) := by decide +kernel
theorem dX9_firstUnlike_47 : decode cX9_firstUnlike 47 = .ok (.invokevirtual 63, 3) := by decide +kernel
theorem dX9_firstUnlike_50 : decode cX9_firstUnlike 50 = .ok (.pop, 1) := by decide +kernel
theorem dX9_firstUnlike_51 : decode cX9_firstUnlike 51 = .ok (.lload 5, 2) := by decide +kernel
theorem dX9_firstUnlike_53 : decode cX9_firstUnlike 53 = .ok (.ldc2_w 102, 3) := by decide +kernel
theorem dX9_firstUnlike_56 : decode cX9_firstUnlike 56 = .ok (.lcmp, 1) := by decide +kernel
theorem dX9_firstUnlike_57 : decode cX9_firstUnlike 57 = .ok (.ifCond .eq 21, 3) := by decide +kernel
theorem dX9_firstUnlike_60 : decode cX9_firstUnlike 60 = .ok (.lload 5, 2) := by decide +kernel
theorem dX9_firstUnlike_62 : decode cX9_firstUnlike 62 = .ok (.aload_n 0, 1) := by decide +kernel
theorem dX9_firstUnlike_63 : decode cX9_firstUnlike 63 = .ok (.getfield 40, 3) := by decide +kernel
theorem dX9_firstUnlike_66 : decode cX9_firstUnlike 66 = .ok (.iload_n 2, 1) := by decide +kernel
theorem dX9_firstUnlike_67 : decode cX9_firstUnlike 67 = .ok (.invokevirtual 67, 3) := by decide +kernel
theorem dX9_firstUnlike_70 : decode cX9_firstUnlike 70 = .ok (.i2l, 1) := by decide +kernel
theorem dX9_firstUnlike_71 : decode cX9_firstUnlike 71 = .ok (.lcmp, 1) := by decide +kernel
theorem dX9_firstUnlike_72 : decode cX9_firstUnlike 72 = .ok (.ifCond .eq 6, 3) := by decide +kernel
theorem dX9_firstUnlike_75 : decode cX9_firstUnlike 75 = .ok (.iload 4, 2) := by decide +kernel
theorem dX9_firstUnlike_77 : decode cX9_firstUnlike 77 = .ok (.ireturn, 1) := by decide +kernel
theorem dX9_firstUnlike_78 : decode cX9_firstUnlike 78 = .ok (.iinc 4 1, 3) := by decide +kernel
theorem dX9_firstUnlike_81 : decode cX9_firstUnlike 81 = .ok (.goto (-64), 3) := by decide +kernel
theorem dX9_firstUnlike_84 : decode cX9_firstUnlike 84 = .ok (.bipush (-2), 2) := by decide +kernel
theorem dX9_firstUnlike_86 : decode cX9_firstUnlike 86 = .ok (.ireturn, 1) := by decide +kernel
theorem dX9_tryNumbers_0 : decode cX9_tryNumbers 0 = .ok (.aload_n 0, 1) := by decide +kernel
theorem dX9_tryNumbers_1 : decode cX9_tryNumbers 1 = .ok (.iconst 0, 1) := by decide +kernel
theorem dX9_tryNumbers_2 : decode cX9_tryNumbers 2 = .ok (.putfield 31, 3) := by decide +kernel
theorem dX9_tryNumbers_5 : decode cX9_tryNumbers 5 = .ok (.aload_n 0, 1) := by decide +kernel
theorem dX9_tryNumbers_6 : decode cX9_tryNumbers 6 = .ok (.iload 5, 2) := by decide +kernel
theorem dX9_tryNumbers_8 : decode cX9_tryNumbers 8 = .ok (.putfield 34, 3) := by decide +kernel
theorem dX9_tryNumbers_11 : decode cX9_tryNumbers 11 = .ok (.iload 5, 2) := by decide +kernel
theorem dX9_tryNumbers_13 : decode cX9_tryNumbers 13 = .ok (.istore 6, 2) := by decide +kernel
theorem dX9_tryNumbers_15 : decode cX9_tryNumbers 15 = .ok (.iload 6, 2) := by decide +kernel
theorem dX9_tryNumbers_17 : decode cX9_tryNumbers 17 = .ok (.iload 4, 2) := by decide +kernel
theorem dX9_tryNumbers_19 : decode cX9_tryNumbers 19 = .ok (.if_icmp .lt 50, 3) := by decide +kernel
theorem dX9_tryNumbers_22 : decode cX9_tryNumbers 22 = .ok (.aload_n 0, 1) := by decide +kernel
theorem dX9_tryNumbers_23 : decode cX9_tryNumbers 23 = .ok (.invokevirtual 74, 3) := by decide +kernel
theorem dX9_tryNumbers_26 : decode cX9_tryNumbers 26 = .ok (.aload_n 0, 1) := by decide +kernel
theorem dX9_tryNumbers_27 : decode cX9_tryNumbers 27 = .ok (.getfield 12, 3) := by decide +kernel
theorem dX9_tryNumbers_30 : decode cX9_tryNumbers 30 = .ok (.iload_n 3, 1) := by decide +kernel
theorem dX9_tryNumbers_31 : decode cX9_tryNumbers 31 = .ok (.iload 6, 2) := by decide +kernel
theorem dX9_tryNumbers_33 : decode cX9_tryNumbers 33 = .ok (.invokevirtual 104, 3) := by decide +kernel
theorem dX9_tryNumbers_36 : decode cX9_tryNumbers 36 = .ok (.aload_n 0, 1) := by decide +kernel
theorem dX9_tryNumbers_37 : decode cX9_tryNumbers 37 = .ok (.iload_n 1, 1) := by decide +kernel
theorem dX9_tryNumbers_38 : decode cX9_tryNumbers 38 = .ok (.iload_n 2, 1) := by decide +kernel
theorem dX9_tryNumbers_39 : decode cX9_tryNumbers 39 = .ok (.invokevirtual 108, 3) := by decide +kernel
theorem dX9_tryNumbers_42 : decode cX9_tryNumbers 42 = .ok (.bipush (-2), 2) := by decide +kernel
theorem dX9_tryNumbers_44 : decode cX9_tryNumbers 44 = .ok (.if_icmp .ne 19, 3) := by decide +kernel
theorem dX9_tryNumbers_47 : decode cX9_tryNumbers 47 = .ok (.aload_n 0, 1) := by decide +kernel
theorem dX9_tryNumbers_48 : decode cX9_tryNumbers 48 = .ok (.dup, 1) := by decide +kernel
theorem dX9_tryNumbers_49 : decode cX9_tryNumbers 49 = .ok (.getfield 31, 3) := by decide +kernel
theorem dX9_tryNumbers_52 : decode cX9_tryNumbers 52 = .ok (.iconst 1, 1) := by decide +kernel
theorem dX9_tryNumbers_53 : decode cX9_tryNumbers 53 = .ok (.iadd, 1) := by decide +kernel
theorem dX9_tryNumbers_54 : decode cX9_tryNumbers 54 = .ok (.putfield 31, 3) := by decide +kernel
theorem dX9_tryNumbers_57 : decode cX9_tryNumbers 57 = .ok (.aload_n 0, 1) := by decide +kernel
theorem dX9_tryNumbers_58 : decode cX9_tryNumbers 58 = .ok (.iload 6, 2) := by decide +kernel
theorem dX9_tryNumbers_60 : decode cX9_tryNumbers 60 = .ok (.putfield 34, 3) := by decide +kernel
theorem dX9_tryNumbers_63 : decode cX9_tryNumbers 63 = .ok (.iinc 6 (-1), 3) := by decide +kernel
theorem dX9_tryNumbers_66 : decode cX9_tryNumbers 66 = .ok (.goto (-51), 3) := by decide +kernel
theorem dX9_tryNumbers_69 : decode cX9_tryNumbers 69 = .ok (.return_, 1) := by decide +kernel
theorem dX9_playTurns_0 : decode cX9_playTurns 0 = .ok (.iconst 0, 1) := by decide +kernel
theorem dX9_playTurns_1 : decode cX9_playTurns 1 = .ok (.istore 4, 2) := by decide +kernel
theorem dX9_playTurns_3 : decode cX9_playTurns 3 = .ok (.iload 4, 2) := by decide +kernel
theorem dX9_playTurns_5 : decode cX9_playTurns 5 = .ok (.bipush 19, 2) := by decide +kernel
theorem dX9_playTurns_7 : decode cX9_playTurns 7 = .ok (.if_icmp .ge 48, 3) := by decide +kernel
theorem dX9_playTurns_10 : decode cX9_playTurns 10 = .ok (.aload_n 0, 1) := by decide +kernel
theorem dX9_playTurns_11 : decode cX9_playTurns 11 = .ok (.invokevirtual 74, 3) := by decide +kernel
theorem dX9_playTurns_14 : decode cX9_playTurns 14 = .ok (.aload_n 0, 1) := by decide +kernel
theorem dX9_playTurns_15 : decode cX9_playTurns 15 = .ok (.getfield 12, 3) := by decide +kernel
theorem dX9_playTurns_18 : decode cX9_playTurns 18 = .ok (.iload_n 2, 1) := by decide +kernel
theorem dX9_playTurns_19 : decode cX9_playTurns 19 = .ok (.iload_n 1, 1) := by decide +kernel
theorem dX9_playTurns_20 : decode cX9_playTurns 20 = .ok (.iload 4, 2) := by decide +kernel
theorem dX9_playTurns_22 : decode cX9_playTurns 22 = .ok (.bipush 9, 2) := by decide +kernel
theorem dX9_playTurns_24 : decode cX9_playTurns 24 = .ok (.isub, 1) := by decide +kernel
theorem dX9_playTurns_25 : decode cX9_playTurns 25 = .ok (.invokevirtual 77, 3) := by decide +kernel
theorem dX9_playTurns_28 : decode cX9_playTurns 28 = .ok (.aload_n 0, 1) := by decide +kernel
theorem dX9_playTurns_29 : decode cX9_playTurns 29 = .ok (.iconst 1, 1) := by decide +kernel
theorem dX9_playTurns_30 : decode cX9_playTurns 30 = .ok (.invokevirtual 81, 3) := by decide +kernel
theorem dX9_playTurns_33 : decode cX9_playTurns 33 = .ok (.pop, 1) := by decide +kernel
theorem dX9_playTurns_34 : decode cX9_playTurns 34 = .ok (.aload_n 0, 1) := by decide +kernel
theorem dX9_playTurns_35 : decode cX9_playTurns 35 = .ok (.getfield 44, 3) := by decide +kernel
theorem dX9_playTurns_38 : decode cX9_playTurns 38 = .ok (.iload 4, 2) := by decide +kernel
theorem dX9_playTurns_40 : decode cX9_playTurns 40 = .ok (.aload_n 0, 1) := by decide +kernel
theorem dX9_playTurns_41 : decode cX9_playTurns 41 = .ok (.getfield 12, 3) := by decide +kernel
theorem dX9_playTurns_44 : decode cX9_playTurns 44 = .ok (.iload_n 1, 1) := by decide +kernel
theorem dX9_playTurns_45 : decode cX9_playTurns 45 = .ok (.invokevirtual 84, 3) := by decide +kernel
theorem dX9_playTurns_48 : decode cX9_playTurns 48 = .ok (.iastore, 1) := by decide +kernel
theorem dX9_playTurns_49 : decode cX9_playTurns 49 = .ok (.iinc 4 1, 3) := by decide +kernel
theorem dX9_playTurns_52 : decode cX9_playTurns 52 = .ok (.goto (-49), 3) := by decide +kernel
theorem dX9_playTurns_55 : decode cX9_playTurns 55 = .ok (.iload_n 3, 1) := by decide +kernel
theorem dX9_playTurns_56 : decode cX9_playTurns 56 = .ok (.iconst 1, 1) := by decide +kernel
theorem dX9_playTurns_57 : decode cX9_playTurns 57 = .ok (.isub, 1) := by decide +kernel
theorem dX9_playTurns_58 : decode cX9_playTurns 58 = .ok (.istore 4, 2) := by decide +kernel
theorem dX9_playTurns_60 : decode cX9_playTurns 60 = .ok (.iload 4, 2) := by decide +kernel
theorem dX9_playTurns_62 : decode cX9_playTurns 62 = .ok (.ifCond .le 27, 3) := by decide +kernel
theorem dX9_playTurns_65 : decode cX9_playTurns 65 = .ok (.iload 4, 2) := by decide +kernel
theorem dX9_playTurns_67 : decode cX9_playTurns 67 = .ok (.iconst 2, 1) := by decide +kernel
theorem dX9_playTurns_68 : decode cX9_playTurns 68 = .ok (.irem, 1) := by decide +kernel
theorem dX9_playTurns_69 : decode cX9_playTurns 69 = .ok (.ifCond .ne 10, 3) := by decide +kernel
theorem dX9_playTurns_72 : decode cX9_playTurns 72 = .ok (.aload_n 0, 1) := by decide +kernel
theorem dX9_playTurns_73 : decode cX9_playTurns 73 = .ok (.invokevirtual 111, 3) := by decide +kernel
theorem dX9_playTurns_76 : decode cX9_playTurns 76 = .ok (.goto 7, 3) := by decide +kernel
theorem dX9_playTurns_79 : decode cX9_playTurns 79 = .ok (.aload_n 0, 1) := by decide +kernel
theorem dX9_playTurns_80 : decode cX9_playTurns 80 = .ok (.invokevirtual 114, 3) := by decide +kernel
theorem dX9_playTurns_83 : decode cX9_playTurns 83 = .ok (.iinc 4 (-1), 3) := by decide +kernel
theorem dX9_playTurns_86 : decode cX9_playTurns 86 = .ok (.goto (-26), 3) := by decide +kernel
theorem dX9_playTurns_89 : decode cX9_playTurns 89 = .ok (.aload_n 0, 1) := by decide +kernel
theorem dX9_playTurns_90 : decode cX9_playTurns 90 = .ok (.getfield 48, 3) := by decide +kernel
theorem dX9_playTurns_93 : decode cX9_playTurns 93 = .ok (.iload_n 2, 1) := by decide +kernel
theorem dX9_playTurns_94 : decode cX9_playTurns 94 = .ok (.iload_n 1, 1) := by decide +kernel
theorem dX9_playTurns_95 : decode cX9_playTurns 95 = .ok (.invokevirtual 117, 3) := by decide +kernel
theorem dX9_playTurns_98 : decode cX9_playTurns 98 = .ok (.istore 4, 2) := by decide +kernel
theorem dX9_playTurns_100 : decode cX9_playTurns 100 = .ok (.aload_n 0, 1) := by decide +kernel
theorem dX9_playTurns_101 : decode cX9_playTurns 101 = .ok (.iload 4, 2) := by decide +kernel
theorem dX9_playTurns_103 : decode cX9_playTurns 103 = .ok (.invokevirtual 120, 3) := by decide +kernel
theorem dX9_playTurns_106 : decode cX9_playTurns 106 = .ok (.istore 5, 2) := by decide +kernel
theorem dX9_playTurns_108 : decode cX9_playTurns 108 = .ok (.aload_n 0, 1) := by decide +kernel
theorem dX9_playTurns_109 : decode cX9_playTurns 109 = .ok (.iload 4, 2) := by decide +kernel
theorem dX9_playTurns_111 : decode cX9_playTurns 111 = .ok (.iconst 2, 1) := by decide +kernel
theorem dX9_playTurns_112 : decode cX9_playTurns 112 = .ok (.isub, 1) := by decide +kernel
theorem dX9_playTurns_113 : decode cX9_playTurns 113 = .ok (.invokevirtual 120, 3) := by decide +kernel
theorem dX9_playTurns_116 : decode cX9_playTurns 116 = .ok (.istore 6, 2) := by decide +kernel
theorem dX9_playTurns_118 : decode cX9_playTurns 118 = .ok (.aload_n 0, 1) := by decide +kernel
theorem dX9_playTurns_119 : decode cX9_playTurns 119 = .ok (.iload 6, 2) := by decide +kernel
theorem dX9_playTurns_121 : decode cX9_playTurns 121 = .ok (.iload 5, 2) := by decide +kernel
theorem dX9_playTurns_123 : decode cX9_playTurns 123 = .ok (.if_icmp .ge 7, 3) := by decide +kernel
theorem dX9_playTurns_126 : decode cX9_playTurns 126 = .ok (.iconst 1, 1) := by decide +kernel
theorem dX9_playTurns_127 : decode cX9_playTurns 127 = .ok (.goto 4, 3) := by decide +kernel
theorem dX9_playTurns_130 : decode cX9_playTurns 130 = .ok (.iconst 0, 1) := by decide +kernel
theorem dX9_playTurns_131 : decode cX9_playTurns 131 = .ok (.putfield 28, 3) := by decide +kernel
theorem dX9_playTurns_134 : decode cX9_playTurns 134 = .ok (.aload_n 0, 1) := by decide +kernel
theorem dX9_playTurns_135 : decode cX9_playTurns 135 = .ok (.iload 6, 2) := by decide +kernel
theorem dX9_playTurns_137 : decode cX9_playTurns 137 = .ok (.iload 5, 2) := by decide +kernel
theorem dX9_playTurns_139 : decode cX9_playTurns 139 = .ok (.invokestatic 92, 3) := by decide +kernel
theorem dX9_playTurns_142 : decode cX9_playTurns 142 = .ok (.putfield 25, 3) := by decide +kernel
theorem dX9_playTurns_145 : decode cX9_playTurns 145 = .ok (.return_, 1) := by decide +kernel
theorem dX9_playWrong_0 : decode cX9_playWrong 0 = .ok (.bipush 18, 2) := by decide +kernel
theorem dX9_playWrong_2 : decode cX9_playWrong 2 = .ok (.istore_n 1, 1) := by decide +kernel
theorem dX9_playWrong_3 : decode cX9_playWrong 3 = .ok (.iload_n 1, 1) := by decide +kernel
theorem dX9_playWrong_4 : decode cX9_playWrong 4 = .ok (.ifCond .lt 34, 3) := by decide +kernel
theorem dX9_playWrong_7 : decode cX9_playWrong 7 = .ok (.aload_n 0, 1) := by decide +kernel
theorem dX9_playWrong_8 : decode cX9_playWrong 8 = .ok (.getfield 44, 3) := by decide +kernel
theorem dX9_playWrong_11 : decode cX9_playWrong 11 = .ok (.iload_n 1, 1) := by decide +kernel
theorem dX9_playWrong_12 : decode cX9_playWrong 12 = .ok (.aload_n 0, 1) := by decide +kernel
theorem dX9_playWrong_13 : decode cX9_playWrong 13 = .ok (.getfield 44, 3) := by decide +kernel
theorem dX9_playWrong_16 : decode cX9_playWrong 16 = .ok (.iload_n 1, 1) := by decide +kernel
theorem dX9_playWrong_17 : decode cX9_playWrong 17 = .ok (.iaload, 1) := by decide +kernel
theorem dX9_playWrong_18 : decode cX9_playWrong 18 = .ok (.aload_n 0, 1) := by decide +kernel
theorem dX9_playWrong_19 : decode cX9_playWrong 19 = .ok (.iload_n 1, 1) := by decide +kernel
theorem dX9_playWrong_20 : decode cX9_playWrong 20 = .ok (.bipush 9, 2) := by decide +kernel
theorem dX9_playWrong_22 : decode cX9_playWrong 22 = .ok (.isub, 1) := by decide +kernel
theorem dX9_playWrong_23 : decode cX9_playWrong 23 = .ok (.iconst 2, 1) := by decide +kernel
theorem dX9_playWrong_24 : decode cX9_playWrong 24 = .ok (.isub, 1) := by decide +kernel
theorem dX9_playWrong_25 : decode cX9_playWrong 25 = .ok (.invokevirtual 120, 3) := by decide +kernel
theorem dX9_playWrong_28 : decode cX9_playWrong 28 = .ok (.invokestatic 92, 3) := by decide +kernel
theorem dX9_playWrong_31 : decode cX9_playWrong 31 = .ok (.iastore, 1) := by decide +kernel
theorem dX9_playWrong_32 : decode cX9_playWrong 32 = .ok (.iinc 1 (-1), 3) := by decide +kernel
theorem dX9_playWrong_35 : decode cX9_playWrong 35 = .ok (.goto (-32), 3) := by decide +kernel
theorem dX9_playWrong_38 : decode cX9_playWrong 38 = .ok (.return_, 1) := by decide +kernel
theorem dX9_playForgive_0 : decode cX9_playForgive 0 = .ok (.iconst 0, 1) := by decide +kernel
theorem dX9_playForgive_1 : decode cX9_playForgive 1 = .ok (.istore_n 1, 1) := by decide +kernel
theorem dX9_playForgive_2 : decode cX9_playForgive 2 = .ok (.iload_n 1, 1) := by decide +kernel
theorem dX9_playForgive_3 : decode cX9_playForgive 3 = .ok (.bipush 19, 2) := by decide +kernel
theorem dX9_playForgive_5 : decode cX9_playForgive 5 = .ok (.if_icmp .ge 34, 3) := by decide +kernel
theorem dX9_playForgive_8 : decode cX9_playForgive 8 = .ok (.aload_n 0, 1) := by decide +kernel
theorem dX9_playForgive_9 : decode cX9_playForgive 9 = .ok (.getfield 44, 3) := by decide +kernel
theorem dX9_playForgive_12 : decode cX9_playForgive 12 = .ok (.iload_n 1, 1) := by decide +kernel
theorem dX9_playForgive_13 : decode cX9_playForgive 13 = .ok (.aload_n 0, 1) := by decide +kernel
theorem dX9_playForgive_14 : decode cX9_playForgive 14 = .ok (.getfield 44, 3) := by decide +kernel
theorem dX9_playForgive_17 : decode cX9_playForgive 17 = .ok (.iload_n 1, 1) := by decide +kernel
theorem dX9_playForgive_18 : decode cX9_playForgive 18 = .ok (.iaload, 1) := by decide +kernel
theorem dX9_playForgive_19 : decode cX9_playForgive 19 = .ok (.aload_n 0, 1) := by decide +kernel
theorem dX9_playForgive_20 : decode cX9_playForgive 20 = .ok (.iload_n 1, 1) := by decide +kernel
theorem dX9_playForgive_21 : decode cX9_playForgive 21 = .ok (.bipush 9, 2) := by decide +kernel
theorem dX9_playForgive_23 : decode cX9_playForgive 23 = .ok (.isub, 1) := by decide +kernel
theorem dX9_playForgive_24 : decode cX9_playForgive 24 = .ok (.iconst 2, 1) := by decide +kernel
theorem dX9_playForgive_25 : decode cX9_playForgive 25 = .ok (.iadd, 1) := by decide +kernel
theorem dX9_playForgive_26 : decode cX9_playForgive 26 = .ok (.invokevirtual 120, 3) := by decide +kernel
theorem dX9_playForgive_29 : decode cX9_playForgive 29 = .ok (.invokestatic 123, 3) := by decide +kernel
theorem dX9_playForgive_32 : decode cX9_playForgive 32 = .ok (.iastore, 1) := by decide +kernel
theorem dX9_playForgive_33 : decode cX9_playForgive 33 = .ok (.iinc 1 1, 3) := by decide +kernel
theorem dX9_playForgive_36 : decode cX9_playForgive 36 = .ok (.goto (-34), 3) := by decide +kernel
theorem dX9_playForgive_39 : decode cX9_playForgive 39 = .ok (.return_, 1) := by decide +kernel
theorem dX9_hungerAt_0 : decode cX9_hungerAt 0 = .ok (.bipush (-9), 2) := by decide +kernel
theorem dX9_hungerAt_2 : decode cX9_hungerAt 2 = .ok (.iload_n 1, 1) := by decide +kernel
theorem dX9_hungerAt_3 : decode cX9_hungerAt 3 = .ok (.bipush 9, 2) := by decide +kernel
theorem dX9_hungerAt_5 : decode cX9_hungerAt 5 = .ok (.invokestatic 92, 3) := by decide +kernel
theorem dX9_hungerAt_8 : decode cX9_hungerAt 8 = .ok (.invokestatic 123, 3) := by decide +kernel
theorem dX9_hungerAt_11 : decode cX9_hungerAt 11 = .ok (.istore_n 2, 1) := by decide +kernel
theorem dX9_hungerAt_12 : decode cX9_hungerAt 12 = .ok (.aload_n 0, 1) := by decide +kernel
theorem dX9_hungerAt_13 : decode cX9_hungerAt 13 = .ok (.getfield 44, 3) := by decide +kernel
theorem dX9_hungerAt_16 : decode cX9_hungerAt 16 = .ok (.iload_n 2, 1) := by decide +kernel
theorem dX9_hungerAt_17 : decode cX9_hungerAt 17 = .ok (.bipush 9, 2) := by decide +kernel
theorem dX9_hungerAt_19 : decode cX9_hungerAt 19 = .ok (.iadd, 1) := by decide +kernel
theorem dX9_hungerAt_20 : decode cX9_hungerAt 20 = .ok (.iaload, 1) := by decide +kernel
theorem dX9_hungerAt_21 : decode cX9_hungerAt 21 = .ok (.ireturn, 1) := by decide +kernel
theorem dX9_drawBazaars_0 : decode cX9_drawBazaars 0 = .ok (.iload_n 1, 1) := by decide +kernel
theorem dX9_drawBazaars_1 : decode cX9_drawBazaars 1 = .ok (.istore 6, 2) := by decide +kernel
theorem dX9_drawBazaars_3 : decode cX9_drawBazaars 3 = .ok (.iconst 0, 1) := by decide +kernel
theorem dX9_drawBazaars_4 : decode cX9_drawBazaars 4 = .ok (.istore 7, 2) := by decide +kernel
theorem dX9_drawBazaars_6 : decode cX9_drawBazaars 6 = .ok (.iconst 0, 1) := by decide +kernel
theorem dX9_drawBazaars_7 : decode cX9_drawBazaars 7 = .ok (.istore 8, 2) := by decide +kernel
theorem dX9_drawBazaars_9 : decode cX9_drawBazaars 9 = .ok (.iconst 0, 1) := by decide +kernel
theorem dX9_drawBazaars_10 : decode cX9_drawBazaars 10 = .ok (.istore 9, 2) := by decide +kernel
theorem dX9_drawBazaars_12 : decode cX9_drawBazaars 12 = .ok (.iload 9, 2) := by decide +kernel
theorem dX9_drawBazaars_14 : decode cX9_drawBazaars 14 = .ok (.iload_n 2, 1) := by decide +kernel
theorem dX9_drawBazaars_15 : decode cX9_drawBazaars 15 = .ok (.if_icmp .ge 82, 3) := by decide +kernel
theorem dX9_drawBazaars_18 : decode cX9_drawBazaars 18 = .ok (.aload_n 0, 1) := by decide +kernel
theorem dX9_drawBazaars_19 : decode cX9_drawBazaars 19 = .ok (.invokevirtual 74, 3) := by decide +kernel
theorem dX9_drawBazaars_22 : decode cX9_drawBazaars 22 = .ok (.iconst 0, 1) := by decide +kernel
theorem dX9_drawBazaars_23 : decode cX9_drawBazaars 23 = .ok (.istore 10, 2) := by decide +kernel
theorem dX9_drawBazaars_25 : decode cX9_drawBazaars 25 = .ok (.iload 10, 2) := by decide +kernel
theorem dX9_drawBazaars_27 : decode cX9_drawBazaars 27 = .ok (.iload_n 3, 1) := by decide +kernel
theorem dX9_drawBazaars_28 : decode cX9_drawBazaars 28 = .ok (.if_icmp .ge 49, 3) := by decide +kernel
theorem dX9_drawBazaars_31 : decode cX9_drawBazaars 31 = .ok (.iload 6, 2) := by decide +kernel
theorem dX9_drawBazaars_33 : decode cX9_drawBazaars 33 = .ok (.ldc 126, 2) := by decide +kernel
theorem dX9_drawBazaars_35 : decode cX9_drawBazaars 35 = .ok (.imul, 1) := by decide +kernel
theorem dX9_drawBazaars_36 : decode cX9_drawBazaars 36 = .ok (.sipush 12345, 3) := by decide +kernel
theorem dX9_drawBazaars_39 : decode cX9_drawBazaars 39 = .ok (.iadd, 1) := by decide +kernel
theorem dX9_drawBazaars_40 : decode cX9_drawBazaars 40 = .ok (.istore 6, 2) := by decide +kernel
theorem dX9_drawBazaars_42 : decode cX9_drawBazaars 42 = .ok (.iload 6, 2) := by decide +kernel
theorem dX9_drawBazaars_44 : decode cX9_drawBazaars 44 = .ok (.bipush 16, 2) := by decide +kernel
theorem dX9_drawBazaars_46 : decode cX9_drawBazaars 46 = .ok (.iushr, 1) := by decide +kernel
theorem dX9_drawBazaars_47 : decode cX9_drawBazaars 47 = .ok (.bipush 12, 2) := by decide +kernel
theorem dX9_drawBazaars_49 : decode cX9_drawBazaars 49 = .ok (.irem, 1) := by decide +kernel
theorem dX9_drawBazaars_50 : decode cX9_drawBazaars 50 = .ok (.iload 4, 2) := by decide +kernel
theorem dX9_drawBazaars_52 : decode cX9_drawBazaars 52 = .ok (.if_icmp .ge 9, 3) := by decide +kernel
theorem dX9_drawBazaars_55 : decode cX9_drawBazaars 55 = .ok (.aload_n 0, 1) := by decide +kernel
theorem dX9_drawBazaars_56 : decode cX9_drawBazaars 56 = .ok (.iload 6, 2) := by decide +kernel
theorem dX9_drawBazaars_58 : decode cX9_drawBazaars 58 = .ok (.invokevirtual 127, 3) := by decide +kernel
theorem dX9_drawBazaars_61 : decode cX9_drawBazaars 61 = .ok (.iload 8, 2) := by decide +kernel
theorem dX9_drawBazaars_63 : decode cX9_drawBazaars 63 = .ok (.aload_n 0, 1) := by decide +kernel
theorem dX9_drawBazaars_64 : decode cX9_drawBazaars 64 = .ok (.iconst 1, 1) := by decide +kernel
theorem dX9_drawBazaars_65 : decode cX9_drawBazaars 65 = .ok (.invokevirtual 81, 3) := by decide +kernel
theorem dX9_drawBazaars_68 : decode cX9_drawBazaars 68 = .ok (.iadd, 1) := by decide +kernel
theorem dX9_drawBazaars_69 : decode cX9_drawBazaars 69 = .ok (.istore 8, 2) := by decide +kernel
theorem dX9_drawBazaars_71 : decode cX9_drawBazaars 71 = .ok (.iinc 10 1, 3) := by decide +kernel
theorem dX9_drawBazaars_74 : decode cX9_drawBazaars 74 = .ok (.goto (-49), 3) := by decide +kernel
theorem dX9_drawBazaars_77 : decode cX9_drawBazaars 77 = .ok (.iload 7, 2) := by decide +kernel
theorem dX9_drawBazaars_79 : decode cX9_drawBazaars 79 = .ok (.aload_n 0, 1) := by decide +kernel
theorem dX9_drawBazaars_80 : decode cX9_drawBazaars 80 = .ok (.getfield 12, 3) := by decide +kernel
theorem dX9_drawBazaars_83 : decode cX9_drawBazaars 83 = .ok (.iload 5, 2) := by decide +kernel
theorem dX9_drawBazaars_85 : decode cX9_drawBazaars 85 = .ok (.invokevirtual 84, 3) := by decide +kernel
theorem dX9_drawBazaars_88 : decode cX9_drawBazaars 88 = .ok (.iadd, 1) := by decide +kernel
theorem dX9_drawBazaars_89 : decode cX9_drawBazaars 89 = .ok (.istore 7, 2) := by decide +kernel
theorem dX9_drawBazaars_91 : decode cX9_drawBazaars 91 = .ok (.iinc 9 1, 3) := by decide +kernel
theorem dX9_drawBazaars_94 : decode cX9_drawBazaars 94 = .ok (.goto (-82), 3) := by decide +kernel
theorem dX9_drawBazaars_97 : decode cX9_drawBazaars 97 = .ok (.iload 5, 2) := by decide +kernel
theorem dX9_drawBazaars_99 : decode cX9_drawBazaars 99 = .ok (.iconst (-1), 1) := by decide +kernel
theorem dX9_drawBazaars_100 : decode cX9_drawBazaars 100 = .ok (.if_icmp .ne 8, 3) := by decide +kernel
theorem dX9_drawBazaars_103 : decode cX9_drawBazaars 103 = .ok (.iload 8, 2) := by decide +kernel
theorem dX9_drawBazaars_105 : decode cX9_drawBazaars 105 = .ok (.goto 5, 3) := by decide +kernel
theorem dX9_drawBazaars_108 : decode cX9_drawBazaars 108 = .ok (.iload 7, 2) := by decide +kernel
theorem dX9_drawBazaars_110 : decode cX9_drawBazaars 110 = .ok (.ireturn, 1) := by decide +kernel
theorem dX9_drawHate_0 : decode cX9_drawHate 0 = .ok (.aload_n 0, 1) := by decide +kernel
theorem dX9_drawHate_1 : decode cX9_drawHate 1 = .ok (.getfield 12, 3) := by decide +kernel
theorem dX9_drawHate_4 : decode cX9_drawHate 4 = .ok (.getfield 71, 3) := by decide +kernel
theorem dX9_drawHate_7 : decode cX9_drawHate 7 = .ok (.istore_n 2, 1) := by decide +kernel
theorem dX9_drawHate_8 : decode cX9_drawHate 8 = .ok (.iload_n 2, 1) := by decide +kernel
theorem dX9_drawHate_9 : decode cX9_drawHate 9 = .ok (.iconst 2, 1) := by decide +kernel
theorem dX9_drawHate_10 : decode cX9_drawHate 10 = .ok (.if_icmp .lt 37, 3) := by decide +kernel
theorem dX9_drawHate_13 : decode cX9_drawHate 13 = .ok (.iload_n 1, 1) := by decide +kernel
theorem dX9_drawHate_14 : decode cX9_drawHate 14 = .ok (.bipush 8, 2) := by decide +kernel
theorem dX9_drawHate_16 : decode cX9_drawHate 16 = .ok (.iushr, 1) := by decide +kernel
theorem dX9_drawHate_17 : decode cX9_drawHate 17 = .ok (.iload_n 2, 1) := by decide +kernel
theorem dX9_drawHate_18 : decode cX9_drawHate 18 = .ok (.irem, 1) := by decide +kernel
theorem dX9_drawHate_19 : decode cX9_drawHate 19 = .ok (.istore_n 3, 1) := by decide +kernel
theorem dX9_drawHate_20 : decode cX9_drawHate 20 = .ok (.iload_n 3, 1) := by decide +kernel
theorem dX9_drawHate_21 : decode cX9_drawHate 21 = .ok (.iconst 1, 1) := by decide +kernel
theorem dX9_drawHate_22 : decode cX9_drawHate 22 = .ok (.iadd, 1) := by decide +kernel
theorem dX9_drawHate_23 : decode cX9_drawHate 23 = .ok (.iload_n 1, 1) := by decide +kernel
theorem dX9_drawHate_24 : decode cX9_drawHate 24 = .ok (.iconst 4, 1) := by decide +kernel
theorem dX9_drawHate_25 : decode cX9_drawHate 25 = .ok (.iushr, 1) := by decide +kernel
theorem dX9_drawHate_26 : decode cX9_drawHate 26 = .ok (.iload_n 2, 1) := by decide +kernel
theorem dX9_drawHate_27 : decode cX9_drawHate 27 = .ok (.iconst 1, 1) := by decide +kernel
theorem dX9_drawHate_28 : decode cX9_drawHate 28 = .ok (.isub, 1) := by decide +kernel
theorem dX9_drawHate_29 : decode cX9_drawHate 29 = .ok (.irem, 1) := by decide +kernel
theorem dX9_drawHate_30 : decode cX9_drawHate 30 = .ok (.iadd, 1) := by decide +kernel
theorem dX9_drawHate_31 : decode cX9_drawHate 31 = .ok (.iload_n 2, 1) := by decide +kernel
theorem dX9_drawHate_32 : decode cX9_drawHate 32 = .ok (.irem, 1) := by decide +kernel
theorem dX9_drawHate_33 : decode cX9_drawHate 33 = .ok (.istore 4, 2) := by decide +kernel
theorem dX9_drawHate_35 : decode cX9_drawHate 35 = .ok (.aload_n 0, 1) := by decide +kernel
theorem dX9_drawHate_36 : decode cX9_drawHate 36 = .ok (.getfield 12, 3) := by decide +kernel
theorem dX9_drawHate_39 : decode cX9_drawHate 39 = .ok (.iload_n 3, 1) := by decide +kernel
theorem dX9_drawHate_40 : decode cX9_drawHate 40 = .ok (.iload 4, 2) := by decide +kernel
theorem dX9_drawHate_42 : decode cX9_drawHate 42 = .ok (.bipush (-5), 2) := by decide +kernel
theorem dX9_drawHate_44 : decode cX9_drawHate 44 = .ok (.invokevirtual 77, 3) := by decide +kernel
theorem dX9_drawHate_47 : decode cX9_drawHate 47 = .ok (.return_, 1) := by decide +kernel
theorem dX10_init_0 : decode cX10_init 0 = .ok (.aload_n 0, 1) := by decide +kernel
theorem dX10_init_1 : decode cX10_init 1 = .ok (.invokespecial 1, 3) := by decide +kernel
theorem dX10_init_4 : decode cX10_init 4 = .ok (.aload_n 0, 1) := by decide +kernel
theorem dX10_init_5 : decode cX10_init 5 = .ok (.new 7, 3) := by decide +kernel
theorem dX10_init_8 : decode cX10_init 8 = .ok (.dup, 1) := by decide +kernel
theorem dX10_init_9 : decode cX10_init 9 = .ok (.invokespecial 9, 3) := by decide +kernel
theorem dX10_init_12 : decode cX10_init 12 = .ok (.putfield 10, 3) := by decide +kernel
theorem dX10_init_15 : decode cX10_init 15 = .ok (.aload_n 0, 1) := by decide +kernel
theorem dX10_init_16 : decode cX10_init 16 = .ok (.new 16, 3) := by decide +kernel
theorem dX10_init_19 : decode cX10_init 19 = .ok (.dup, 1) := by decide +kernel
theorem dX10_init_20 : decode cX10_init 20 = .ok (.invokespecial 18, 3) := by decide +kernel
theorem dX10_init_23 : decode cX10_init 23 = .ok (.putfield 19, 3) := by decide +kernel
theorem dX10_init_26 : decode cX10_init 26 = .ok (.aload_n 0, 1) := by decide +kernel
theorem dX10_init_27 : decode cX10_init 27 = .ok (.new 23, 3) := by decide +kernel
theorem dX10_init_30 : decode cX10_init 30 = .ok (.dup, 1) := by decide +kernel
theorem dX10_init_31 : decode cX10_init 31 = .ok (.invokespecial 25, 3) := by decide +kernel
theorem dX10_init_34 : decode cX10_init 34 = .ok (.putfield 26, 3) := by decide +kernel
theorem dX10_init_37 : decode cX10_init 37 = .ok (.aload_n 0, 1) := by decide +kernel
theorem dX10_init_38 : decode cX10_init 38 = .ok (.new 30, 3) := by decide +kernel
theorem dX10_init_41 : decode cX10_init 41 = .ok (.dup, 1) := by decide +kernel
theorem dX10_init_42 : decode cX10_init 42 = .ok (.invokespecial 32, 3) := by decide +kernel
theorem dX10_init_45 : decode cX10_init 45 = .ok (.putfield 33, 3) := by decide +kernel
theorem dX10_init_48 : decode cX10_init 48 = .ok (.aload_n 0, 1) := by decide +kernel
theorem dX10_init_49 : decode cX10_init 49 = .ok (.new 37, 3) := by decide +kernel
theorem dX10_init_52 : decode cX10_init 52 = .ok (.dup, 1) := by decide +kernel
theorem dX10_init_53 : decode cX10_init 53 = .ok (.aload_n 0, 1) := by decide +kernel
theorem dX10_init_54 : decode cX10_init 54 = .ok (.getfield 10, 3) := by decide +kernel
theorem dX10_init_57 : decode cX10_init 57 = .ok (.aload_n 0, 1) := by decide +kernel
theorem dX10_init_58 : decode cX10_init 58 = .ok (.getfield 26, 3) := by decide +kernel
theorem dX10_init_61 : decode cX10_init 61 = .ok (.aload_n 0, 1) := by decide +kernel
theorem dX10_init_62 : decode cX10_init 62 = .ok (.getfield 33, 3) := by decide +kernel
theorem dX10_init_65 : decode cX10_init 65 = .ok (.invokespecial 39, 3) := by decide +kernel
theorem dX10_init_68 : decode cX10_init 68 = .ok (.putfield 42, 3) := by decide +kernel
theorem dX10_init_71 : decode cX10_init 71 = .ok (.aload_n 0, 1) := by decide +kernel
theorem dX10_init_72 : decode cX10_init 72 = .ok (.new 46, 3) := by decide +kernel
theorem dX10_init_75 : decode cX10_init 75 = .ok (.dup, 1) := by decide +kernel
theorem dX10_init_76 : decode cX10_init 76 = .ok (.aload_n 0, 1) := by decide +kernel
theorem dX10_init_77 : decode cX10_init 77 = .ok (.getfield 10, 3) := by decide +kernel
theorem dX10_init_80 : decode cX10_init 80 = .ok (.invokespecial 48, 3) := by decide +kernel
theorem dX10_init_83 : decode cX10_init 83 = .ok (.putfield 51, 3) := by decide +kernel
theorem dX10_init_86 : decode cX10_init 86 = .ok (.aload_n 0, 1) := by decide +kernel
theorem dX10_init_87 : decode cX10_init 87 = .ok (.new 55, 3) := by decide +kernel
theorem dX10_init_90 : decode cX10_init 90 = .ok (.dup, 1) := by decide +kernel
theorem dX10_init_91 : decode cX10_init 91 = .ok (.invokespecial 57, 3) := by decide +kernel
theorem dX10_init_94 : decode cX10_init 94 = .ok (.putfield 58, 3) := by decide +kernel
theorem dX10_init_97 : decode cX10_init 97 = .ok (.aload_n 0, 1) := by decide +kernel
theorem dX10_init_98 : decode cX10_init 98 = .ok (.new 62, 3) := by decide +kernel
theorem dX10_init_101 : decode cX10_init 101 = .ok (.dup, 1) := by decide +kernel
theorem dX10_init_102 : decode cX10_init 102 = .ok (.invokespecial 64, 3) := by decide +kernel
theorem dX10_init_105 : decode cX10_init 105 = .ok (.putfield 65, 3) := by decide +kernel
theorem dX10_init_108 : decode cX10_init 108 = .ok (.aload_n 0, 1) := by decide +kernel
theorem dX10_init_109 : decode cX10_init 109 = .ok (.new 69, 3) := by decide +kernel
theorem dX10_init_112 : decode cX10_init 112 = .ok (.dup, 1) := by decide +kernel
theorem dX10_init_113 : decode cX10_init 113 = .ok (.invokespecial 71, 3) := by decide +kernel
theorem dX10_init_116 : decode cX10_init 116 = .ok (.putfield 72, 3) := by decide +kernel
theorem dX10_init_119 : decode cX10_init 119 = .ok (.aload_n 0, 1) := by decide +kernel
theorem dX10_init_120 : decode cX10_init 120 = .ok (.new 76, 3) := by decide +kernel
theorem dX10_init_123 : decode cX10_init 123 = .ok (.dup, 1) := by decide +kernel
theorem dX10_init_124 : decode cX10_init 124 = .ok (.invokespecial 78, 3) := by decide +kernel
theorem dX10_init_127 : decode cX10_init 127 = .ok (.putfield 79, 3) := by decide +kernel
theorem dX10_init_130 : decode cX10_init 130 = .ok (.return_, 1) := by decide +kernel
theorem dX10_person_0 : decode cX10_person 0 = .ok (.iload_n 1, 1) := by decide +kernel
theorem dX10_person_1 : decode cX10_person 1 = .ok (.iload_n 2, 1) := by decide +kernel
theorem dX10_person_2 : decode cX10_person 2 = .ok (.invokestatic 83, 3) := by decide +kernel
theorem dX10_person_5 : decode cX10_person 5 = .ok (.ifCond .eq 15, 3) := by decide +kernel
theorem dX10_person_8 : decode cX10_person 8 = .ok (.aload_n 0, 1) := by decide +kernel
theorem dX10_person_9 : decode cX10_person 9 = .ok (.getfield 10, 3) := by decide +kernel
theorem dX10_person_12 : decode cX10_person 12 = .ok (.iload_n 1, 1) := by decide +kernel
theorem dX10_person_13 : decode cX10_person 13 = .ok (.iload_n 2, 1) := by decide +kernel
theorem dX10_person_14 : decode cX10_person 14 = .ok (.invokevirtual 87, 3) := by decide +kernel
theorem dX10_person_17 : decode cX10_person 17 = .ok (.goto 4, 3) := by decide +kernel
theorem dX10_person_20 : decode cX10_person 20 = .ok (.iconst (-1), 1) := by decide +kernel
theorem dX10_person_21 : decode cX10_person 21 = .ok (.ireturn, 1) := by decide +kernel
theorem dX10_people_0 : decode cX10_people 0 = .ok (.aload_n 0, 1) := by decide +kernel
theorem dX10_people_1 : decode cX10_people 1 = .ok (.getfield 33, 3) := by decide +kernel
theorem dX10_people_4 : decode cX10_people 4 = .ok (.iload_n 1, 1) := by decide +kernel
theorem dX10_people_5 : decode cX10_people 5 = .ok (.invokevirtual 91, 3) := by decide +kernel
theorem dX10_people_8 : decode cX10_people 8 = .ok (.ifCond .eq 14, 3) := by decide +kernel
theorem dX10_people_11 : decode cX10_people 11 = .ok (.iload_n 3, 1) := by decide +kernel
theorem dX10_people_12 : decode cX10_people 12 = .ok (.iconst 1, 1) := by decide +kernel
theorem dX10_people_13 : decode cX10_people 13 = .ok (.if_icmp .lt 9, 3) := by decide +kernel
theorem dX10_people_16 : decode cX10_people 16 = .ok (.iload_n 3, 1) := by decide +kernel
theorem dX10_people_17 : decode cX10_people 17 = .ok (.bipush 8, 2) := by decide +kernel
theorem dX10_people_19 : decode cX10_people 19 = .ok (.if_icmp .le 5, 3) := by decide +kernel
theorem dX10_people_22 : decode cX10_people 22 = .ok (.iconst (-1), 1) := by decide +kernel
theorem dX10_people_23 : decode cX10_people 23 = .ok (.ireturn, 1) := by decide +kernel
theorem dX10_people_24 : decode cX10_people 24 = .ok (.aload_n 0, 1) := by decide +kernel
theorem dX10_people_25 : decode cX10_people 25 = .ok (.getfield 33, 3) := by decide +kernel
theorem dX10_people_28 : decode cX10_people 28 = .ok (.iload_n 1, 1) := by decide +kernel
theorem dX10_people_29 : decode cX10_people 29 = .ok (.invokevirtual 95, 3) := by decide +kernel
theorem dX10_people_32 : decode cX10_people 32 = .ok (.ifCond .eq 5, 3) := by decide +kernel
theorem dX10_people_35 : decode cX10_people 35 = .ok (.iconst 0, 1) := by decide +kernel
theorem dX10_people_36 : decode cX10_people 36 = .ok (.ireturn, 1) := by decide +kernel
theorem dX10_people_37 : decode cX10_people 37 = .ok (.aload_n 0, 1) := by decide +kernel
theorem dX10_people_38 : decode cX10_people 38 = .ok (.getfield 33, 3) := by decide +kernel
theorem dX10_people_41 : decode cX10_people 41 = .ok (.iload_n 1, 1) := by decide +kernel
theorem dX10_people_42 : decode cX10_people 42 = .ok (.invokevirtual 98, 3) := by decide +kernel
theorem dX10_people_45 : decode cX10_people 45 = .ok (.ifCond .ne 6, 3) := by decide +kernel
theorem dX10_people_48 : decode cX10_people 48 = .ok (.bipush (-12), 2) := by decide +kernel
theorem dX10_people_50 : decode cX10_people 50 = .ok (.ireturn, 1) := by decide +kernel
theorem dX10_people_51 : decode cX10_people 51 = .ok (.iconst 0, 1) := by decide +kernel
theorem dX10_people_52 : decode cX10_people 52 = .ok (.istore 4, 2) := by decide +kernel
theorem dX10_people_54 : decode cX10_people 54 = .ok (.iload_n 2, 1) := by decide +kernel
theorem dX10_people_55 : decode cX10_people 55 = .ok (.istore 5, 2) := by decide +kernel
theorem dX10_people_57 : decode cX10_people 57 = .ok (.iload 4, 2) := by decide +kernel
theorem dX10_people_59 : decode cX10_people 59 = .ok (.iload_n 3, 1) := by decide +kernel
theorem dX10_people_60 : decode cX10_people 60 = .ok (.if_icmp .ge 89, 3) := by decide +kernel
theorem dX10_people_63 : decode cX10_people 63 = .ok (.iload 5, 2) := by decide +kernel
theorem dX10_people_65 : decode cX10_people 65 = .ok (.ifCond .lt 84, 3) := by decide +kernel
theorem dX10_people_68 : decode cX10_people 68 = .ok (.iload 5, 2) := by decide +kernel
theorem dX10_people_70 : decode cX10_people 70 = .ok (.aload_n 0, 1) := by decide +kernel
theorem dX10_people_71 : decode cX10_people 71 = .ok (.getfield 33, 3) := by decide +kernel
theorem dX10_people_74 : decode cX10_people 74 = .ok (.iload_n 1, 1) := by decide +kernel
theorem dX10_people_75 : decode cX10_people 75 = .ok (.invokevirtual 101, 3) := by decide +kernel
theorem dX10_people_78 : decode cX10_people 78 = .ok (.iconst 1, 1) := by decide +kernel
theorem dX10_people_79 : decode cX10_people 79 = .ok (.isub, 1) := by decide +kernel
theorem dX10_people_80 : decode cX10_people 80 = .ok (.if_icmp .ge 69, 3) := by decide +kernel
theorem dX10_people_83 : decode cX10_people 83 = .ok (.aload_n 0, 1) := by decide +kernel
theorem dX10_people_84 : decode cX10_people 84 = .ok (.getfield 33, 3) := by decide +kernel
theorem dX10_people_87 : decode cX10_people 87 = .ok (.iload_n 1, 1) := by decide +kernel
theorem dX10_people_88 : decode cX10_people 88 = .ok (.iload 5, 2) := by decide +kernel
theorem dX10_people_90 : decode cX10_people 90 = .ok (.invokevirtual 105, 3) := by decide +kernel
theorem dX10_people_93 : decode cX10_people 93 = .ok (.l2i, 1) := by decide +kernel
theorem dX10_people_94 : decode cX10_people 94 = .ok (.istore 6, 2) := by decide +kernel
theorem dX10_people_96 : decode cX10_people 96 = .ok (.aload_n 0, 1) := by decide +kernel
theorem dX10_people_97 : decode cX10_people 97 = .ok (.getfield 33, 3) := by decide +kernel
theorem dX10_people_100 : decode cX10_people 100 = .ok (.iload_n 1, 1) := by decide +kernel
theorem dX10_people_101 : decode cX10_people 101 = .ok (.iload 5, 2) := by decide +kernel
theorem dX10_people_103 : decode cX10_people 103 = .ok (.iconst 1, 1) := by decide +kernel
theorem dX10_people_104 : decode cX10_people 104 = .ok (.iadd, 1) := by decide +kernel
theorem dX10_people_105 : decode cX10_people 105 = .ok (.invokevirtual 105, 3) := by decide +kernel
theorem dX10_people_108 : decode cX10_people 108 = .ok (.l2i, 1) := by decide +kernel
theorem dX10_people_109 : decode cX10_people 109 = .ok (.istore 7, 2) := by decide +kernel
theorem dX10_people_111 : decode cX10_people 111 = .ok (.iload 6, 2) := by decide +kernel
theorem dX10_people_113 : decode cX10_people 113 = .ok (.iload 7, 2) := by decide +kernel
theorem dX10_people_115 : decode cX10_people 115 = .ok (.invokestatic 83, 3) := by decide +kernel
theorem dX10_people_118 : decode cX10_people 118 = .ok (.ifCond .eq 31, 3) := by decide +kernel
theorem dX10_people_121 : decode cX10_people 121 = .ok (.aload_n 0, 1) := by decide +kernel
theorem dX10_people_122 : decode cX10_people 122 = .ok (.getfield 10, 3) := by decide +kernel
theorem dX10_people_125 : decode cX10_people 125 = .ok (.iload 6, 2) := by decide +kernel
theorem dX10_people_127 : decode cX10_people 127 = .ok (.iload 7, 2) := by decide +kernel
theorem dX10_people_129 : decode cX10_people 129 = .ok (.invokevirtual 87, 3) := by decide +kernel
theorem dX10_people_132 : decode cX10_people 132 = .ok (.bipush (-3), 2) := by decide +kernel
theorem dX10_people_134 : decode cX10_people 134 = .ok (.if_icmp .ne 6, 3) := by decide +kernel
theorem dX10_people_137 : decode cX10_people 137 = .ok (.goto 12, 3) := by decide +kernel
theorem dX10_people_140 : decode cX10_people 140 = .ok (.iinc 4 1, 3) := by decide +kernel
theorem dX10_people_143 : decode cX10_people 143 = .ok (.iinc 5 2, 3) := by decide +kernel
theorem dX10_people_146 : decode cX10_people 146 = .ok (.goto (-89), 3) := by decide +kernel
theorem dX10_people_149 : decode cX10_people 149 = .ok (.iload 4, 2) := by decide +kernel
theorem dX10_people_151 : decode cX10_people 151 = .ok (.ireturn, 1) := by decide +kernel
theorem dX10_mend_0 : decode cX10_mend 0 = .ok (.aload_n 0, 1) := by decide +kernel
theorem dX10_mend_1 : decode cX10_mend 1 = .ok (.getfield 10, 3) := by decide +kernel
theorem dX10_mend_4 : decode cX10_mend 4 = .ok (.iload_n 1, 1) := by decide +kernel
theorem dX10_mend_5 : decode cX10_mend 5 = .ok (.iload_n 2, 1) := by decide +kernel
theorem dX10_mend_6 : decode cX10_mend 6 = .ok (.invokevirtual 109, 3) := by decide +kernel
theorem dX10_mend_9 : decode cX10_mend 9 = .ok (.istore 4, 2) := by decide +kernel
theorem dX10_mend_11 : decode cX10_mend 11 = .ok (.iload 4, 2) := by decide +kernel
theorem dX10_mend_13 : decode cX10_mend 13 = .ok (.ifCond .lt 15, 3) := by decide +kernel
theorem dX10_mend_16 : decode cX10_mend 16 = .ok (.iload_n 3, 1) := by decide +kernel
theorem dX10_mend_17 : decode cX10_mend 17 = .ok (.ifCond .lt 11, 3) := by decide +kernel
theorem dX10_mend_20 : decode cX10_mend 20 = .ok (.iload_n 3, 1) := by decide +kernel
theorem dX10_mend_21 : decode cX10_mend 21 = .ok (.iload_n 2, 1) := by decide +kernel
theorem dX10_mend_22 : decode cX10_mend 22 = .ok (.invokestatic 112, 3) := by decide +kernel
theorem dX10_mend_25 : decode cX10_mend 25 = .ok (.if_icmp .le 5, 3) := by decide +kernel
theorem dX10_mend_28 : decode cX10_mend 28 = .ok (.iconst (-1), 1) := by decide +kernel
theorem dX10_mend_29 : decode cX10_mend 29 = .ok (.ireturn, 1) := by decide +kernel
theorem dX10_mend_30 : decode cX10_mend 30 = .ok (.aload_n 0, 1) := by decide +kernel
theorem dX10_mend_31 : decode cX10_mend 31 = .ok (.iload 4, 2) := by decide +kernel
theorem dX10_mend_33 : decode cX10_mend 33 = .ok (.iload_n 3, 1) := by decide +kernel
theorem dX10_mend_34 : decode cX10_mend 34 = .ok (.invokevirtual 115, 3) := by decide +kernel
theorem dX10_mend_37 : decode cX10_mend 37 = .ok (.ireturn, 1) := by decide +kernel
theorem dX10_of_0 : decode cX10_of 0 = .ok (.aload_n 0, 1) := by decide +kernel
theorem dX10_of_1 : decode cX10_of 1 = .ok (.getfield 10, 3) := by decide +kernel
theorem dX10_of_4 : decode cX10_of 4 = .ok (.iload_n 1, 1) := by decide +kernel
theorem dX10_of_5 : decode cX10_of 5 = .ok (.iload_n 2, 1) := by decide +kernel
theorem dX10_of_6 : decode cX10_of 6 = .ok (.invokevirtual 109, 3) := by decide +kernel
theorem dX10_of_9 : decode cX10_of 9 = .ok (.istore_n 3, 1) := by decide +kernel
theorem dX10_of_10 : decode cX10_of 10 = .ok (.iload_n 3, 1) := by decide +kernel
theorem dX10_of_11 : decode cX10_of 11 = .ok (.ifCond .ge 7, 3) := by decide +kernel
theorem dX10_of_14 : decode cX10_of 14 = .ok (.iconst (-1), 1) := by decide +kernel
theorem dX10_of_15 : decode cX10_of 15 = .ok (.goto 11, 3) := by decide +kernel
theorem dX10_of_18 : decode cX10_of 18 = .ok (.aload_n 0, 1) := by decide +kernel
theorem dX10_of_19 : decode cX10_of 19 = .ok (.getfield 10, 3) := by decide +kernel
theorem dX10_of_22 : decode cX10_of 22 = .ok (.iload_n 3, 1) := by decide +kernel
theorem dX10_of_23 : decode cX10_of 23 = .ok (.invokevirtual 118, 3) := by decide +kernel
theorem dX10_of_26 : decode cX10_of 26 = .ok (.ireturn, 1) := by decide +kernel
theorem dX10_feel_0 : decode cX10_feel 0 = .ok (.aload_n 0, 1) := by decide +kernel
theorem dX10_feel_1 : decode cX10_feel 1 = .ok (.getfield 10, 3) := by decide +kernel
theorem dX10_feel_4 : decode cX10_feel 4 = .ok (.iload_n 1, 1) := by decide +kernel
theorem dX10_feel_5 : decode cX10_feel 5 = .ok (.invokevirtual 121, 3) := by decide +kernel
theorem dX10_feel_8 : decode cX10_feel 8 = .ok (.ifCond .eq 10, 3) := by decide +kernel
theorem dX10_feel_11 : decode cX10_feel 11 = .ok (.iload_n 2, 1) := by decide +kernel
theorem dX10_feel_12 : decode cX10_feel 12 = .ok (.invokestatic 124, 3) := by decide +kernel
theorem dX10_feel_15 : decode cX10_feel 15 = .ok (.ifCond .ne 5, 3) := by decide +kernel
theorem dX10_feel_18 : decode cX10_feel 18 = .ok (.iconst (-1), 1) := by decide +kernel
theorem dX10_feel_19 : decode cX10_feel 19 = .ok (.ireturn, 1) := by decide +kernel
theorem dX10_feel_20 : decode cX10_feel 20 = .ok (.aload_n 0, 1) := by decide +kernel
theorem dX10_feel_21 : decode cX10_feel 21 = .ok (.iload_n 1, 1) := by decide +kernel
theorem dX10_feel_22 : decode cX10_feel 22 = .ok (.bipush 10, 2) := by decide +kernel
theorem dX10_feel_24 : decode cX10_feel 24 = .ok (.idiv, 1) := by decide +kernel
theorem dX10_feel_25 : decode cX10_feel 25 = .ok (.iload_n 1, 1) := by decide +kernel
theorem dX10_feel_26 : decode cX10_feel 26 = .ok (.bipush 10, 2) := by decide +kernel
theorem dX10_feel_28 : decode cX10_feel 28 = .ok (.irem, 1) := by decide +kernel
theorem dX10_feel_29 : decode cX10_feel 29 = .ok (.invokestatic 127, 3) := by decide +kernel
theorem dX10_feel_32 : decode cX10_feel 32 = .ok (.iload_n 2, 1) := by decide +kernel
theorem dX10_feel_33 : decode cX10_feel 33 = .ok (.invokevirtual 115, 3) := by decide +kernel
theorem dX10_feel_36 : decode cX10_feel 36 = .ok (.bipush 100, 2) := by decide +kernel
theorem dX10_feel_38 : decode cX10_feel 38 = .ok (.iadd, 1) := by decide +kernel
theorem dX10_feel_39 : decode cX10_feel 39 = .ok (.ireturn, 1) := by decide +kernel
theorem dX10_feeling_0 : decode cX10_feeling 0 = .ok (.aload_n 0, 1) := by decide +kernel
theorem dX10_feeling_1 : decode cX10_feeling 1 = .ok (.getfield 10, 3) := by decide +kernel
theorem dX10_feeling_4 : decode cX10_feeling 4 = .ok (.iload_n 1, 1) := by decide +kernel
theorem dX10_feeling_5 : decode cX10_feeling 5 = .ok (.invokevirtual 121, 3) := by decide +kernel
theorem dX10_feeling_8 : decode cX10_feeling 8 = .ok (.ifCond .eq 24, 3) := by decide +kernel
theorem dX10_feeling_11 : decode cX10_feeling 11 = .ok (.aload_n 0, 1) := by decide +kernel
theorem dX10_feeling_12 : decode cX10_feeling 12 = .ok (.getfield 10, 3) := by decide +kernel
theorem dX10_feeling_15 : decode cX10_feeling 15 = .ok (.iload_n 1, 1) := by decide +kernel
theorem dX10_feeling_16 : decode cX10_feeling 16 = .ok (.bipush 10, 2) := by decide +kernel
theorem dX10_feeling_18 : decode cX10_feeling 18 = .ok (.idiv, 1) := by decide +kernel
theorem dX10_feeling_19 : decode cX10_feeling 19 = .ok (.iload_n 1, 1) := by decide +kernel
theorem dX10_feeling_20 : decode cX10_feeling 20 = .ok (.bipush 10, 2) := by decide +kernel
theorem dX10_feeling_22 : decode cX10_feeling 22 = .ok (.irem, 1) := by decide +kernel
theorem dX10_feeling_23 : decode cX10_feeling 23 = .ok (.invokevirtual 130, 3) := by decide +kernel
theorem dX10_feeling_26 : decode cX10_feeling 26 = .ok (.bipush 100, 2) := by decide +kernel
theorem dX10_feeling_28 : decode cX10_feeling 28 = .ok (.iadd, 1) := by decide +kernel
theorem dX10_feeling_29 : decode cX10_feeling 29 = .ok (.goto 4, 3) := by decide +kernel
theorem dX10_feeling_32 : decode cX10_feeling 32 = .ok (.iconst (-1), 1) := by decide +kernel
theorem dX10_feeling_33 : decode cX10_feeling 33 = .ok (.ireturn, 1) := by decide +kernel
theorem dX10_feed_0 : decode cX10_feed 0 = .ok (.iload_n 1, 1) := by decide +kernel
theorem dX10_feed_1 : decode cX10_feed 1 = .ok (.ifCond .lt 10, 3) := by decide +kernel
theorem dX10_feed_4 : decode cX10_feed 4 = .ok (.iload_n 1, 1) := by decide +kernel
theorem dX10_feed_5 : decode cX10_feed 5 = .ok (.sipush 255, 3) := by decide +kernel
theorem dX10_feed_8 : decode cX10_feed 8 = .ok (.if_icmp .le 7, 3) := by decide +kernel
theorem dX10_feed_11 : decode cX10_feed 11 = .ok (.iconst (-1), 1) := by decide +kernel
theorem dX10_feed_12 : decode cX10_feed 12 = .ok (.goto 11, 3) := by decide +kernel
theorem dX10_feed_15 : decode cX10_feed 15 = .ok (.aload_n 0, 1) := by decide +kernel
theorem dX10_feed_16 : decode cX10_feed 16 = .ok (.getfield 19, 3) := by decide +kernel
theorem dX10_feed_19 : decode cX10_feed 19 = .ok (.iload_n 1, 1) := by decide +kernel
theorem dX10_feed_20 : decode cX10_feed 20 = .ok (.invokevirtual 133, 3) := by decide +kernel
theorem dX10_feed_23 : decode cX10_feed 23 = .ok (.ireturn, 1) := by decide +kernel
theorem dX10_law_0 : decode cX10_law 0 = .ok (.aload_n 0, 1) := by decide +kernel
theorem dX10_law_1 : decode cX10_law 1 = .ok (.getfield 19, 3) := by decide +kernel
theorem dX10_law_4 : decode cX10_law 4 = .ok (.invokevirtual 136, 3) := by decide +kernel
theorem dX10_law_7 : decode cX10_law 7 = .ok (.istore_n 1, 1) := by decide +kernel
theorem dX10_law_8 : decode cX10_law 8 = .ok (.iload_n 1, 1) := by decide +kernel
theorem dX10_law_9 : decode cX10_law 9 = .ok (.iconst (-1), 1) := by decide +kernel
theorem dX10_law_10 : decode cX10_law 10 = .ok (.if_icmp .ne 14, 3) := by decide +kernel
theorem dX10_law_13 : decode cX10_law 13 = .ok (.aload_n 0, 1) := by decide +kernel
theorem dX10_law_14 : decode cX10_law 14 = .ok (.getfield 26, 3) := by decide +kernel
theorem dX10_law_17 : decode cX10_law 17 = .ok (.aload_n 0, 1) := by decide +kernel
theorem dX10_law_18 : decode cX10_law 18 = .ok (.getfield 19, 3) := by decide +kernel
theorem dX10_law_21 : decode cX10_law 21 = .ok (.invokevirtual 140, 3) := by decide +kernel
theorem dX10_law_24 : decode cX10_law 24 = .ok (.aload_n 0, 1) := by decide +kernel
theorem dX10_law_25 : decode cX10_law 25 = .ok (.getfield 19, 3) := by decide +kernel
theorem dX10_law_28 : decode cX10_law 28 = .ok (.invokevirtual 144, 3) := by decide +kernel
theorem dX10_law_31 : decode cX10_law 31 = .ok (.iload_n 1, 1) := by decide +kernel
theorem dX10_law_32 : decode cX10_law 32 = .ok (.iconst (-1), 1) := by decide +kernel
theorem dX10_law_33 : decode cX10_law 33 = .ok (.if_icmp .ne 7, 3) := by decide +kernel
theorem dX10_law_36 : decode cX10_law 36 = .ok (.iconst 1, 1) := by decide +kernel
theorem dX10_law_37 : decode cX10_law 37 = .ok (.goto 7, 3) := by decide +kernel
theorem dX10_law_40 : decode cX10_law 40 = .ok (.bipush (-100), 2) := by decide +kernel
theorem dX10_law_42 : decode cX10_law 42 = .ok (.iload_n 1, 1) := by decide +kernel
theorem dX10_law_43 : decode cX10_law 43 = .ok (.isub, 1) := by decide +kernel
theorem dX10_law_44 : decode cX10_law 44 = .ok (.ireturn, 1) := by decide +kernel
theorem dX10_changeTo_0 : decode cX10_changeTo 0 = .ok (.aload_n 0, 1) := by decide +kernel
theorem dX10_changeTo_1 : decode cX10_changeTo 1 = .ok (.getfield 10, 3) := by decide +kernel
theorem dX10_changeTo_4 : decode cX10_changeTo 4 = .ok (.iload_n 1, 1) := by decide +kernel
theorem dX10_changeTo_5 : decode cX10_changeTo 5 = .ok (.invokevirtual 118, 3) := by decide +kernel
theorem dX10_changeTo_8 : decode cX10_changeTo 8 = .ok (.istore_n 3, 1) := by decide +kernel
theorem dX10_changeTo_9 : decode cX10_changeTo 9 = .ok (.iload_n 3, 1) := by decide +kernel
theorem dX10_changeTo_10 : decode cX10_changeTo 10 = .ok (.iload_n 2, 1) := by decide +kernel
theorem dX10_changeTo_11 : decode cX10_changeTo 11 = .ok (.if_icmp .eq 22, 3) := by decide +kernel
theorem dX10_changeTo_14 : decode cX10_changeTo 14 = .ok (.aload_n 0, 1) := by decide +kernel
theorem dX10_changeTo_15 : decode cX10_changeTo 15 = .ok (.getfield 72, 3) := by decide +kernel
theorem dX10_changeTo_18 : decode cX10_changeTo 18 = .ok (.iload_n 1, 1) := by decide +kernel
theorem dX10_changeTo_19 : decode cX10_changeTo 19 = .ok (.iload_n 3, 1) := by decide +kernel
theorem dX10_changeTo_20 : decode cX10_changeTo 20 = .ok (.iload_n 2, 1) := by decide +kernel
theorem dX10_changeTo_21 : decode cX10_changeTo 21 = .ok (.invokevirtual 147, 3) := by decide +kernel
theorem dX10_changeTo_24 : decode cX10_changeTo 24 = .ok (.aload_n 0, 1) := by decide +kernel
theorem dX10_changeTo_25 : decode cX10_changeTo 25 = .ok (.getfield 10, 3) := by decide +kernel
theorem dX10_changeTo_28 : decode cX10_changeTo 28 = .ok (.iload_n 1, 1) := by decide +kernel
theorem dX10_changeTo_29 : decode cX10_changeTo 29 = .ok (.iload_n 2, 1) := by decide +kernel
theorem dX10_changeTo_30 : decode cX10_changeTo 30 = .ok (.invokevirtual 151, 3) := by decide +kernel
theorem dX10_changeTo_33 : decode cX10_changeTo 33 = .ok (.iload_n 3, 1) := by decide +kernel
theorem dX10_changeTo_34 : decode cX10_changeTo 34 = .ok (.ireturn, 1) := by decide +kernel
theorem dX10_paired_0 : decode cX10_paired 0 = .ok (.aload_n 0, 1) := by decide +kernel
theorem dX10_paired_1 : decode cX10_paired 1 = .ok (.iload_n 1, 1) := by decide +kernel
theorem dX10_paired_2 : decode cX10_paired 2 = .ok (.invokevirtual 155, 3) := by decide +kernel
theorem dX10_paired_5 : decode cX10_paired 5 = .ok (.ifCond .ne 5, 3) := by decide +kernel
theorem dX10_paired_8 : decode cX10_paired 8 = .ok (.iconst (-1), 1) := by decide +kernel
theorem dX10_paired_9 : decode cX10_paired 9 = .ok (.ireturn, 1) := by decide +kernel
theorem dX10_paired_10 : decode cX10_paired 10 = .ok (.aload_n 0, 1) := by decide +kernel
theorem dX10_paired_11 : decode cX10_paired 11 = .ok (.getfield 51, 3) := by decide +kernel
theorem dX10_paired_14 : decode cX10_paired 14 = .ok (.invokevirtual 158, 3) := by decide +kernel
theorem dX10_paired_17 : decode cX10_paired 17 = .ok (.iload_n 1, 1) := by decide +kernel
theorem dX10_paired_18 : decode cX10_paired 18 = .ok (.iconst (-1), 1) := by decide +kernel
theorem dX10_paired_19 : decode cX10_paired 19 = .ok (.if_icmp .ne 21, 3) := by decide +kernel
theorem dX10_paired_22 : decode cX10_paired 22 = .ok (.aload_n 0, 1) := by decide +kernel
theorem dX10_paired_23 : decode cX10_paired 23 = .ok (.getfield 10, 3) := by decide +kernel
theorem dX10_paired_26 : decode cX10_paired 26 = .ok (.getfield 161, 3) := by decide +kernel
theorem dX10_paired_29 : decode cX10_paired 29 = .ok (.aload_n 0, 1) := by decide +kernel
theorem dX10_paired_30 : decode cX10_paired 30 = .ok (.getfield 51, 3) := by decide +kernel
theorem dX10_paired_33 : decode cX10_paired 33 = .ok (.invokevirtual 165, 3) := by decide +kernel
theorem dX10_paired_36 : decode cX10_paired 36 = .ok (.isub, 1) := by decide +kernel
theorem dX10_paired_37 : decode cX10_paired 37 = .ok (.goto 11, 3) := by decide +kernel
theorem dX10_paired_40 : decode cX10_paired 40 = .ok (.aload_n 0, 1) := by decide +kernel
theorem dX10_paired_41 : decode cX10_paired 41 = .ok (.getfield 51, 3) := by decide +kernel
theorem dX10_paired_44 : decode cX10_paired 44 = .ok (.iload_n 1, 1) := by decide +kernel
theorem dX10_paired_45 : decode cX10_paired 45 = .ok (.invokevirtual 168, 3) := by decide +kernel
theorem dX10_paired_48 : decode cX10_paired 48 = .ok (.ireturn, 1) := by decide +kernel
theorem dX10_harm_0 : decode cX10_harm 0 = .ok (.aload_n 0, 1) := by decide +kernel
theorem dX10_harm_1 : decode cX10_harm 1 = .ok (.iload_n 1, 1) := by decide +kernel
theorem dX10_harm_2 : decode cX10_harm 2 = .ok (.invokevirtual 155, 3) := by decide +kernel
theorem dX10_harm_5 : decode cX10_harm 5 = .ok (.ifCond .ne 5, 3) := by decide +kernel
theorem dX10_harm_8 : decode cX10_harm 8 = .ok (.iconst (-1), 1) := by decide +kernel
theorem dX10_harm_9 : decode cX10_harm 9 = .ok (.ireturn, 1) := by decide +kernel
theorem dX10_harm_10 : decode cX10_harm 10 = .ok (.aload_n 0, 1) := by decide +kernel
theorem dX10_harm_11 : decode cX10_harm 11 = .ok (.getfield 51, 3) := by decide +kernel
theorem dX10_harm_14 : decode cX10_harm 14 = .ok (.invokevirtual 171, 3) := by decide +kernel
theorem dX10_harm_17 : decode cX10_harm 17 = .ok (.aload_n 0, 1) := by decide +kernel
theorem dX10_harm_18 : decode cX10_harm 18 = .ok (.getfield 51, 3) := by decide +kernel
theorem dX10_harm_21 : decode cX10_harm 21 = .ok (.invokevirtual 174, 3) := by decide +kernel
theorem dX10_harm_24 : decode cX10_harm 24 = .ok (.ifCond .ne 6, 3) := by decide +kernel
theorem dX10_harm_27 : decode cX10_harm 27 = .ok (.bipush (-2), 2) := by decide +kernel
theorem dX10_harm_29 : decode cX10_harm 29 = .ok (.ireturn, 1) := by decide +kernel
theorem dX10_harm_30 : decode cX10_harm 30 = .ok (.iload_n 1, 1) := by decide +kernel
theorem dX10_harm_31 : decode cX10_harm 31 = .ok (.iconst (-1), 1) := by decide +kernel
theorem dX10_harm_32 : decode cX10_harm 32 = .ok (.if_icmp .ne 13, 3) := by decide +kernel
theorem dX10_harm_35 : decode cX10_harm 35 = .ok (.aload_n 0, 1) := by decide +kernel
theorem dX10_harm_36 : decode cX10_harm 36 = .ok (.getfield 51, 3) := by decide +kernel
theorem dX10_harm_39 : decode cX10_harm 39 = .ok (.invokevirtual 165, 3) := by decide +kernel
theorem dX10_harm_42 : decode cX10_harm 42 = .ok (.goto 11, 3) := by decide +kernel
theorem dX10_harm_45 : decode cX10_harm 45 = .ok (.aload_n 0, 1) := by decide +kernel
theorem dX10_harm_46 : decode cX10_harm 46 = .ok (.getfield 51, 3) := by decide +kernel
theorem dX10_harm_49 : decode cX10_harm 49 = .ok (.iload_n 1, 1) := by decide +kernel
theorem dX10_harm_50 : decode cX10_harm 50 = .ok (.invokevirtual 168, 3) := by decide +kernel
theorem dX10_harm_53 : decode cX10_harm 53 = .ok (.ireturn, 1) := by decide +kernel
theorem dX10_lacks_0 : decode cX10_lacks 0 = .ok (.iload_n 2, 1) := by decide +kernel
theorem dX10_lacks_1 : decode cX10_lacks 1 = .ok (.ifCond .ne 19, 3) := by decide +kernel
theorem dX10_lacks_4 : decode cX10_lacks 4 = .ok (.iload_n 1, 1) := by decide +kernel
theorem dX10_lacks_5 : decode cX10_lacks 5 = .ok (.ifCond .ne 13, 3) := by decide +kernel
theorem dX10_lacks_8 : decode cX10_lacks 8 = .ok (.aload_n 0, 1) := by decide +kernel
theorem dX10_lacks_9 : decode cX10_lacks 9 = .ok (.getfield 10, 3) := by decide +kernel
theorem dX10_lacks_12 : decode cX10_lacks 12 = .ok (.invokevirtual 178, 3) := by decide +kernel
theorem dX10_lacks_15 : decode cX10_lacks 15 = .ok (.goto 4, 3) := by decide +kernel
theorem dX10_lacks_18 : decode cX10_lacks 18 = .ok (.iconst (-1), 1) := by decide +kernel
theorem dX10_lacks_19 : decode cX10_lacks 19 = .ok (.ireturn, 1) := by decide +kernel
theorem dX10_lacks_20 : decode cX10_lacks 20 = .ok (.iload_n 2, 1) := by decide +kernel
theorem dX10_lacks_21 : decode cX10_lacks 21 = .ok (.ifCond .lt 19, 3) := by decide +kernel
theorem dX10_lacks_24 : decode cX10_lacks 24 = .ok (.iload_n 2, 1) := by decide +kernel
theorem dX10_lacks_25 : decode cX10_lacks 25 = .ok (.iconst 2, 1) := by decide +kernel
theorem dX10_lacks_26 : decode cX10_lacks 26 = .ok (.if_icmp .gt 14, 3) := by decide +kernel
theorem dX10_lacks_29 : decode cX10_lacks 29 = .ok (.aload_n 0, 1) := by decide +kernel
theorem dX10_lacks_30 : decode cX10_lacks 30 = .ok (.getfield 10, 3) := by decide +kernel
theorem dX10_lacks_33 : decode cX10_lacks 33 = .ok (.iload_n 1, 1) := by decide +kernel
theorem dX10_lacks_34 : decode cX10_lacks 34 = .ok (.invokevirtual 181, 3) := by decide +kernel
theorem dX10_lacks_37 : decode cX10_lacks 37 = .ok (.ifCond .ne 5, 3) := by decide +kernel
theorem dX10_lacks_40 : decode cX10_lacks 40 = .ok (.iconst (-1), 1) := by decide +kernel
theorem dX10_lacks_41 : decode cX10_lacks 41 = .ok (.ireturn, 1) := by decide +kernel
theorem dX10_lacks_42 : decode cX10_lacks 42 = .ok (.iload_n 2, 1) := by decide +kernel
theorem dX10_lacks_43 : decode cX10_lacks 43 = .ok (.iconst 1, 1) := by decide +kernel
theorem dX10_lacks_44 : decode cX10_lacks 44 = .ok (.if_icmp .ne 14, 3) := by decide +kernel
theorem dX10_lacks_47 : decode cX10_lacks 47 = .ok (.aload_n 0, 1) := by decide +kernel
theorem dX10_lacks_48 : decode cX10_lacks 48 = .ok (.getfield 10, 3) := by decide +kernel
theorem dX10_lacks_51 : decode cX10_lacks 51 = .ok (.iload_n 1, 1) := by decide +kernel
theorem dX10_lacks_52 : decode cX10_lacks 52 = .ok (.invokevirtual 182, 3) := by decide +kernel
theorem dX10_lacks_55 : decode cX10_lacks 55 = .ok (.goto 11, 3) := by decide +kernel
theorem dX10_lacks_58 : decode cX10_lacks 58 = .ok (.aload_n 0, 1) := by decide +kernel
theorem dX10_lacks_59 : decode cX10_lacks 59 = .ok (.getfield 10, 3) := by decide +kernel
theorem dX10_lacks_62 : decode cX10_lacks 62 = .ok (.iload_n 1, 1) := by decide +kernel
theorem dX10_lacks_63 : decode cX10_lacks 63 = .ok (.invokevirtual 185, 3) := by decide +kernel
theorem dX10_lacks_66 : decode cX10_lacks 66 = .ok (.ireturn, 1) := by decide +kernel
theorem dX10_later_0 : decode cX10_later 0 = .ok (.iload_n 1, 1) := by decide +kernel
theorem dX10_later_1 : decode cX10_later 1 = .ok (.ifCond .lt 17, 3) := by decide +kernel
theorem dX10_later_4 : decode cX10_later 4 = .ok (.iload_n 1, 1) := by decide +kernel
theorem dX10_later_5 : decode cX10_later 5 = .ok (.bipush 40, 2) := by decide +kernel
theorem dX10_later_7 : decode cX10_later 7 = .ok (.if_icmp .gt 11, 3) := by decide +kernel
theorem dX10_later_10 : decode cX10_later 10 = .ok (.aload_n 0, 1) := by decide +kernel
theorem dX10_later_11 : decode cX10_later 11 = .ok (.iload_n 2, 1) := by decide +kernel
theorem dX10_later_12 : decode cX10_later 12 = .ok (.invokevirtual 155, 3) := by decide +kernel
theorem dX10_later_15 : decode cX10_later 15 = .ok (.ifCond .ne 5, 3) := by decide +kernel
theorem dX10_later_18 : decode cX10_later 18 = .ok (.iconst (-1), 1) := by decide +kernel
theorem dX10_later_19 : decode cX10_later 19 = .ok (.ireturn, 1) := by decide +kernel
theorem dX10_later_20 : decode cX10_later 20 = .ok (.aload_n 0, 1) := by decide +kernel
theorem dX10_later_21 : decode cX10_later 21 = .ok (.getfield 42, 3) := by decide +kernel
theorem dX10_later_24 : decode cX10_later 24 = .ok (.invokevirtual 188, 3) := by decide +kernel
theorem dX10_later_27 : decode cX10_later 27 = .ok (.aload_n 0, 1) := by decide +kernel
theorem dX10_later_28 : decode cX10_later 28 = .ok (.getfield 42, 3) := by decide +kernel
theorem dX10_later_31 : decode cX10_later 31 = .ok (.iload_n 1, 1) := by decide +kernel
theorem dX10_later_32 : decode cX10_later 32 = .ok (.invokevirtual 191, 3) := by decide +kernel
theorem dX10_later_35 : decode cX10_later 35 = .ok (.istore_n 3, 1) := by decide +kernel
theorem dX10_later_36 : decode cX10_later 36 = .ok (.iload_n 2, 1) := by decide +kernel
theorem dX10_later_37 : decode cX10_later 37 = .ok (.iconst (-1), 1) := by decide +kernel
theorem dX10_later_38 : decode cX10_later 38 = .ok (.if_icmp .ne 7, 3) := by decide +kernel
theorem dX10_later_41 : decode cX10_later 41 = .ok (.iload_n 3, 1) := by decide +kernel
theorem dX10_later_42 : decode cX10_later 42 = .ok (.goto 14, 3) := by decide +kernel
theorem dX10_later_45 : decode cX10_later 45 = .ok (.aload_n 0, 1) := by decide +kernel
theorem dX10_later_46 : decode cX10_later 46 = .ok (.getfield 42, 3) := by decide +kernel
theorem dX10_later_49 : decode cX10_later 49 = .ok (.getfield 194, 3) := by decide +kernel
theorem dX10_later_52 : decode cX10_later 52 = .ok (.iload_n 2, 1) := by decide +kernel
theorem dX10_later_53 : decode cX10_later 53 = .ok (.invokevirtual 197, 3) := by decide +kernel
theorem dX10_later_56 : decode cX10_later 56 = .ok (.ireturn, 1) := by decide +kernel
theorem dX10_feltLater_0 : decode cX10_feltLater 0 = .ok (.iload_n 1, 1) := by decide +kernel
theorem dX10_feltLater_1 : decode cX10_feltLater 1 = .ok (.ifCond .lt 20, 3) := by decide +kernel
theorem dX10_feltLater_4 : decode cX10_feltLater 4 = .ok (.iload_n 1, 1) := by decide +kernel
theorem dX10_feltLater_5 : decode cX10_feltLater 5 = .ok (.bipush 40, 2) := by decide +kernel
theorem dX10_feltLater_7 : decode cX10_feltLater 7 = .ok (.if_icmp .gt 14, 3) := by decide +kernel
theorem dX10_feltLater_10 : decode cX10_feltLater 10 = .ok (.aload_n 0, 1) := by decide +kernel
theorem dX10_feltLater_11 : decode cX10_feltLater 11 = .ok (.getfield 10, 3) := by decide +kernel
theorem dX10_feltLater_14 : decode cX10_feltLater 14 = .ok (.iload_n 2, 1) := by decide +kernel
theorem dX10_feltLater_15 : decode cX10_feltLater 15 = .ok (.invokevirtual 121, 3) := by decide +kernel
theorem dX10_feltLater_18 : decode cX10_feltLater 18 = .ok (.ifCond .ne 5, 3) := by decide +kernel
theorem dX10_feltLater_21 : decode cX10_feltLater 21 = .ok (.iconst (-1), 1) := by decide +kernel
theorem dX10_feltLater_22 : decode cX10_feltLater 22 = .ok (.ireturn, 1) := by decide +kernel
theorem dX10_feltLater_23 : decode cX10_feltLater 23 = .ok (.aload_n 0, 1) := by decide +kernel
theorem dX10_feltLater_24 : decode cX10_feltLater 24 = .ok (.getfield 42, 3) := by decide +kernel
theorem dX10_feltLater_27 : decode cX10_feltLater 27 = .ok (.invokevirtual 188, 3) := by decide +kernel
theorem dX10_feltLater_30 : decode cX10_feltLater 30 = .ok (.aload_n 0, 1) := by decide +kernel
theorem dX10_feltLater_31 : decode cX10_feltLater 31 = .ok (.getfield 42, 3) := by decide +kernel
theorem dX10_feltLater_34 : decode cX10_feltLater 34 = .ok (.iload_n 1, 1) := by decide +kernel
theorem dX10_feltLater_35 : decode cX10_feltLater 35 = .ok (.invokevirtual 191, 3) := by decide +kernel
theorem dX10_feltLater_38 : decode cX10_feltLater 38 = .ok (.pop, 1) := by decide +kernel
theorem dX10_feltLater_39 : decode cX10_feltLater 39 = .ok (.aload_n 0, 1) := by decide +kernel
theorem dX10_feltLater_40 : decode cX10_feltLater 40 = .ok (.getfield 42, 3) := by decide +kernel
theorem dX10_feltLater_43 : decode cX10_feltLater 43 = .ok (.getfield 194, 3) := by decide +kernel
theorem dX10_feltLater_46 : decode cX10_feltLater 46 = .ok (.iload_n 2, 1) := by decide +kernel
theorem dX10_feltLater_47 : decode cX10_feltLater 47 = .ok (.bipush 10, 2) := by decide +kernel
theorem dX10_feltLater_49 : decode cX10_feltLater 49 = .ok (.idiv, 1) := by decide +kernel
theorem dX10_feltLater_50 : decode cX10_feltLater 50 = .ok (.iload_n 2, 1) := by decide +kernel
theorem dX10_feltLater_51 : decode cX10_feltLater 51 = .ok (.bipush 10, 2) := by decide +kernel
theorem dX10_feltLater_53 : decode cX10_feltLater 53 = .ok (.irem, 1) := by decide +kernel
theorem dX10_feltLater_54 : decode cX10_feltLater 54 = .ok (.invokevirtual 130, 3) := by decide +kernel
theorem dX10_feltLater_57 : decode cX10_feltLater 57 = .ok (.bipush 100, 2) := by decide +kernel
theorem dX10_feltLater_59 : decode cX10_feltLater 59 = .ok (.iadd, 1) := by decide +kernel
theorem dX10_feltLater_60 : decode cX10_feltLater 60 = .ok (.ireturn, 1) := by decide +kernel
theorem dX10_lasts_0 : decode cX10_lasts 0 = .ok (.aload_n 0, 1) := by decide +kernel
theorem dX10_lasts_1 : decode cX10_lasts 1 = .ok (.getfield 10, 3) := by decide +kernel
theorem dX10_lasts_4 : decode cX10_lasts 4 = .ok (.iload_n 1, 1) := by decide +kernel
theorem dX10_lasts_5 : decode cX10_lasts 5 = .ok (.invokevirtual 181, 3) := by decide +kernel
theorem dX10_lasts_8 : decode cX10_lasts 8 = .ok (.ifCond .ne 5, 3) := by decide +kernel
theorem dX10_lasts_11 : decode cX10_lasts 11 = .ok (.iconst (-1), 1) := by decide +kernel
theorem dX10_lasts_12 : decode cX10_lasts 12 = .ok (.ireturn, 1) := by decide +kernel
theorem dX10_lasts_13 : decode cX10_lasts 13 = .ok (.aload_n 0, 1) := by decide +kernel
theorem dX10_lasts_14 : decode cX10_lasts 14 = .ok (.getfield 42, 3) := by decide +kernel
theorem dX10_lasts_17 : decode cX10_lasts 17 = .ok (.invokevirtual 188, 3) := by decide +kernel
theorem dX10_lasts_20 : decode cX10_lasts 20 = .ok (.aload_n 0, 1) := by decide +kernel
theorem dX10_lasts_21 : decode cX10_lasts 21 = .ok (.getfield 42, 3) := by decide +kernel
theorem dX10_lasts_24 : decode cX10_lasts 24 = .ok (.iload_n 1, 1) := by decide +kernel
theorem dX10_lasts_25 : decode cX10_lasts 25 = .ok (.invokevirtual 200, 3) := by decide +kernel
theorem dX10_lasts_28 : decode cX10_lasts 28 = .ok (.ireturn, 1) := by decide +kernel
theorem dX10_renewed_0 : decode cX10_renewed 0 = .ok (.aload_n 0, 1) := by decide +kernel
theorem dX10_renewed_1 : decode cX10_renewed 1 = .ok (.getfield 10, 3) := by decide +kernel
theorem dX10_renewed_4 : decode cX10_renewed 4 = .ok (.iload_n 1, 1) := by decide +kernel
theorem dX10_renewed_5 : decode cX10_renewed 5 = .ok (.invokevirtual 121, 3) := by decide +kernel
theorem dX10_renewed_8 : decode cX10_renewed 8 = .ok (.ifCond .eq 10, 3) := by decide +kernel
theorem dX10_renewed_11 : decode cX10_renewed 11 = .ok (.iload_n 2, 1) := by decide +kernel
theorem dX10_renewed_12 : decode cX10_renewed 12 = .ok (.invokestatic 124, 3) := by decide +kernel
theorem dX10_renewed_15 : decode cX10_renewed 15 = .ok (.ifCond .ne 5, 3) := by decide +kernel
theorem dX10_renewed_18 : decode cX10_renewed 18 = .ok (.iconst (-1), 1) := by decide +kernel
theorem dX10_renewed_19 : decode cX10_renewed 19 = .ok (.ireturn, 1) := by decide +kernel
theorem dX10_renewed_20 : decode cX10_renewed 20 = .ok (.aload_n 0, 1) := by decide +kernel
theorem dX10_renewed_21 : decode cX10_renewed 21 = .ok (.getfield 42, 3) := by decide +kernel
theorem dX10_renewed_24 : decode cX10_renewed 24 = .ok (.invokevirtual 188, 3) := by decide +kernel
theorem dX10_renewed_27 : decode cX10_renewed 27 = .ok (.aload_n 0, 1) := by decide +kernel
theorem dX10_renewed_28 : decode cX10_renewed 28 = .ok (.getfield 42, 3) := by decide +kernel
theorem dX10_renewed_31 : decode cX10_renewed 31 = .ok (.getfield 194, 3) := by decide +kernel
theorem dX10_renewed_34 : decode cX10_renewed 34 = .ok (.iload_n 1, 1) := by decide +kernel
theorem dX10_renewed_35 : decode cX10_renewed 35 = .ok (.bipush 10, 2) := by decide +kernel
theorem dX10_renewed_37 : decode cX10_renewed 37 = .ok (.idiv, 1) := by decide +kernel
theorem dX10_renewed_38 : decode cX10_renewed 38 = .ok (.iload_n 1, 1) := by decide +kernel
theorem dX10_renewed_39 : decode cX10_renewed 39 = .ok (.bipush 10, 2) := by decide +kernel
theorem dX10_renewed_41 : decode cX10_renewed 41 = .ok (.irem, 1) := by decide +kernel
theorem dX10_renewed_42 : decode cX10_renewed 42 = .ok (.iload_n 2, 1) := by decide +kernel
theorem dX10_renewed_43 : decode cX10_renewed 43 = .ok (.invokevirtual 203, 3) := by decide +kernel
theorem dX10_renewed_46 : decode cX10_renewed 46 = .ok (.aload_n 0, 1) := by decide +kernel
theorem dX10_renewed_47 : decode cX10_renewed 47 = .ok (.getfield 42, 3) := by decide +kernel
theorem dX10_renewed_50 : decode cX10_renewed 50 = .ok (.iload_n 1, 1) := by decide +kernel
theorem dX10_renewed_51 : decode cX10_renewed 51 = .ok (.bipush 10, 2) := by decide +kernel
theorem dX10_renewed_53 : decode cX10_renewed 53 = .ok (.irem, 1) := by decide +kernel
theorem dX10_renewed_54 : decode cX10_renewed 54 = .ok (.invokevirtual 200, 3) := by decide +kernel
theorem dX10_renewed_57 : decode cX10_renewed 57 = .ok (.ireturn, 1) := by decide +kernel
theorem dX10_worth_0 : decode cX10_worth 0 = .ok (.aload_n 0, 1) := by decide +kernel
theorem dX10_worth_1 : decode cX10_worth 1 = .ok (.getfield 10, 3) := by decide +kernel
theorem dX10_worth_4 : decode cX10_worth 4 = .ok (.iload_n 1, 1) := by decide +kernel
theorem dX10_worth_5 : decode cX10_worth 5 = .ok (.invokevirtual 181, 3) := by decide +kernel
theorem dX10_worth_8 : decode cX10_worth 8 = .ok (.ifCond .eq 22, 3) := by decide +kernel
theorem dX10_worth_11 : decode cX10_worth 11 = .ok (.iload_n 2, 1) := by decide +kernel
theorem dX10_worth_12 : decode cX10_worth 12 = .ok (.ifCond .lt 18, 3) := by decide +kernel
theorem dX10_worth_15 : decode cX10_worth 15 = .ok (.iload_n 2, 1) := by decide +kernel
theorem dX10_worth_16 : decode cX10_worth 16 = .ok (.bipush 40, 2) := by decide +kernel
theorem dX10_worth_18 : decode cX10_worth 18 = .ok (.if_icmp .gt 12, 3) := by decide +kernel
theorem dX10_worth_21 : decode cX10_worth 21 = .ok (.iload_n 3, 1) := by decide +kernel
theorem dX10_worth_22 : decode cX10_worth 22 = .ok (.ifCond .lt 8, 3) := by decide +kernel
theorem dX10_worth_25 : decode cX10_worth 25 = .ok (.iload_n 3, 1) := by decide +kernel
theorem dX10_worth_26 : decode cX10_worth 26 = .ok (.iconst 1, 1) := by decide +kernel
theorem dX10_worth_27 : decode cX10_worth 27 = .ok (.if_icmp .le 5, 3) := by decide +kernel
theorem dX10_worth_30 : decode cX10_worth 30 = .ok (.iconst (-1), 1) := by decide +kernel
theorem dX10_worth_31 : decode cX10_worth 31 = .ok (.ireturn, 1) := by decide +kernel
theorem dX10_worth_32 : decode cX10_worth 32 = .ok (.aload_n 0, 1) := by decide +kernel
theorem dX10_worth_33 : decode cX10_worth 33 = .ok (.getfield 42, 3) := by decide +kernel
theorem dX10_worth_36 : decode cX10_worth 36 = .ok (.iload_n 1, 1) := by decide +kernel
theorem dX10_worth_37 : decode cX10_worth 37 = .ok (.iload_n 2, 1) := by decide +kernel
theorem dX10_worth_38 : decode cX10_worth 38 = .ok (.invokevirtual 206, 3) := by decide +kernel
theorem dX10_worth_41 : decode cX10_worth 41 = .ok (.aload_n 0, 1) := by decide +kernel
theorem dX10_worth_42 : decode cX10_worth 42 = .ok (.getfield 42, 3) := by decide +kernel
theorem dX10_worth_45 : decode cX10_worth 45 = .ok (.getfield 209, 3) := by decide +kernel
theorem dX10_worth_48 : decode cX10_worth 48 = .ok (.bipush 8, 2) := by decide +kernel
theorem dX10_worth_50 : decode cX10_worth 50 = .ok (.if_icmp .ne 6, 3) := by decide +kernel
theorem dX10_worth_53 : decode cX10_worth 53 = .ok (.bipush (-2), 2) := by decide +kernel
theorem dX10_worth_55 : decode cX10_worth 55 = .ok (.ireturn, 1) := by decide +kernel
theorem dX10_worth_56 : decode cX10_worth 56 = .ok (.iload_n 3, 1) := by decide +kernel
theorem dX10_worth_57 : decode cX10_worth 57 = .ok (.ifCond .ne 13, 3) := by decide +kernel
theorem dX10_worth_60 : decode cX10_worth 60 = .ok (.aload_n 0, 1) := by decide +kernel
theorem dX10_worth_61 : decode cX10_worth 61 = .ok (.getfield 42, 3) := by decide +kernel
theorem dX10_worth_64 : decode cX10_worth 64 = .ok (.getfield 209, 3) := by decide +kernel
theorem dX10_worth_67 : decode cX10_worth 67 = .ok (.goto 10, 3) := by decide +kernel
theorem dX10_worth_70 : decode cX10_worth 70 = .ok (.aload_n 0, 1) := by decide +kernel
theorem dX10_worth_71 : decode cX10_worth 71 = .ok (.getfield 42, 3) := by decide +kernel
theorem dX10_worth_74 : decode cX10_worth 74 = .ok (.getfield 212, 3) := by decide +kernel
theorem dX10_worth_77 : decode cX10_worth 77 = .ok (.ireturn, 1) := by decide +kernel
theorem dX10_ring_0 : decode cX10_ring 0 = .ok (.aload_n 0, 1) := by decide +kernel
theorem dX10_ring_1 : decode cX10_ring 1 = .ok (.getfield 10, 3) := by decide +kernel
theorem dX10_ring_4 : decode cX10_ring 4 = .ok (.invokevirtual 215, 3) := by decide +kernel
theorem dX10_ring_7 : decode cX10_ring 7 = .ok (.ireturn, 1) := by decide +kernel
theorem dX10_isOneOrAll_0 : decode cX10_isOneOrAll 0 = .ok (.iload_n 1, 1) := by decide +kernel
theorem dX10_isOneOrAll_1 : decode cX10_isOneOrAll 1 = .ok (.iconst (-1), 1) := by decide +kernel
theorem dX10_isOneOrAll_2 : decode cX10_isOneOrAll 2 = .ok (.if_icmp .eq 14, 3) := by decide +kernel
theorem dX10_isOneOrAll_5 : decode cX10_isOneOrAll 5 = .ok (.aload_n 0, 1) := by decide +kernel
theorem dX10_isOneOrAll_6 : decode cX10_isOneOrAll 6 = .ok (.getfield 10, 3) := by decide +kernel
theorem dX10_isOneOrAll_9 : decode cX10_isOneOrAll 9 = .ok (.iload_n 1, 1) := by decide +kernel
theorem dX10_isOneOrAll_10 : decode cX10_isOneOrAll 10 = .ok (.invokevirtual 181, 3) := by decide +kernel
theorem dX10_isOneOrAll_13 : decode cX10_isOneOrAll 13 = .ok (.ifCond .eq 7, 3) := by decide +kernel
theorem dX10_isOneOrAll_16 : decode cX10_isOneOrAll 16 = .ok (.iconst 1, 1) := by decide +kernel
theorem dX10_isOneOrAll_17 : decode cX10_isOneOrAll 17 = .ok (.goto 4, 3) := by decide +kernel
theorem dX10_isOneOrAll_20 : decode cX10_isOneOrAll 20 = .ok (.iconst 0, 1) := by decide +kernel
theorem dX10_isOneOrAll_21 : decode cX10_isOneOrAll 21 = .ok (.ireturn, 1) := by decide +kernel
theorem dX10_judge_0 : decode cX10_judge 0 = .ok (.aload_n 0, 1) := by decide +kernel
theorem dX10_judge_1 : decode cX10_judge 1 = .ok (.getfield 33, 3) := by decide +kernel
theorem dX10_judge_4 : decode cX10_judge 4 = .ok (.iload_n 1, 1) := by decide +kernel
theorem dX10_judge_5 : decode cX10_judge 5 = .ok (.invokevirtual 91, 3) := by decide +kernel
theorem dX10_judge_8 : decode cX10_judge 8 = .ok (.ifCond .eq 14, 3) := by decide +kernel
theorem dX10_judge_11 : decode cX10_judge 11 = .ok (.aload_n 0, 1) := by decide +kernel
theorem dX10_judge_12 : decode cX10_judge 12 = .ok (.getfield 10, 3) := by decide +kernel
theorem dX10_judge_15 : decode cX10_judge 15 = .ok (.iload_n 2, 1) := by decide +kernel
theorem dX10_judge_16 : decode cX10_judge 16 = .ok (.invokevirtual 181, 3) := by decide +kernel
theorem dX10_judge_19 : decode cX10_judge 19 = .ok (.ifCond .ne 5, 3) := by decide +kernel
theorem dX10_judge_22 : decode cX10_judge 22 = .ok (.iconst (-1), 1) := by decide +kernel
theorem dX10_judge_23 : decode cX10_judge 23 = .ok (.ireturn, 1) := by decide +kernel
theorem dX10_judge_24 : decode cX10_judge 24 = .ok (.aload_n 0, 1) := by decide +kernel
theorem dX10_judge_25 : decode cX10_judge 25 = .ok (.getfield 33, 3) := by decide +kernel
theorem dX10_judge_28 : decode cX10_judge 28 = .ok (.iload_n 1, 1) := by decide +kernel
theorem dX10_judge_29 : decode cX10_judge 29 = .ok (.invokevirtual 218, 3) := by decide +kernel
theorem dX10_judge_32 : decode cX10_judge 32 = .ok (.istore_n 3, 1) := by decide +kernel
theorem dX10_judge_33 : decode cX10_judge 33 = .ok (.iload_n 3, 1) := by decide +kernel
theorem dX10_judge_34 : decode cX10_judge 34 = .ok (.ifCond .eq 5, 3) := by decide +kernel
theorem dX10_judge_37 : decode cX10_judge 37 = .ok (.iload_n 3, 1) := by decide +kernel
theorem dX10_judge_38 : decode cX10_judge 38 = .ok (.ireturn, 1) := by decide +kernel
theorem dX10_judge_39 : decode cX10_judge 39 = .ok (.aload_n 0, 1) := by decide +kernel
theorem dX10_judge_40 : decode cX10_judge 40 = .ok (.getfield 42, 3) := by decide +kernel
theorem dX10_judge_43 : decode cX10_judge 43 = .ok (.invokevirtual 188, 3) := by decide +kernel
theorem dX10_judge_46 : decode cX10_judge 46 = .ok (.aload_n 0, 1) := by decide +kernel
theorem dX10_judge_47 : decode cX10_judge 47 = .ok (.getfield 42, 3) := by decide +kernel
theorem dX10_judge_50 : decode cX10_judge 50 = .ok (.iload_n 1, 1) := by decide +kernel
theorem dX10_judge_51 : decode cX10_judge 51 = .ok (.iload_n 2, 1) := by decide +kernel
theorem dX10_judge_52 : decode cX10_judge 52 = .ok (.invokevirtual 221, 3) := by decide +kernel
theorem dX10_judge_55 : decode cX10_judge 55 = .ok (.ireturn, 1) := by decide +kernel
theorem dX10_fits_0 : decode cX10_fits 0 = .ok (.aload_n 0, 1) := by decide +kernel
theorem dX10_fits_1 : decode cX10_fits 1 = .ok (.getfield 33, 3) := by decide +kernel
theorem dX10_fits_4 : decode cX10_fits 4 = .ok (.iload_n 1, 1) := by decide +kernel
theorem dX10_fits_5 : decode cX10_fits 5 = .ok (.invokevirtual 91, 3) := by decide +kernel
theorem dX10_fits_8 : decode cX10_fits 8 = .ok (.ifCond .eq 23, 3) := by decide +kernel
theorem dX10_fits_11 : decode cX10_fits 11 = .ok (.aload_n 0, 1) := by decide +kernel
theorem dX10_fits_12 : decode cX10_fits 12 = .ok (.getfield 10, 3) := by decide +kernel
theorem dX10_fits_15 : decode cX10_fits 15 = .ok (.iload_n 2, 1) := by decide +kernel
theorem dX10_fits_16 : decode cX10_fits 16 = .ok (.invokevirtual 121, 3) := by decide +kernel
theorem dX10_fits_19 : decode cX10_fits 19 = .ok (.ifCond .eq 12, 3) := by decide +kernel
theorem dX10_fits_22 : decode cX10_fits 22 = .ok (.iload_n 3, 1) := by decide +kernel
theorem dX10_fits_23 : decode cX10_fits 23 = .ok (.ifCond .lt 8, 3) := by decide +kernel
theorem dX10_fits_26 : decode cX10_fits 26 = .ok (.iload_n 3, 1) := by decide +kernel
theorem dX10_fits_27 : decode cX10_fits 27 = .ok (.iconst 2, 1) := by decide +kernel
theorem dX10_fits_28 : decode cX10_fits 28 = .ok (.if_icmp .le 5, 3) := by decide +kernel
theorem dX10_fits_31 : decode cX10_fits 31 = .ok (.iconst (-1), 1) := by decide +kernel
theorem dX10_fits_32 : decode cX10_fits 32 = .ok (.ireturn, 1) := by decide +kernel
theorem dX10_fits_33 : decode cX10_fits 33 = .ok (.aload_n 0, 1) := by decide +kernel
theorem dX10_fits_34 : decode cX10_fits 34 = .ok (.getfield 33, 3) := by decide +kernel
theorem dX10_fits_37 : decode cX10_fits 37 = .ok (.iload_n 1, 1) := by decide +kernel
theorem dX10_fits_38 : decode cX10_fits 38 = .ok (.invokevirtual 218, 3) := by decide +kernel
theorem dX10_fits_41 : decode cX10_fits 41 = .ok (.istore 4, 2) := by decide +kernel
theorem dX10_fits_43 : decode cX10_fits 43 = .ok (.iload 4, 2) := by decide +kernel
theorem dX10_fits_45 : decode cX10_fits 45 = .ok (.ifCond .eq 6, 3) := by decide +kernel
theorem dX10_fits_48 : decode cX10_fits 48 = .ok (.iload 4, 2) := by decide +kernel
theorem dX10_fits_50 : decode cX10_fits 50 = .ok (.ireturn, 1) := by decide +kernel
theorem dX10_fits_51 : decode cX10_fits 51 = .ok (.iload_n 2, 1) := by decide +kernel
theorem dX10_fits_52 : decode cX10_fits 52 = .ok (.bipush 10, 2) := by decide +kernel
theorem dX10_fits_54 : decode cX10_fits 54 = .ok (.irem, 1) := by decide +kernel
theorem dX10_fits_55 : decode cX10_fits 55 = .ok (.istore 5, 2) := by decide +kernel
theorem dX10_fits_57 : decode cX10_fits 57 = .ok (.iload_n 3, 1) := by decide +kernel
theorem dX10_fits_58 : decode cX10_fits 58 = .ok (.iconst 2, 1) := by decide +kernel
theorem dX10_fits_59 : decode cX10_fits 59 = .ok (.if_icmp .ne 28, 3) := by decide +kernel
theorem dX10_fits_62 : decode cX10_fits 62 = .ok (.aload_n 0, 1) := by decide +kernel
theorem dX10_fits_63 : decode cX10_fits 63 = .ok (.getfield 42, 3) := by decide +kernel
theorem dX10_fits_66 : decode cX10_fits 66 = .ok (.iload_n 1, 1) := by decide +kernel
theorem dX10_fits_67 : decode cX10_fits 67 = .ok (.iload 5, 2) := by decide +kernel
theorem dX10_fits_69 : decode cX10_fits 69 = .ok (.iconst 0, 1) := by decide +kernel
theorem dX10_fits_70 : decode cX10_fits 70 = .ok (.iload 5, 2) := by decide +kernel
theorem dX10_fits_72 : decode cX10_fits 72 = .ok (.iadd, 1) := by decide +kernel
theorem dX10_fits_73 : decode cX10_fits 73 = .ok (.iconst 0, 1) := by decide +kernel
theorem dX10_fits_74 : decode cX10_fits 74 = .ok (.bipush 99, 2) := by decide +kernel
theorem dX10_fits_76 : decode cX10_fits 76 = .ok (.invokevirtual 224, 3) := by decide +kernel
theorem dX10_fits_79 : decode cX10_fits 79 = .ok (.aload_n 0, 1) := by decide +kernel
theorem dX10_fits_80 : decode cX10_fits 80 = .ok (.getfield 42, 3) := by decide +kernel
theorem dX10_fits_83 : decode cX10_fits 83 = .ok (.getfield 228, 3) := by decide +kernel
theorem dX10_fits_86 : decode cX10_fits 86 = .ok (.ireturn, 1) := by decide +kernel
theorem dX10_fits_87 : decode cX10_fits 87 = .ok (.aload_n 0, 1) := by decide +kernel
theorem dX10_fits_88 : decode cX10_fits 88 = .ok (.getfield 42, 3) := by decide +kernel
theorem dX10_fits_91 : decode cX10_fits 91 = .ok (.iload_n 1, 1) := by decide +kernel
theorem dX10_fits_92 : decode cX10_fits 92 = .ok (.iload 5, 2) := by decide +kernel
theorem dX10_fits_94 : decode cX10_fits 94 = .ok (.iload_n 2, 1) := by decide +kernel
theorem dX10_fits_95 : decode cX10_fits 95 = .ok (.bipush 10, 2) := by decide +kernel
theorem dX10_fits_97 : decode cX10_fits 97 = .ok (.idiv, 1) := by decide +kernel
theorem dX10_fits_98 : decode cX10_fits 98 = .ok (.iload 5, 2) := by decide +kernel
theorem dX10_fits_100 : decode cX10_fits 100 = .ok (.invokestatic 127, 3) := by decide +kernel
theorem dX10_fits_103 : decode cX10_fits 103 = .ok (.bipush (-9), 2) := by decide +kernel
theorem dX10_fits_105 : decode cX10_fits 105 = .ok (.bipush 9, 2) := by decide +kernel
theorem dX10_fits_107 : decode cX10_fits 107 = .ok (.invokevirtual 224, 3) := by decide +kernel
theorem dX10_fits_110 : decode cX10_fits 110 = .ok (.iload_n 3, 1) := by decide +kernel
theorem dX10_fits_111 : decode cX10_fits 111 = .ok (.ifCond .ne 11, 3) := by decide +kernel
theorem dX10_fits_114 : decode cX10_fits 114 = .ok (.aload_n 0, 1) := by decide +kernel
theorem dX10_fits_115 : decode cX10_fits 115 = .ok (.getfield 42, 3) := by decide +kernel
theorem dX10_fits_118 : decode cX10_fits 118 = .ok (.getfield 228, 3) := by decide +kernel
theorem dX10_fits_121 : decode cX10_fits 121 = .ok (.ireturn, 1) := by decide +kernel
theorem dX10_fits_122 : decode cX10_fits 122 = .ok (.aload_n 0, 1) := by decide +kernel
theorem dX10_fits_123 : decode cX10_fits 123 = .ok (.getfield 42, 3) := by decide +kernel
theorem dX10_fits_126 : decode cX10_fits 126 = .ok (.getfield 228, 3) := by decide +kernel
theorem dX10_fits_129 : decode cX10_fits 129 = .ok (.ifCond .ne 8, 3) := by decide +kernel
theorem dX10_fits_132 : decode cX10_fits 132 = .ok (.bipush (-2), 2) := by decide +kernel
theorem dX10_fits_134 : decode cX10_fits 134 = .ok (.goto 13, 3) := by decide +kernel
theorem dX10_fits_137 : decode cX10_fits 137 = .ok (.aload_n 0, 1) := by decide +kernel
theorem dX10_fits_138 : decode cX10_fits 138 = .ok (.getfield 42, 3) := by decide +kernel
theorem dX10_fits_141 : decode cX10_fits 141 = .ok (.getfield 231, 3) := by decide +kernel
theorem dX10_fits_144 : decode cX10_fits 144 = .ok (.bipush 100, 2) := by decide +kernel
theorem dX10_fits_146 : decode cX10_fits 146 = .ok (.iadd, 1) := by decide +kernel
theorem dX10_fits_147 : decode cX10_fits 147 = .ok (.ireturn, 1) := by decide +kernel
theorem dX10_byTurns_0 : decode cX10_byTurns 0 = .ok (.aload_n 0, 1) := by decide +kernel
theorem dX10_byTurns_1 : decode cX10_byTurns 1 = .ok (.getfield 10, 3) := by decide +kernel
theorem dX10_byTurns_4 : decode cX10_byTurns 4 = .ok (.iload_n 1, 1) := by decide +kernel
theorem dX10_byTurns_5 : decode cX10_byTurns 5 = .ok (.invokevirtual 121, 3) := by decide +kernel
theorem dX10_byTurns_8 : decode cX10_byTurns 8 = .ok (.ifCond .eq 22, 3) := by decide +kernel
theorem dX10_byTurns_11 : decode cX10_byTurns 11 = .ok (.iload_n 2, 1) := by decide +kernel
theorem dX10_byTurns_12 : decode cX10_byTurns 12 = .ok (.iconst 1, 1) := by decide +kernel
theorem dX10_byTurns_13 : decode cX10_byTurns 13 = .ok (.if_icmp .lt 17, 3) := by decide +kernel
theorem dX10_byTurns_16 : decode cX10_byTurns 16 = .ok (.iload_n 2, 1) := by decide +kernel
theorem dX10_byTurns_17 : decode cX10_byTurns 17 = .ok (.iconst 5, 1) := by decide +kernel
theorem dX10_byTurns_18 : decode cX10_byTurns 18 = .ok (.if_icmp .gt 12, 3) := by decide +kernel
theorem dX10_byTurns_21 : decode cX10_byTurns 21 = .ok (.iload_n 3, 1) := by decide +kernel
theorem dX10_byTurns_22 : decode cX10_byTurns 22 = .ok (.ifCond .lt 8, 3) := by decide +kernel
theorem dX10_byTurns_25 : decode cX10_byTurns 25 = .ok (.iload_n 3, 1) := by decide +kernel
theorem dX10_byTurns_26 : decode cX10_byTurns 26 = .ok (.iconst 1, 1) := by decide +kernel
theorem dX10_byTurns_27 : decode cX10_byTurns 27 = .ok (.if_icmp .le 5, 3) := by decide +kernel
theorem dX10_byTurns_30 : decode cX10_byTurns 30 = .ok (.iconst (-1), 1) := by decide +kernel
theorem dX10_byTurns_31 : decode cX10_byTurns 31 = .ok (.ireturn, 1) := by decide +kernel
theorem dX10_byTurns_32 : decode cX10_byTurns 32 = .ok (.aload_n 0, 1) := by decide +kernel
theorem dX10_byTurns_33 : decode cX10_byTurns 33 = .ok (.getfield 42, 3) := by decide +kernel
theorem dX10_byTurns_36 : decode cX10_byTurns 36 = .ok (.iload_n 1, 1) := by decide +kernel
theorem dX10_byTurns_37 : decode cX10_byTurns 37 = .ok (.bipush 10, 2) := by decide +kernel
theorem dX10_byTurns_39 : decode cX10_byTurns 39 = .ok (.idiv, 1) := by decide +kernel
theorem dX10_byTurns_40 : decode cX10_byTurns 40 = .ok (.iload_n 1, 1) := by decide +kernel
theorem dX10_byTurns_41 : decode cX10_byTurns 41 = .ok (.bipush 10, 2) := by decide +kernel
theorem dX10_byTurns_43 : decode cX10_byTurns 43 = .ok (.irem, 1) := by decide +kernel
theorem dX10_byTurns_44 : decode cX10_byTurns 44 = .ok (.iload_n 2, 1) := by decide +kernel
theorem dX10_byTurns_45 : decode cX10_byTurns 45 = .ok (.invokevirtual 234, 3) := by decide +kernel
theorem dX10_byTurns_48 : decode cX10_byTurns 48 = .ok (.iload_n 3, 1) := by decide +kernel
theorem dX10_byTurns_49 : decode cX10_byTurns 49 = .ok (.ifCond .ne 13, 3) := by decide +kernel
theorem dX10_byTurns_52 : decode cX10_byTurns 52 = .ok (.aload_n 0, 1) := by decide +kernel
theorem dX10_byTurns_53 : decode cX10_byTurns 53 = .ok (.getfield 42, 3) := by decide +kernel
theorem dX10_byTurns_56 : decode cX10_byTurns 56 = .ok (.getfield 237, 3) := by decide +kernel
theorem dX10_byTurns_59 : decode cX10_byTurns 59 = .ok (.goto 10, 3) := by decide +kernel
theorem dX10_byTurns_62 : decode cX10_byTurns 62 = .ok (.aload_n 0, 1) := by decide +kernel
theorem dX10_byTurns_63 : decode cX10_byTurns 63 = .ok (.getfield 42, 3) := by decide +kernel
theorem dX10_byTurns_66 : decode cX10_byTurns 66 = .ok (.getfield 240, 3) := by decide +kernel
theorem dX10_byTurns_69 : decode cX10_byTurns 69 = .ok (.ireturn, 1) := by decide +kernel
theorem dX10_drawn_0 : decode cX10_drawn 0 = .ok (.iload_n 2, 1) := by decide +kernel
theorem dX10_drawn_1 : decode cX10_drawn 1 = .ok (.ifCond .lt 11, 3) := by decide +kernel
theorem dX10_drawn_4 : decode cX10_drawn 4 = .ok (.aload_n 0, 1) := by decide +kernel
theorem dX10_drawn_5 : decode cX10_drawn 5 = .ok (.iload_n 3, 1) := by decide +kernel
theorem dX10_drawn_6 : decode cX10_drawn 6 = .ok (.invokevirtual 155, 3) := by decide +kernel
theorem dX10_drawn_9 : decode cX10_drawn 9 = .ok (.ifCond .ne 5, 3) := by decide +kernel
theorem dX10_drawn_12 : decode cX10_drawn 12 = .ok (.iconst (-1), 1) := by decide +kernel
theorem dX10_drawn_13 : decode cX10_drawn 13 = .ok (.ireturn, 1) := by decide +kernel
theorem dX10_drawn_14 : decode cX10_drawn 14 = .ok (.iload_n 2, 1) := by decide +kernel
theorem dX10_drawn_15 : decode cX10_drawn 15 = .ok (.sipush 10000, 3) := by decide +kernel
theorem dX10_drawn_18 : decode cX10_drawn 18 = .ok (.idiv, 1) := by decide +kernel
theorem dX10_drawn_19 : decode cX10_drawn 19 = .ok (.istore 4, 2) := by decide +kernel
theorem dX10_drawn_21 : decode cX10_drawn 21 = .ok (.iload_n 2, 1) := by decide +kernel
theorem dX10_drawn_22 : decode cX10_drawn 22 = .ok (.bipush 100, 2) := by decide +kernel
theorem dX10_drawn_24 : decode cX10_drawn 24 = .ok (.idiv, 1) := by decide +kernel
theorem dX10_drawn_25 : decode cX10_drawn 25 = .ok (.bipush 100, 2) := by decide +kernel
theorem dX10_drawn_27 : decode cX10_drawn 27 = .ok (.irem, 1) := by decide +kernel
theorem dX10_drawn_28 : decode cX10_drawn 28 = .ok (.istore 5, 2) := by decide +kernel
theorem dX10_drawn_30 : decode cX10_drawn 30 = .ok (.iload_n 2, 1) := by decide +kernel
theorem dX10_drawn_31 : decode cX10_drawn 31 = .ok (.bipush 100, 2) := by decide +kernel
theorem dX10_drawn_33 : decode cX10_drawn 33 = .ok (.irem, 1) := by decide +kernel
theorem dX10_drawn_34 : decode cX10_drawn 34 = .ok (.istore 6, 2) := by decide +kernel
theorem dX10_drawn_36 : decode cX10_drawn 36 = .ok (.iload 4, 2) := by decide +kernel
theorem dX10_drawn_38 : decode cX10_drawn 38 = .ok (.iconst 1, 1) := by decide +kernel
theorem dX10_drawn_39 : decode cX10_drawn 39 = .ok (.if_icmp .lt 30, 3) := by decide +kernel
theorem dX10_drawn_42 : decode cX10_drawn 42 = .ok (.iload 4, 2) := by decide +kernel
theorem dX10_drawn_44 : decode cX10_drawn 44 = .ok (.bipush 20, 2) := by decide +kernel
theorem dX10_drawn_46 : decode cX10_drawn 46 = .ok (.if_icmp .gt 23, 3) := by decide +kernel
theorem dX10_drawn_49 : decode cX10_drawn 49 = .ok (.iload 5, 2) := by decide +kernel
theorem dX10_drawn_51 : decode cX10_drawn 51 = .ok (.iconst 1, 1) := by decide +kernel
theorem dX10_drawn_52 : decode cX10_drawn 52 = .ok (.if_icmp .lt 17, 3) := by decide +kernel
theorem dX10_drawn_55 : decode cX10_drawn 55 = .ok (.iload 5, 2) := by decide +kernel
theorem dX10_drawn_57 : decode cX10_drawn 57 = .ok (.bipush 20, 2) := by decide +kernel
theorem dX10_drawn_59 : decode cX10_drawn 59 = .ok (.if_icmp .gt 10, 3) := by decide +kernel
theorem dX10_drawn_62 : decode cX10_drawn 62 = .ok (.iload 6, 2) := by decide +kernel
theorem dX10_drawn_64 : decode cX10_drawn 64 = .ok (.bipush 12, 2) := by decide +kernel
theorem dX10_drawn_66 : decode cX10_drawn 66 = .ok (.if_icmp .le 5, 3) := by decide +kernel
theorem dX10_drawn_69 : decode cX10_drawn 69 = .ok (.iconst (-1), 1) := by decide +kernel
theorem dX10_drawn_70 : decode cX10_drawn 70 = .ok (.ireturn, 1) := by decide +kernel
theorem dX10_drawn_71 : decode cX10_drawn 71 = .ok (.aload_n 0, 1) := by decide +kernel
theorem dX10_drawn_72 : decode cX10_drawn 72 = .ok (.getfield 42, 3) := by decide +kernel
theorem dX10_drawn_75 : decode cX10_drawn 75 = .ok (.iload_n 1, 1) := by decide +kernel
theorem dX10_drawn_76 : decode cX10_drawn 76 = .ok (.iload 4, 2) := by decide +kernel
theorem dX10_drawn_78 : decode cX10_drawn 78 = .ok (.iload 5, 2) := by decide +kernel
theorem dX10_drawn_80 : decode cX10_drawn 80 = .ok (.iload 6, 2) := by decide +kernel
theorem dX10_drawn_82 : decode cX10_drawn 82 = .ok (.iload_n 3, 1) := by decide +kernel
theorem dX10_drawn_83 : decode cX10_drawn 83 = .ok (.invokevirtual 243, 3) := by decide +kernel
theorem dX10_drawn_86 : decode cX10_drawn 86 = .ok (.ireturn, 1) := by decide +kernel
theorem dX10_day_0 : decode cX10_day 0 = .ok (.aload_n 0, 1) := by decide +kernel
theorem dX10_day_1 : decode cX10_day 1 = .ok (.getfield 58, 3) := by decide +kernel
theorem dX10_day_4 : decode cX10_day 4 = .ok (.aload_n 0, 1) := by decide +kernel
theorem dX10_day_5 : decode cX10_day 5 = .ok (.getfield 10, 3) := by decide +kernel
theorem dX10_day_8 : decode cX10_day 8 = .ok (.aload_n 0, 1) := by decide +kernel
theorem dX10_day_9 : decode cX10_day 9 = .ok (.getfield 26, 3) := by decide +kernel
theorem dX10_day_12 : decode cX10_day 12 = .ok (.invokevirtual 247, 3) := by decide +kernel
theorem dX10_day_15 : decode cX10_day 15 = .ok (.istore_n 1, 1) := by decide +kernel
theorem dX10_day_16 : decode cX10_day 16 = .ok (.aload_n 0, 1) := by decide +kernel
theorem dX10_day_17 : decode cX10_day 17 = .ok (.getfield 65, 3) := by decide +kernel
theorem dX10_day_20 : decode cX10_day 20 = .ok (.aload_n 0, 1) := by decide +kernel
theorem dX10_day_21 : decode cX10_day 21 = .ok (.getfield 58, 3) := by decide +kernel
theorem dX10_day_24 : decode cX10_day 24 = .ok (.aload_n 0, 1) := by decide +kernel
theorem dX10_day_25 : decode cX10_day 25 = .ok (.getfield 10, 3) := by decide +kernel
theorem dX10_day_28 : decode cX10_day 28 = .ok (.getfield 161, 3) := by decide +kernel
theorem dX10_day_31 : decode cX10_day 31 = .ok (.invokevirtual 251, 3) := by decide +kernel
theorem dX10_day_34 : decode cX10_day 34 = .ok (.iload_n 1, 1) := by decide +kernel
theorem dX10_day_35 : decode cX10_day 35 = .ok (.ireturn, 1) := by decide +kernel
theorem dX10_wrong_0 : decode cX10_wrong 0 = .ok (.aload_n 0, 1) := by decide +kernel
theorem dX10_wrong_1 : decode cX10_wrong 1 = .ok (.getfield 10, 3) := by decide +kernel
theorem dX10_wrong_4 : decode cX10_wrong 4 = .ok (.iload_n 1, 1) := by decide +kernel
theorem dX10_wrong_5 : decode cX10_wrong 5 = .ok (.invokevirtual 121, 3) := by decide +kernel
theorem dX10_wrong_8 : decode cX10_wrong 8 = .ok (.ifCond .eq 14, 3) := by decide +kernel
theorem dX10_wrong_11 : decode cX10_wrong 11 = .ok (.iload_n 2, 1) := by decide +kernel
theorem dX10_wrong_12 : decode cX10_wrong 12 = .ok (.iconst 1, 1) := by decide +kernel
theorem dX10_wrong_13 : decode cX10_wrong 13 = .ok (.if_icmp .lt 9, 3) := by decide +kernel
theorem dX10_wrong_16 : decode cX10_wrong 16 = .ok (.iload_n 2, 1) := by decide +kernel
theorem dX10_wrong_17 : decode cX10_wrong 17 = .ok (.bipush 9, 2) := by decide +kernel
theorem dX10_wrong_19 : decode cX10_wrong 19 = .ok (.if_icmp .le 5, 3) := by decide +kernel
theorem dX10_wrong_22 : decode cX10_wrong 22 = .ok (.iconst (-1), 1) := by decide +kernel
theorem dX10_wrong_23 : decode cX10_wrong 23 = .ok (.ireturn, 1) := by decide +kernel
theorem dX10_wrong_24 : decode cX10_wrong 24 = .ok (.aload_n 0, 1) := by decide +kernel
theorem dX10_wrong_25 : decode cX10_wrong 25 = .ok (.getfield 10, 3) := by decide +kernel
theorem dX10_wrong_28 : decode cX10_wrong 28 = .ok (.iload_n 1, 1) := by decide +kernel
theorem dX10_wrong_29 : decode cX10_wrong 29 = .ok (.bipush 10, 2) := by decide +kernel
theorem dX10_wrong_31 : decode cX10_wrong 31 = .ok (.irem, 1) := by decide +kernel
theorem dX10_wrong_32 : decode cX10_wrong 32 = .ok (.iload_n 1, 1) := by decide +kernel
theorem dX10_wrong_33 : decode cX10_wrong 33 = .ok (.bipush 10, 2) := by decide +kernel
theorem dX10_wrong_35 : decode cX10_wrong 35 = .ok (.idiv, 1) := by decide +kernel
theorem dX10_wrong_36 : decode cX10_wrong 36 = .ok (.invokevirtual 130, 3) := by decide +kernel
theorem dX10_wrong_39 : decode cX10_wrong 39 = .ok (.iload_n 2, 1) := by decide +kernel
theorem dX10_wrong_40 : decode cX10_wrong 40 = .ok (.isub, 1) := by decide +kernel
theorem dX10_wrong_41 : decode cX10_wrong 41 = .ok (.bipush (-9), 2) := by decide +kernel
theorem dX10_wrong_43 : decode cX10_wrong 43 = .ok (.invokestatic 255, 3) := by decide +kernel
theorem dX10_wrong_46 : decode cX10_wrong 46 = .ok (.istore_n 3, 1) := by decide +kernel
theorem dX10_wrong_47 : decode cX10_wrong 47 = .ok (.aload_n 0, 1) := by decide +kernel
theorem dX10_wrong_48 : decode cX10_wrong 48 = .ok (.getfield 10, 3) := by decide +kernel
theorem dX10_wrong_51 : decode cX10_wrong 51 = .ok (.iload_n 1, 1) := by decide +kernel
theorem dX10_wrong_52 : decode cX10_wrong 52 = .ok (.bipush 10, 2) := by decide +kernel
theorem dX10_wrong_54 : decode cX10_wrong 54 = .ok (.irem, 1) := by decide +kernel
theorem dX10_wrong_55 : decode cX10_wrong 55 = .ok (.iload_n 1, 1) := by decide +kernel
theorem dX10_wrong_56 : decode cX10_wrong 56 = .ok (.bipush 10, 2) := by decide +kernel
theorem dX10_wrong_58 : decode cX10_wrong 58 = .ok (.idiv, 1) := by decide +kernel
theorem dX10_wrong_59 : decode cX10_wrong 59 = .ok (.iload_n 3, 1) := by decide +kernel
theorem dX10_wrong_60 : decode cX10_wrong 60 = .ok (.invokevirtual 203, 3) := by decide +kernel
theorem dX10_wrong_63 : decode cX10_wrong 63 = .ok (.aload_n 0, 1) := by decide +kernel
theorem dX10_wrong_64 : decode cX10_wrong 64 = .ok (.getfield 65, 3) := by decide +kernel
theorem dX10_wrong_67 : decode cX10_wrong 67 = .ok (.iconst 3, 1) := by decide +kernel
theorem dX10_wrong_68 : decode cX10_wrong 68 = .ok (.iconst 1, 1) := by decide +kernel
theorem dX10_wrong_69 : decode cX10_wrong 69 = .ok (.invokevirtual 260, 3) := by decide +kernel
theorem dX10_wrong_72 : decode cX10_wrong 72 = .ok (.iload_n 3, 1) := by decide +kernel
theorem dX10_wrong_73 : decode cX10_wrong 73 = .ok (.bipush 100, 2) := by decide +kernel
theorem dX10_wrong_75 : decode cX10_wrong 75 = .ok (.iadd, 1) := by decide +kernel
theorem dX10_wrong_76 : decode cX10_wrong 76 = .ok (.ireturn, 1) := by decide +kernel
theorem dX10_lease_0 : decode cX10_lease 0 = .ok (.iload_n 1, 1) := by decide +kernel
theorem dX10_lease_1 : decode cX10_lease 1 = .ok (.bipush 10, 2) := by decide +kernel
theorem dX10_lease_3 : decode cX10_lease 3 = .ok (.idiv, 1) := by decide +kernel
theorem dX10_lease_4 : decode cX10_lease 4 = .ok (.istore_n 3, 1) := by decide +kernel
theorem dX10_lease_5 : decode cX10_lease 5 = .ok (.iload_n 1, 1) := by decide +kernel
theorem dX10_lease_6 : decode cX10_lease 6 = .ok (.bipush 10, 2) := by decide +kernel
theorem dX10_lease_8 : decode cX10_lease 8 = .ok (.irem, 1) := by decide +kernel
theorem dX10_lease_9 : decode cX10_lease 9 = .ok (.istore 4, 2) := by decide +kernel
theorem dX10_lease_11 : decode cX10_lease 11 = .ok (.aload_n 0, 1) := by decide +kernel
theorem dX10_lease_12 : decode cX10_lease 12 = .ok (.getfield 10, 3) := by decide +kernel
theorem dX10_lease_15 : decode cX10_lease 15 = .ok (.iload_n 1, 1) := by decide +kernel
theorem dX10_lease_16 : decode cX10_lease 16 = .ok (.invokevirtual 121, 3) := by decide +kernel
theorem dX10_lease_19 : decode cX10_lease 19 = .ok (.ifCond .eq 25, 3) := by decide +kernel
theorem dX10_lease_22 : decode cX10_lease 22 = .ok (.aload_n 0, 1) := by decide +kernel
theorem dX10_lease_23 : decode cX10_lease 23 = .ok (.getfield 10, 3) := by decide +kernel
theorem dX10_lease_26 : decode cX10_lease 26 = .ok (.iload_n 2, 1) := by decide +kernel
theorem dX10_lease_27 : decode cX10_lease 27 = .ok (.invokevirtual 181, 3) := by decide +kernel
theorem dX10_lease_30 : decode cX10_lease 30 = .ok (.ifCond .eq 14, 3) := by decide +kernel
theorem dX10_lease_33 : decode cX10_lease 33 = .ok (.iload_n 2, 1) := by decide +kernel
theorem dX10_lease_34 : decode cX10_lease 34 = .ok (.iload_n 3, 1) := by decide +kernel
theorem dX10_lease_35 : decode cX10_lease 35 = .ok (.if_icmp .eq 9, 3) := by decide +kernel
theorem dX10_lease_38 : decode cX10_lease 38 = .ok (.iload_n 2, 1) := by decide +kernel
theorem dX10_lease_39 : decode cX10_lease 39 = .ok (.iload 4, 2) := by decide +kernel
theorem dX10_lease_41 : decode cX10_lease 41 = .ok (.if_icmp .ne 5, 3) := by decide +kernel
theorem dX10_lease_44 : decode cX10_lease 44 = .ok (.iconst (-1), 1) := by decide +kernel
theorem dX10_lease_45 : decode cX10_lease 45 = .ok (.ireturn, 1) := by decide +kernel
theorem dX10_lease_46 : decode cX10_lease 46 = .ok (.aload_n 0, 1) := by decide +kernel
theorem dX10_lease_47 : decode cX10_lease 47 = .ok (.getfield 10, 3) := by decide +kernel
theorem dX10_lease_50 : decode cX10_lease 50 = .ok (.iload 4, 2) := by decide +kernel
theorem dX10_lease_52 : decode cX10_lease 52 = .ok (.iload_n 2, 1) := by decide +kernel
theorem dX10_lease_53 : decode cX10_lease 53 = .ok (.invokevirtual 130, 3) := by decide +kernel
theorem dX10_lease_56 : decode cX10_lease 56 = .ok (.istore 5, 2) := by decide +kernel
theorem dX10_lease_58 : decode cX10_lease 58 = .ok (.iload 5, 2) := by decide +kernel
theorem dX10_lease_60 : decode cX10_lease 60 = .ok (.ifCond .lt 6, 3) := by decide +kernel
theorem dX10_lease_63 : decode cX10_lease 63 = .ok (.bipush (-5), 2) := by decide +kernel
theorem dX10_lease_65 : decode cX10_lease 65 = .ok (.ireturn, 1) := by decide +kernel
theorem dX10_lease_66 : decode cX10_lease 66 = .ok (.aload_n 0, 1) := by decide +kernel
theorem dX10_lease_67 : decode cX10_lease 67 = .ok (.getfield 10, 3) := by decide +kernel
theorem dX10_lease_70 : decode cX10_lease 70 = .ok (.iload_n 3, 1) := by decide +kernel
theorem dX10_lease_71 : decode cX10_lease 71 = .ok (.iload_n 2, 1) := by decide +kernel
theorem dX10_lease_72 : decode cX10_lease 72 = .ok (.iload 5, 2) := by decide +kernel
theorem dX10_lease_74 : decode cX10_lease 74 = .ok (.invokevirtual 203, 3) := by decide +kernel
theorem dX10_lease_77 : decode cX10_lease 77 = .ok (.aload_n 0, 1) := by decide +kernel
theorem dX10_lease_78 : decode cX10_lease 78 = .ok (.getfield 10, 3) := by decide +kernel
theorem dX10_lease_81 : decode cX10_lease 81 = .ok (.iload 4, 2) := by decide +kernel
theorem dX10_lease_83 : decode cX10_lease 83 = .ok (.iload_n 2, 1) := by decide +kernel
theorem dX10_lease_84 : decode cX10_lease 84 = .ok (.iconst 0, 1) := by decide +kernel
theorem dX10_lease_85 : decode cX10_lease 85 = .ok (.invokevirtual 203, 3) := by decide +kernel
theorem dX10_lease_88 : decode cX10_lease 88 = .ok (.aload_n 0, 1) := by decide +kernel
theorem dX10_lease_89 : decode cX10_lease 89 = .ok (.getfield 65, 3) := by decide +kernel
theorem dX10_lease_92 : decode cX10_lease 92 = .ok (.iconst 4, 1) := by decide +kernel
theorem dX10_lease_93 : decode cX10_lease 93 = .ok (.iconst 1, 1) := by decide +kernel
theorem dX10_lease_94 : decode cX10_lease 94 = .ok (.invokevirtual 260, 3) := by decide +kernel
theorem dX10_lease_97 : decode cX10_lease 97 = .ok (.iload 5, 2) := by decide +kernel
theorem dX10_lease_99 : decode cX10_lease 99 = .ok (.bipush 100, 2) := by decide +kernel
theorem dX10_lease_101 : decode cX10_lease 101 = .ok (.iadd, 1) := by decide +kernel
theorem dX10_lease_102 : decode cX10_lease 102 = .ok (.ireturn, 1) := by decide +kernel
theorem dX10_gift_0 : decode cX10_gift 0 = .ok (.aload_n 0, 1) := by decide +kernel
theorem dX10_gift_1 : decode cX10_gift 1 = .ok (.getfield 10, 3) := by decide +kernel
theorem dX10_gift_4 : decode cX10_gift 4 = .ok (.iload_n 1, 1) := by decide +kernel
theorem dX10_gift_5 : decode cX10_gift 5 = .ok (.invokevirtual 121, 3) := by decide +kernel
theorem dX10_gift_8 : decode cX10_gift 8 = .ok (.ifCond .eq 14, 3) := by decide +kernel
theorem dX10_gift_11 : decode cX10_gift 11 = .ok (.iload_n 2, 1) := by decide +kernel
theorem dX10_gift_12 : decode cX10_gift 12 = .ok (.iconst 1, 1) := by decide +kernel
theorem dX10_gift_13 : decode cX10_gift 13 = .ok (.if_icmp .lt 9, 3) := by decide +kernel
theorem dX10_gift_16 : decode cX10_gift 16 = .ok (.iload_n 2, 1) := by decide +kernel
theorem dX10_gift_17 : decode cX10_gift 17 = .ok (.bipush 99, 2) := by decide +kernel
theorem dX10_gift_19 : decode cX10_gift 19 = .ok (.if_icmp .le 5, 3) := by decide +kernel
theorem dX10_gift_22 : decode cX10_gift 22 = .ok (.iconst (-1), 1) := by decide +kernel
theorem dX10_gift_23 : decode cX10_gift 23 = .ok (.ireturn, 1) := by decide +kernel
theorem dX10_gift_24 : decode cX10_gift 24 = .ok (.aload_n 0, 1) := by decide +kernel
theorem dX10_gift_25 : decode cX10_gift 25 = .ok (.getfield 10, 3) := by decide +kernel
theorem dX10_gift_28 : decode cX10_gift 28 = .ok (.iload_n 1, 1) := by decide +kernel
theorem dX10_gift_29 : decode cX10_gift 29 = .ok (.bipush 10, 2) := by decide +kernel
theorem dX10_gift_31 : decode cX10_gift 31 = .ok (.idiv, 1) := by decide +kernel
theorem dX10_gift_32 : decode cX10_gift 32 = .ok (.iload_n 2, 1) := by decide +kernel
theorem dX10_gift_33 : decode cX10_gift 33 = .ok (.invokevirtual 262, 3) := by decide +kernel
theorem dX10_gift_36 : decode cX10_gift 36 = .ok (.aload_n 0, 1) := by decide +kernel
theorem dX10_gift_37 : decode cX10_gift 37 = .ok (.getfield 10, 3) := by decide +kernel
theorem dX10_gift_40 : decode cX10_gift 40 = .ok (.iload_n 1, 1) := by decide +kernel
theorem dX10_gift_41 : decode cX10_gift 41 = .ok (.bipush 10, 2) := by decide +kernel
theorem dX10_gift_43 : decode cX10_gift 43 = .ok (.irem, 1) := by decide +kernel
theorem dX10_gift_44 : decode cX10_gift 44 = .ok (.iload_n 2, 1) := by decide +kernel
theorem dX10_gift_45 : decode cX10_gift 45 = .ok (.invokevirtual 265, 3) := by decide +kernel
theorem dX10_gift_48 : decode cX10_gift 48 = .ok (.aload_n 0, 1) := by decide +kernel
theorem dX10_gift_49 : decode cX10_gift 49 = .ok (.getfield 65, 3) := by decide +kernel
theorem dX10_gift_52 : decode cX10_gift 52 = .ok (.iconst 5, 1) := by decide +kernel
theorem dX10_gift_53 : decode cX10_gift 53 = .ok (.iconst 1, 1) := by decide +kernel
theorem dX10_gift_54 : decode cX10_gift 54 = .ok (.invokevirtual 260, 3) := by decide +kernel
theorem dX10_gift_57 : decode cX10_gift 57 = .ok (.aload_n 0, 1) := by decide +kernel
theorem dX10_gift_58 : decode cX10_gift 58 = .ok (.getfield 10, 3) := by decide +kernel
theorem dX10_gift_61 : decode cX10_gift 61 = .ok (.iload_n 1, 1) := by decide +kernel
theorem dX10_gift_62 : decode cX10_gift 62 = .ok (.bipush 10, 2) := by decide +kernel
theorem dX10_gift_64 : decode cX10_gift 64 = .ok (.idiv, 1) := by decide +kernel
theorem dX10_gift_65 : decode cX10_gift 65 = .ok (.invokevirtual 197, 3) := by decide +kernel
theorem dX10_gift_68 : decode cX10_gift 68 = .ok (.ireturn, 1) := by decide +kernel
theorem dX10_tale_0 : decode cX10_tale 0 = .ok (.iload_n 1, 1) := by decide +kernel
theorem dX10_tale_1 : decode cX10_tale 1 = .ok (.iconst (-1), 1) := by decide +kernel
theorem dX10_tale_2 : decode cX10_tale 2 = .ok (.if_icmp .ge 5, 3) := by decide +kernel
theorem dX10_tale_5 : decode cX10_tale 5 = .ok (.iconst (-1), 1) := by decide +kernel
theorem dX10_tale_6 : decode cX10_tale 6 = .ok (.ireturn, 1) := by decide +kernel
theorem dX10_tale_7 : decode cX10_tale 7 = .ok (.iload_n 1, 1) := by decide +kernel
theorem dX10_tale_8 : decode cX10_tale 8 = .ok (.iconst (-1), 1) := by decide +kernel
theorem dX10_tale_9 : decode cX10_tale 9 = .ok (.if_icmp .ne 13, 3) := by decide +kernel
theorem dX10_tale_12 : decode cX10_tale 12 = .ok (.aload_n 0, 1) := by decide +kernel
theorem dX10_tale_13 : decode cX10_tale 13 = .ok (.getfield 65, 3) := by decide +kernel
theorem dX10_tale_16 : decode cX10_tale 16 = .ok (.invokevirtual 268, 3) := by decide +kernel
theorem dX10_tale_19 : decode cX10_tale 19 = .ok (.goto 11, 3) := by decide +kernel
theorem dX10_tale_22 : decode cX10_tale 22 = .ok (.aload_n 0, 1) := by decide +kernel
theorem dX10_tale_23 : decode cX10_tale 23 = .ok (.getfield 65, 3) := by decide +kernel
theorem dX10_tale_26 : decode cX10_tale 26 = .ok (.iload_n 1, 1) := by decide +kernel
theorem dX10_tale_27 : decode cX10_tale 27 = .ok (.invokevirtual 271, 3) := by decide +kernel
theorem dX10_tale_30 : decode cX10_tale 30 = .ok (.ireturn, 1) := by decide +kernel
theorem dX10_led_0 : decode cX10_led 0 = .ok (.iload_n 1, 1) := by decide +kernel
theorem dX10_led_1 : decode cX10_led 1 = .ok (.ifCond .lt 9, 3) := by decide +kernel
theorem dX10_led_4 : decode cX10_led 4 = .ok (.iload_n 1, 1) := by decide +kernel
theorem dX10_led_5 : decode cX10_led 5 = .ok (.bipush 6, 2) := by decide +kernel
theorem dX10_led_7 : decode cX10_led 7 = .ok (.if_icmp .lt 7, 3) := by decide +kernel
theorem dX10_led_10 : decode cX10_led 10 = .ok (.iconst (-1), 1) := by decide +kernel
theorem dX10_led_11 : decode cX10_led 11 = .ok (.goto 11, 3) := by decide +kernel
theorem dX10_led_14 : decode cX10_led 14 = .ok (.aload_n 0, 1) := by decide +kernel
theorem dX10_led_15 : decode cX10_led 15 = .ok (.getfield 65, 3) := by decide +kernel
theorem dX10_led_18 : decode cX10_led 18 = .ok (.iload_n 1, 1) := by decide +kernel
theorem dX10_led_19 : decode cX10_led 19 = .ok (.invokevirtual 274, 3) := by decide +kernel
theorem dX10_led_22 : decode cX10_led 22 = .ok (.ireturn, 1) := by decide +kernel
theorem dX10_image_0 : decode cX10_image 0 = .ok (.aload_n 0, 1) := by decide +kernel
theorem dX10_image_1 : decode cX10_image 1 = .ok (.getfield 65, 3) := by decide +kernel
theorem dX10_image_4 : decode cX10_image 4 = .ok (.aload_n 0, 1) := by decide +kernel
theorem dX10_image_5 : decode cX10_image 5 = .ok (.getfield 10, 3) := by decide +kernel
theorem dX10_image_8 : decode cX10_image 8 = .ok (.invokevirtual 277, 3) := by decide +kernel
theorem dX10_image_11 : decode cX10_image 11 = .ok (.aload_n 0, 1) := by decide +kernel
theorem dX10_image_12 : decode cX10_image 12 = .ok (.getfield 65, 3) := by decide +kernel
theorem dX10_image_15 : decode cX10_image 15 = .ok (.iconst 0, 1) := by decide +kernel
theorem dX10_image_16 : decode cX10_image 16 = .ok (.invokevirtual 274, 3) := by decide +kernel
theorem dX10_image_19 : decode cX10_image 19 = .ok (.ireturn, 1) := by decide +kernel
theorem dX10_back_0 : decode cX10_back 0 = .ok (.aload_n 0, 1) := by decide +kernel
theorem dX10_back_1 : decode cX10_back 1 = .ok (.getfield 65, 3) := by decide +kernel
theorem dX10_back_4 : decode cX10_back 4 = .ok (.invokevirtual 280, 3) := by decide +kernel
theorem dX10_back_7 : decode cX10_back 7 = .ok (.ifCond .ne 6, 3) := by decide +kernel
theorem dX10_back_10 : decode cX10_back 10 = .ok (.bipush (-5), 2) := by decide +kernel
theorem dX10_back_12 : decode cX10_back 12 = .ok (.ireturn, 1) := by decide +kernel
theorem dX10_back_13 : decode cX10_back 13 = .ok (.aload_n 0, 1) := by decide +kernel
theorem dX10_back_14 : decode cX10_back 14 = .ok (.getfield 65, 3) := by decide +kernel
theorem dX10_back_17 : decode cX10_back 17 = .ok (.aload_n 0, 1) := by decide +kernel
theorem dX10_back_18 : decode cX10_back 18 = .ok (.getfield 10, 3) := by decide +kernel
theorem dX10_back_21 : decode cX10_back 21 = .ok (.invokevirtual 283, 3) := by decide +kernel
theorem dX10_back_24 : decode cX10_back 24 = .ok (.aload_n 0, 1) := by decide +kernel
theorem dX10_back_25 : decode cX10_back 25 = .ok (.getfield 65, 3) := by decide +kernel
theorem dX10_back_28 : decode cX10_back 28 = .ok (.iconst 0, 1) := by decide +kernel
theorem dX10_back_29 : decode cX10_back 29 = .ok (.invokevirtual 274, 3) := by decide +kernel
theorem dX10_back_32 : decode cX10_back 32 = .ok (.ireturn, 1) := by decide +kernel
theorem dX10_undo_0 : decode cX10_undo 0 = .ok (.aload_n 0, 1) := by decide +kernel
theorem dX10_undo_1 : decode cX10_undo 1 = .ok (.getfield 72, 3) := by decide +kernel
theorem dX10_undo_4 : decode cX10_undo 4 = .ok (.invokevirtual 286, 3) := by decide +kernel
theorem dX10_undo_7 : decode cX10_undo 7 = .ok (.ifCond .ne 6, 3) := by decide +kernel
theorem dX10_undo_10 : decode cX10_undo 10 = .ok (.bipush (-5), 2) := by decide +kernel
theorem dX10_undo_12 : decode cX10_undo 12 = .ok (.ireturn, 1) := by decide +kernel
theorem dX10_undo_13 : decode cX10_undo 13 = .ok (.aload_n 0, 1) := by decide +kernel
theorem dX10_undo_14 : decode cX10_undo 14 = .ok (.getfield 72, 3) := by decide +kernel
theorem dX10_undo_17 : decode cX10_undo 17 = .ok (.aload_n 0, 1) := by decide +kernel
theorem dX10_undo_18 : decode cX10_undo 18 = .ok (.getfield 10, 3) := by decide +kernel
theorem dX10_undo_21 : decode cX10_undo 21 = .ok (.invokevirtual 289, 3) := by decide +kernel
theorem dX10_undo_24 : decode cX10_undo 24 = .ok (.aload_n 0, 1) := by decide +kernel
theorem dX10_undo_25 : decode cX10_undo 25 = .ok (.getfield 72, 3) := by decide +kernel
theorem dX10_undo_28 : decode cX10_undo 28 = .ok (.invokevirtual 286, 3) := by decide +kernel
theorem dX10_undo_31 : decode cX10_undo 31 = .ok (.ireturn, 1) := by decide +kernel
theorem dX10_redo_0 : decode cX10_redo 0 = .ok (.aload_n 0, 1) := by decide +kernel
theorem dX10_redo_1 : decode cX10_redo 1 = .ok (.getfield 72, 3) := by decide +kernel
theorem dX10_redo_4 : decode cX10_redo 4 = .ok (.invokevirtual 292, 3) := by decide +kernel
theorem dX10_redo_7 : decode cX10_redo 7 = .ok (.ifCond .ne 6, 3) := by decide +kernel
theorem dX10_redo_10 : decode cX10_redo 10 = .ok (.bipush (-5), 2) := by decide +kernel
theorem dX10_redo_12 : decode cX10_redo 12 = .ok (.ireturn, 1) := by decide +kernel
theorem dX10_redo_13 : decode cX10_redo 13 = .ok (.aload_n 0, 1) := by decide +kernel
theorem dX10_redo_14 : decode cX10_redo 14 = .ok (.getfield 72, 3) := by decide +kernel
theorem dX10_redo_17 : decode cX10_redo 17 = .ok (.aload_n 0, 1) := by decide +kernel
theorem dX10_redo_18 : decode cX10_redo 18 = .ok (.getfield 10, 3) := by decide +kernel
theorem dX10_redo_21 : decode cX10_redo 21 = .ok (.invokevirtual 295, 3) := by decide +kernel
theorem dX10_redo_24 : decode cX10_redo 24 = .ok (.aload_n 0, 1) := by decide +kernel
theorem dX10_redo_25 : decode cX10_redo 25 = .ok (.getfield 72, 3) := by decide +kernel
theorem dX10_redo_28 : decode cX10_redo 28 = .ok (.invokevirtual 292, 3) := by decide +kernel
theorem dX10_redo_31 : decode cX10_redo 31 = .ok (.ireturn, 1) := by decide +kernel
theorem dX10_body_0 : decode cX10_body 0 = .ok (.iload_n 1, 1) := by decide +kernel
theorem dX10_body_1 : decode cX10_body 1 = .ok (.invokestatic 298, 3) := by decide +kernel
theorem dX10_body_4 : decode cX10_body 4 = .ok (.ifCond .eq 14, 3) := by decide +kernel
theorem dX10_body_7 : decode cX10_body 7 = .ok (.aload_n 0, 1) := by decide +kernel
theorem dX10_body_8 : decode cX10_body 8 = .ok (.getfield 79, 3) := by decide +kernel
theorem dX10_body_11 : decode cX10_body 11 = .ok (.iload_n 1, 1) := by decide +kernel
theorem dX10_body_12 : decode cX10_body 12 = .ok (.invokevirtual 301, 3) := by decide +kernel
theorem dX10_body_15 : decode cX10_body 15 = .ok (.goto 4, 3) := by decide +kernel
theorem dX10_body_18 : decode cX10_body 18 = .ok (.iconst (-1), 1) := by decide +kernel
theorem dX10_body_19 : decode cX10_body 19 = .ok (.ireturn, 1) := by decide +kernel
theorem dX10_act_0 : decode cX10_act 0 = .ok (.aload_n 0, 1) := by decide +kernel
theorem dX10_act_1 : decode cX10_act 1 = .ok (.getfield 79, 3) := by decide +kernel
theorem dX10_act_4 : decode cX10_act 4 = .ok (.invokevirtual 303, 3) := by decide +kernel
theorem dX10_act_7 : decode cX10_act 7 = .ok (.aload_n 0, 1) := by decide +kernel
theorem dX10_act_8 : decode cX10_act 8 = .ok (.getfield 79, 3) := by decide +kernel
theorem dX10_act_11 : decode cX10_act 11 = .ok (.iload_n 1, 1) := by decide +kernel
theorem dX10_act_12 : decode cX10_act 12 = .ok (.iload_n 2, 1) := by decide +kernel
theorem dX10_act_13 : decode cX10_act 13 = .ok (.iload_n 3, 1) := by decide +kernel
theorem dX10_act_14 : decode cX10_act 14 = .ok (.invokevirtual 306, 3) := by decide +kernel
theorem dX10_act_17 : decode cX10_act 17 = .ok (.ireturn, 1) := by decide +kernel
theorem dX10_trace_0 : decode cX10_trace 0 = .ok (.aload_n 0, 1) := by decide +kernel
theorem dX10_trace_1 : decode cX10_trace 1 = .ok (.getfield 79, 3) := by decide +kernel
theorem dX10_trace_4 : decode cX10_trace 4 = .ok (.iload_n 1, 1) := by decide +kernel
theorem dX10_trace_5 : decode cX10_trace 5 = .ok (.invokevirtual 310, 3) := by decide +kernel
theorem dX10_trace_8 : decode cX10_trace 8 = .ok (.ireturn, 1) := by decide +kernel
theorem dX10_keep_0 : decode cX10_keep 0 = .ok (.aload_n 0, 1) := by decide +kernel
theorem dX10_keep_1 : decode cX10_keep 1 = .ok (.getfield 33, 3) := by decide +kernel
theorem dX10_keep_4 : decode cX10_keep 4 = .ok (.iload_n 1, 1) := by decide +kernel
theorem dX10_keep_5 : decode cX10_keep 5 = .ok (.invokevirtual 91, 3) := by decide +kernel
theorem dX10_keep_8 : decode cX10_keep 8 = .ok (.ifCond .eq 19, 3) := by decide +kernel
theorem dX10_keep_11 : decode cX10_keep 11 = .ok (.iload_n 2, 1) := by decide +kernel
theorem dX10_keep_12 : decode cX10_keep 12 = .ok (.iconst (-1), 1) := by decide +kernel
theorem dX10_keep_13 : decode cX10_keep 13 = .ok (.if_icmp .eq 16, 3) := by decide +kernel
theorem dX10_keep_16 : decode cX10_keep 16 = .ok (.aload_n 0, 1) := by decide +kernel
theorem dX10_keep_17 : decode cX10_keep 17 = .ok (.getfield 79, 3) := by decide +kernel
theorem dX10_keep_20 : decode cX10_keep 20 = .ok (.iload_n 2, 1) := by decide +kernel
theorem dX10_keep_21 : decode cX10_keep 21 = .ok (.invokevirtual 313, 3) := by decide +kernel
theorem dX10_keep_24 : decode cX10_keep 24 = .ok (.ifCond .ne 5, 3) := by decide +kernel
theorem dX10_keep_27 : decode cX10_keep 27 = .ok (.iconst (-1), 1) := by decide +kernel
theorem dX10_keep_28 : decode cX10_keep 28 = .ok (.ireturn, 1) := by decide +kernel
theorem dX10_keep_29 : decode cX10_keep 29 = .ok (.iload_n 2, 1) := by decide +kernel
theorem dX10_keep_30 : decode cX10_keep 30 = .ok (.iconst (-1), 1) := by decide +kernel
theorem dX10_keep_31 : decode cX10_keep 31 = .ok (.if_icmp .ne 14, 3) := by decide +kernel
theorem dX10_keep_34 : decode cX10_keep 34 = .ok (.aload_n 0, 1) := by decide +kernel
theorem dX10_keep_35 : decode cX10_keep 35 = .ok (.getfield 33, 3) := by decide +kernel
theorem dX10_keep_38 : decode cX10_keep 38 = .ok (.iload_n 1, 1) := by decide +kernel
theorem dX10_keep_39 : decode cX10_keep 39 = .ok (.invokevirtual 314, 3) := by decide +kernel
theorem dX10_keep_42 : decode cX10_keep 42 = .ok (.goto 12, 3) := by decide +kernel
theorem dX10_keep_45 : decode cX10_keep 45 = .ok (.aload_n 0, 1) := by decide +kernel
theorem dX10_keep_46 : decode cX10_keep 46 = .ok (.getfield 33, 3) := by decide +kernel
theorem dX10_keep_49 : decode cX10_keep 49 = .ok (.iload_n 1, 1) := by decide +kernel
theorem dX10_keep_50 : decode cX10_keep 50 = .ok (.iload_n 2, 1) := by decide +kernel
theorem dX10_keep_51 : decode cX10_keep 51 = .ok (.invokevirtual 318, 3) := by decide +kernel
theorem dX10_keep_54 : decode cX10_keep 54 = .ok (.iconst 1, 1) := by decide +kernel
theorem dX10_keep_55 : decode cX10_keep 55 = .ok (.ireturn, 1) := by decide +kernel
theorem dX10_row_0 : decode cX10_row 0 = .ok (.aload_n 0, 1) := by decide +kernel
theorem dX10_row_1 : decode cX10_row 1 = .ok (.getfield 33, 3) := by decide +kernel
theorem dX10_row_4 : decode cX10_row 4 = .ok (.iload_n 1, 1) := by decide +kernel
theorem dX10_row_5 : decode cX10_row 5 = .ok (.invokevirtual 91, 3) := by decide +kernel
theorem dX10_row_8 : decode cX10_row 8 = .ok (.ifCond .eq 16, 3) := by decide +kernel
theorem dX10_row_11 : decode cX10_row 11 = .ok (.iload_n 2, 1) := by decide +kernel
theorem dX10_row_12 : decode cX10_row 12 = .ok (.invokestatic 321, 3) := by decide +kernel
theorem dX10_row_15 : decode cX10_row 15 = .ok (.ifCond .eq 9, 3) := by decide +kernel
theorem dX10_row_18 : decode cX10_row 18 = .ok (.iload_n 3, 1) := by decide +kernel
theorem dX10_row_19 : decode cX10_row 19 = .ok (.bipush 60, 2) := by decide +kernel
theorem dX10_row_21 : decode cX10_row 21 = .ok (.if_icmp .le 5, 3) := by decide +kernel
theorem dX10_row_24 : decode cX10_row 24 = .ok (.iconst (-1), 1) := by decide +kernel
theorem dX10_row_25 : decode cX10_row 25 = .ok (.ireturn, 1) := by decide +kernel
theorem dX10_row_26 : decode cX10_row 26 = .ok (.iload_n 3, 1) := by decide +kernel
theorem dX10_row_27 : decode cX10_row 27 = .ok (.ifCond .ge 6, 3) := by decide +kernel
theorem dX10_row_30 : decode cX10_row 30 = .ok (.bipush (-14), 2) := by decide +kernel
theorem dX10_row_32 : decode cX10_row 32 = .ok (.ireturn, 1) := by decide +kernel
theorem dX10_row_33 : decode cX10_row 33 = .ok (.aload_n 0, 1) := by decide +kernel
theorem dX10_row_34 : decode cX10_row 34 = .ok (.getfield 33, 3) := by decide +kernel
theorem dX10_row_37 : decode cX10_row 37 = .ok (.iload_n 1, 1) := by decide +kernel
theorem dX10_row_38 : decode cX10_row 38 = .ok (.iload_n 2, 1) := by decide +kernel
theorem dX10_row_39 : decode cX10_row 39 = .ok (.iload_n 3, 1) := by decide +kernel
theorem dX10_row_40 : decode cX10_row 40 = .ok (.invokevirtual 324, 3) := by decide +kernel
theorem dX10_row_43 : decode cX10_row 43 = .ok (.iconst 1, 1) := by decide +kernel
theorem dX10_row_44 : decode cX10_row 44 = .ok (.ireturn, 1) := by decide +kernel
theorem dX10_put_0 : decode cX10_put 0 = .ok (.aload_n 0, 1) := by decide +kernel
theorem dX10_put_1 : decode cX10_put 1 = .ok (.getfield 33, 3) := by decide +kernel
theorem dX10_put_4 : decode cX10_put 4 = .ok (.iload_n 1, 1) := by decide +kernel
theorem dX10_put_5 : decode cX10_put 5 = .ok (.invokevirtual 91, 3) := by decide +kernel
theorem dX10_put_8 : decode cX10_put 8 = .ok (.ifCond .ne 5, 3) := by decide +kernel
theorem dX10_put_11 : decode cX10_put 11 = .ok (.iconst (-1), 1) := by decide +kernel
theorem dX10_put_12 : decode cX10_put 12 = .ok (.ireturn, 1) := by decide +kernel
theorem dX10_put_13 : decode cX10_put 13 = .ok (.aload_n 0, 1) := by decide +kernel
theorem dX10_put_14 : decode cX10_put 14 = .ok (.getfield 33, 3) := by decide +kernel
theorem dX10_put_17 : decode cX10_put 17 = .ok (.iload_n 1, 1) := by decide +kernel
theorem dX10_put_18 : decode cX10_put 18 = .ok (.iload_n 2, 1) := by decide +kernel
theorem dX10_put_19 : decode cX10_put 19 = .ok (.invokevirtual 327, 3) := by decide +kernel
theorem dX10_put_22 : decode cX10_put 22 = .ok (.istore 5, 2) := by decide +kernel
theorem dX10_put_24 : decode cX10_put 24 = .ok (.iload 5, 2) := by decide +kernel
theorem dX10_put_26 : decode cX10_put 26 = .ok (.ifCond .eq 6, 3) := by decide +kernel
theorem dX10_put_29 : decode cX10_put 29 = .ok (.iload 5, 2) := by decide +kernel
theorem dX10_put_31 : decode cX10_put 31 = .ok (.ireturn, 1) := by decide +kernel
theorem dX10_put_32 : decode cX10_put 32 = .ok (.aload_n 0, 1) := by decide +kernel
theorem dX10_put_33 : decode cX10_put 33 = .ok (.getfield 33, 3) := by decide +kernel
theorem dX10_put_36 : decode cX10_put 36 = .ok (.iload_n 1, 1) := by decide +kernel
theorem dX10_put_37 : decode cX10_put 37 = .ok (.iload_n 2, 1) := by decide +kernel
theorem dX10_put_38 : decode cX10_put 38 = .ok (.lload_n 3, 1) := by decide +kernel
theorem dX10_put_39 : decode cX10_put 39 = .ok (.invokevirtual 330, 3) := by decide +kernel
theorem dX10_put_42 : decode cX10_put 42 = .ok (.iconst 1, 1) := by decide +kernel
theorem dX10_put_43 : decode cX10_put 43 = .ok (.ireturn, 1) := by decide +kernel
theorem dX10_element_0 : decode cX10_element 0 = .ok (.aload_n 0, 1) := by decide +kernel
theorem dX10_element_1 : decode cX10_element 1 = .ok (.getfield 33, 3) := by decide +kernel
theorem dX10_element_4 : decode cX10_element 4 = .ok (.iload_n 1, 1) := by decide +kernel
theorem dX10_element_5 : decode cX10_element 5 = .ok (.invokevirtual 91, 3) := by decide +kernel
theorem dX10_element_8 : decode cX10_element 8 = .ok (.ifCond .eq 15, 3) := by decide +kernel
theorem dX10_element_11 : decode cX10_element 11 = .ok (.aload_n 0, 1) := by decide +kernel
theorem dX10_element_12 : decode cX10_element 12 = .ok (.getfield 33, 3) := by decide +kernel
theorem dX10_element_15 : decode cX10_element 15 = .ok (.iload_n 1, 1) := by decide +kernel
theorem dX10_element_16 : decode cX10_element 16 = .ok (.iload_n 2, 1) := by decide +kernel
theorem dX10_element_17 : decode cX10_element 17 = .ok (.invokevirtual 327, 3) := by decide +kernel
theorem dX10_element_20 : decode cX10_element 20 = .ok (.ifCond .eq 7, 3) := by decide +kernel
theorem dX10_element_23 : decode cX10_element 23 = .ok (.ldc2_w 336, 3) := by decide +kernel
theorem dX10_element_26 : decode cX10_element 26 = .ok (.lreturn, 1) := by decide +kernel
theorem dX10_element_27 : decode cX10_element 27 = .ok (.aload_n 0, 1) := by decide +kernel
theorem dX10_element_28 : decode cX10_element 28 = .ok (.getfield 33, 3) := by decide +kernel
theorem dX10_element_31 : decode cX10_element 31 = .ok (.iload_n 1, 1) := by decide +kernel
theorem dX10_element_32 : decode cX10_element 32 = .ok (.iload_n 2, 1) := by decide +kernel
theorem dX10_element_33 : decode cX10_element 33 = .ok (.invokevirtual 105, 3) := by decide +kernel
theorem dX10_element_36 : decode cX10_element 36 = .ok (.lreturn, 1) := by decide +kernel
theorem dX10_shift_0 : decode cX10_shift 0 = .ok (.aload_n 0, 1) := by decide +kernel
theorem dX10_shift_1 : decode cX10_shift 1 = .ok (.getfield 33, 3) := by decide +kernel
theorem dX10_shift_4 : decode cX10_shift 4 = .ok (.iload_n 1, 1) := by decide +kernel
theorem dX10_shift_5 : decode cX10_shift 5 = .ok (.invokevirtual 91, 3) := by decide +kernel
theorem dX10_shift_8 : decode cX10_shift 8 = .ok (.ifCond .eq 14, 3) := by decide +kernel
theorem dX10_shift_11 : decode cX10_shift 11 = .ok (.aload_n 0, 1) := by decide +kernel
theorem dX10_shift_12 : decode cX10_shift 12 = .ok (.getfield 33, 3) := by decide +kernel
theorem dX10_shift_15 : decode cX10_shift 15 = .ok (.iload_n 3, 1) := by decide +kernel
theorem dX10_shift_16 : decode cX10_shift 16 = .ok (.invokevirtual 91, 3) := by decide +kernel
theorem dX10_shift_19 : decode cX10_shift 19 = .ok (.ifCond .ne 5, 3) := by decide +kernel
theorem dX10_shift_22 : decode cX10_shift 22 = .ok (.iconst (-1), 1) := by decide +kernel
theorem dX10_shift_23 : decode cX10_shift 23 = .ok (.ireturn, 1) := by decide +kernel
theorem dX10_shift_24 : decode cX10_shift 24 = .ok (.aload_n 0, 1) := by decide +kernel
theorem dX10_shift_25 : decode cX10_shift 25 = .ok (.getfield 33, 3) := by decide +kernel
theorem dX10_shift_28 : decode cX10_shift 28 = .ok (.iload_n 1, 1) := by decide +kernel
theorem dX10_shift_29 : decode cX10_shift 29 = .ok (.invokevirtual 95, 3) := by decide +kernel
theorem dX10_shift_32 : decode cX10_shift 32 = .ok (.ifCond .ne 14, 3) := by decide +kernel
theorem dX10_shift_35 : decode cX10_shift 35 = .ok (.aload_n 0, 1) := by decide +kernel
theorem dX10_shift_36 : decode cX10_shift 36 = .ok (.getfield 33, 3) := by decide +kernel
theorem dX10_shift_39 : decode cX10_shift 39 = .ok (.iload_n 3, 1) := by decide +kernel
theorem dX10_shift_40 : decode cX10_shift 40 = .ok (.invokevirtual 95, 3) := by decide +kernel
theorem dX10_shift_43 : decode cX10_shift 43 = .ok (.ifCond .eq 6, 3) := by decide +kernel
theorem dX10_shift_46 : decode cX10_shift 46 = .ok (.bipush (-11), 2) := by decide +kernel
theorem dX10_shift_48 : decode cX10_shift 48 = .ok (.ireturn, 1) := by decide +kernel
theorem dX10_shift_49 : decode cX10_shift 49 = .ok (.aload_n 0, 1) := by decide +kernel
theorem dX10_shift_50 : decode cX10_shift 50 = .ok (.getfield 33, 3) := by decide +kernel
theorem dX10_shift_53 : decode cX10_shift 53 = .ok (.iload_n 1, 1) := by decide +kernel
theorem dX10_shift_54 : decode cX10_shift 54 = .ok (.iload_n 3, 1) := by decide +kernel
theorem dX10_shift_55 : decode cX10_shift 55 = .ok (.invokevirtual 338, 3) := by decide +kernel
theorem dX10_shift_58 : decode cX10_shift 58 = .ok (.ifCond .ne 6, 3) := by decide +kernel
theorem dX10_shift_61 : decode cX10_shift 61 = .ok (.bipush (-12), 2) := by decide +kernel
theorem dX10_shift_63 : decode cX10_shift 63 = .ok (.ireturn, 1) := by decide +kernel
theorem dX10_shift_64 : decode cX10_shift 64 = .ok (.aload_n 0, 1) := by decide +kernel
theorem dX10_shift_65 : decode cX10_shift 65 = .ok (.getfield 33, 3) := by decide +kernel
theorem dX10_shift_68 : decode cX10_shift 68 = .ok (.iload_n 1, 1) := by decide +kernel
theorem dX10_shift_69 : decode cX10_shift 69 = .ok (.iload_n 2, 1) := by decide +kernel
theorem dX10_shift_70 : decode cX10_shift 70 = .ok (.iload 5, 2) := by decide +kernel
theorem dX10_shift_72 : decode cX10_shift 72 = .ok (.invokevirtual 341, 3) := by decide +kernel
theorem dX10_shift_75 : decode cX10_shift 75 = .ok (.ifCond .eq 18, 3) := by decide +kernel
theorem dX10_shift_78 : decode cX10_shift 78 = .ok (.aload_n 0, 1) := by decide +kernel
theorem dX10_shift_79 : decode cX10_shift 79 = .ok (.getfield 33, 3) := by decide +kernel
theorem dX10_shift_82 : decode cX10_shift 82 = .ok (.iload_n 3, 1) := by decide +kernel
theorem dX10_shift_83 : decode cX10_shift 83 = .ok (.iload 4, 2) := by decide +kernel
theorem dX10_shift_85 : decode cX10_shift 85 = .ok (.iload 5, 2) := by decide +kernel
theorem dX10_shift_87 : decode cX10_shift 87 = .ok (.invokevirtual 341, 3) := by decide +kernel
theorem dX10_shift_90 : decode cX10_shift 90 = .ok (.ifCond .ne 6, 3) := by decide +kernel
theorem dX10_shift_93 : decode cX10_shift 93 = .ok (.bipush (-13), 2) := by decide +kernel
theorem dX10_shift_95 : decode cX10_shift 95 = .ok (.ireturn, 1) := by decide +kernel
theorem dX10_shift_96 : decode cX10_shift 96 = .ok (.aload_n 0, 1) := by decide +kernel
theorem dX10_shift_97 : decode cX10_shift 97 = .ok (.getfield 33, 3) := by decide +kernel
theorem dX10_shift_100 : decode cX10_shift 100 = .ok (.iload_n 1, 1) := by decide +kernel
theorem dX10_shift_101 : decode cX10_shift 101 = .ok (.iload_n 2, 1) := by decide +kernel
theorem dX10_shift_102 : decode cX10_shift 102 = .ok (.iload_n 3, 1) := by decide +kernel
theorem dX10_shift_103 : decode cX10_shift 103 = .ok (.iload 4, 2) := by decide +kernel
theorem dX10_shift_105 : decode cX10_shift 105 = .ok (.iload 5, 2) := by decide +kernel
theorem dX10_shift_107 : decode cX10_shift 107 = .ok (.invokevirtual 345, 3) := by decide +kernel
theorem dX10_shift_110 : decode cX10_shift 110 = .ok (.iload 5, 2) := by decide +kernel
theorem dX10_shift_112 : decode cX10_shift 112 = .ok (.ireturn, 1) := by decide +kernel
theorem dX10_taken_0 : decode cX10_taken 0 = .ok (.aload_n 0, 1) := by decide +kernel
theorem dX10_taken_1 : decode cX10_taken 1 = .ok (.getfield 33, 3) := by decide +kernel
theorem dX10_taken_4 : decode cX10_taken 4 = .ok (.iload_n 1, 1) := by decide +kernel
theorem dX10_taken_5 : decode cX10_taken 5 = .ok (.invokevirtual 91, 3) := by decide +kernel
theorem dX10_taken_8 : decode cX10_taken 8 = .ok (.ifCond .eq 10, 3) := by decide +kernel
theorem dX10_taken_11 : decode cX10_taken 11 = .ok (.iload_n 2, 1) := by decide +kernel
theorem dX10_taken_12 : decode cX10_taken 12 = .ok (.invokestatic 298, 3) := by decide +kernel
theorem dX10_taken_15 : decode cX10_taken 15 = .ok (.ifCond .ne 5, 3) := by decide +kernel
theorem dX10_taken_18 : decode cX10_taken 18 = .ok (.iconst (-1), 1) := by decide +kernel
theorem dX10_taken_19 : decode cX10_taken 19 = .ok (.ireturn, 1) := by decide +kernel
theorem dX10_taken_20 : decode cX10_taken 20 = .ok (.aload_n 0, 1) := by decide +kernel
theorem dX10_taken_21 : decode cX10_taken 21 = .ok (.getfield 33, 3) := by decide +kernel
theorem dX10_taken_24 : decode cX10_taken 24 = .ok (.iload_n 1, 1) := by decide +kernel
theorem dX10_taken_25 : decode cX10_taken 25 = .ok (.invokevirtual 95, 3) := by decide +kernel
theorem dX10_taken_28 : decode cX10_taken 28 = .ok (.ifCond .eq 6, 3) := by decide +kernel
theorem dX10_taken_31 : decode cX10_taken 31 = .ok (.bipush (-11), 2) := by decide +kernel
theorem dX10_taken_33 : decode cX10_taken 33 = .ok (.ireturn, 1) := by decide +kernel
theorem dX10_taken_34 : decode cX10_taken 34 = .ok (.aload_n 0, 1) := by decide +kernel
theorem dX10_taken_35 : decode cX10_taken 35 = .ok (.getfield 33, 3) := by decide +kernel
theorem dX10_taken_38 : decode cX10_taken 38 = .ok (.iload_n 1, 1) := by decide +kernel
theorem dX10_taken_39 : decode cX10_taken 39 = .ok (.invokevirtual 348, 3) := by decide +kernel
theorem dX10_taken_42 : decode cX10_taken 42 = .ok (.ifCond .ne 6, 3) := by decide +kernel
theorem dX10_taken_45 : decode cX10_taken 45 = .ok (.bipush (-12), 2) := by decide +kernel
theorem dX10_taken_47 : decode cX10_taken 47 = .ok (.ireturn, 1) := by decide +kernel
theorem dX10_taken_48 : decode cX10_taken 48 = .ok (.aload_n 0, 1) := by decide +kernel
theorem dX10_taken_49 : decode cX10_taken 49 = .ok (.getfield 79, 3) := by decide +kernel
theorem dX10_taken_52 : decode cX10_taken 52 = .ok (.aload_n 0, 1) := by decide +kernel
theorem dX10_taken_53 : decode cX10_taken 53 = .ok (.getfield 33, 3) := by decide +kernel
theorem dX10_taken_56 : decode cX10_taken 56 = .ok (.iload_n 1, 1) := by decide +kernel
theorem dX10_taken_57 : decode cX10_taken 57 = .ok (.invokevirtual 351, 3) := by decide +kernel
theorem dX10_taken_60 : decode cX10_taken 60 = .ok (.invokevirtual 354, 3) := by decide +kernel
theorem dX10_taken_63 : decode cX10_taken 63 = .ok (.istore_n 3, 1) := by decide +kernel
theorem dX10_taken_64 : decode cX10_taken 64 = .ok (.iload_n 3, 1) := by decide +kernel
theorem dX10_taken_65 : decode cX10_taken 65 = .ok (.iload_n 2, 1) := by decide +kernel
theorem dX10_taken_66 : decode cX10_taken 66 = .ok (.invokestatic 357, 3) := by decide +kernel
theorem dX10_taken_69 : decode cX10_taken 69 = .ok (.ifCond .eq 7, 3) := by decide +kernel
theorem dX10_taken_72 : decode cX10_taken 72 = .ok (.iload_n 3, 1) := by decide +kernel
theorem dX10_taken_73 : decode cX10_taken 73 = .ok (.goto 5, 3) := by decide +kernel
theorem dX10_taken_76 : decode cX10_taken 76 = .ok (.bipush (-12), 2) := by decide +kernel
theorem dX10_taken_78 : decode cX10_taken 78 = .ok (.ireturn, 1) := by decide +kernel
theorem dX10_count_0 : decode cX10_count 0 = .ok (.iload_n 1, 1) := by decide +kernel
theorem dX10_count_1 : decode cX10_count 1 = .ok (.tableswitch 87 0 5 #[39, 47, 55, 63, 71, 79], 39) := by decide +kernel
theorem dX10_count_40 : decode cX10_count 40 = .ok (.aload_n 0, 1) := by decide +kernel
theorem dX10_count_41 : decode cX10_count 41 = .ok (.getfield 10, 3) := by decide +kernel
theorem dX10_count_44 : decode cX10_count 44 = .ok (.getfield 161, 3) := by decide +kernel
theorem dX10_count_47 : decode cX10_count 47 = .ok (.ireturn, 1) := by decide +kernel
theorem dX10_count_48 : decode cX10_count 48 = .ok (.aload_n 0, 1) := by decide +kernel
theorem dX10_count_49 : decode cX10_count 49 = .ok (.getfield 19, 3) := by decide +kernel
theorem dX10_count_52 : decode cX10_count 52 = .ok (.invokevirtual 360, 3) := by decide +kernel
theorem dX10_count_55 : decode cX10_count 55 = .ok (.ireturn, 1) := by decide +kernel
theorem dX10_count_56 : decode cX10_count 56 = .ok (.aload_n 0, 1) := by decide +kernel
theorem dX10_count_57 : decode cX10_count 57 = .ok (.getfield 72, 3) := by decide +kernel
theorem dX10_count_60 : decode cX10_count 60 = .ok (.invokevirtual 286, 3) := by decide +kernel
theorem dX10_count_63 : decode cX10_count 63 = .ok (.ireturn, 1) := by decide +kernel
theorem dX10_count_64 : decode cX10_count 64 = .ok (.aload_n 0, 1) := by decide +kernel
theorem dX10_count_65 : decode cX10_count 65 = .ok (.getfield 79, 3) := by decide +kernel
theorem dX10_count_68 : decode cX10_count 68 = .ok (.invokevirtual 363, 3) := by decide +kernel
theorem dX10_count_71 : decode cX10_count 71 = .ok (.ireturn, 1) := by decide +kernel
theorem dX10_count_72 : decode cX10_count 72 = .ok (.aload_n 0, 1) := by decide +kernel
theorem dX10_count_73 : decode cX10_count 73 = .ok (.getfield 79, 3) := by decide +kernel
theorem dX10_count_76 : decode cX10_count 76 = .ok (.invokevirtual 366, 3) := by decide +kernel
theorem dX10_count_79 : decode cX10_count 79 = .ok (.ireturn, 1) := by decide +kernel
theorem dX10_count_80 : decode cX10_count 80 = .ok (.aload_n 0, 1) := by decide +kernel
theorem dX10_count_81 : decode cX10_count 81 = .ok (.getfield 10, 3) := by decide +kernel
theorem dX10_count_84 : decode cX10_count 84 = .ok (.invokevirtual 369, 3) := by decide +kernel
theorem dX10_count_87 : decode cX10_count 87 = .ok (.ireturn, 1) := by decide +kernel
theorem dX10_count_88 : decode cX10_count 88 = .ok (.iconst (-1), 1) := by decide +kernel
theorem dX10_count_89 : decode cX10_count 89 = .ok (.ireturn, 1) := by decide +kernel
theorem dX11_within_0 : decode cX11_within 0 = .ok (.lload_n 0, 1) := by decide +kernel
theorem dX11_within_1 : decode cX11_within 1 = .ok (.lload_n 2, 1) := by decide +kernel
theorem dX11_within_2 : decode cX11_within 2 = .ok (.lcmp, 1) := by decide +kernel
theorem dX11_within_3 : decode cX11_within 3 = .ok (.ifCond .lt 14, 3) := by decide +kernel
theorem dX11_within_6 : decode cX11_within 6 = .ok (.lload_n 0, 1) := by decide +kernel
theorem dX11_within_7 : decode cX11_within 7 = .ok (.lload 4, 2) := by decide +kernel
theorem dX11_within_9 : decode cX11_within 9 = .ok (.lcmp, 1) := by decide +kernel
theorem dX11_within_10 : decode cX11_within 10 = .ok (.ifCond .gt 7, 3) := by decide +kernel
theorem dX11_within_13 : decode cX11_within 13 = .ok (.iconst 1, 1) := by decide +kernel
theorem dX11_within_14 : decode cX11_within 14 = .ok (.goto 4, 3) := by decide +kernel
theorem dX11_within_17 : decode cX11_within 17 = .ok (.iconst 0, 1) := by decide +kernel
theorem dX11_within_18 : decode cX11_within 18 = .ok (.ireturn, 1) := by decide +kernel
theorem dX11_init_0 : decode cX11_init 0 = .ok (.aload_n 0, 1) := by decide +kernel
theorem dX11_init_1 : decode cX11_init 1 = .ok (.invokespecial 3, 3) := by decide +kernel
theorem dX11_init_4 : decode cX11_init 4 = .ok (.aload_n 0, 1) := by decide +kernel
theorem dX11_init_5 : decode cX11_init 5 = .ok (.bipush 84, 2) := by decide +kernel
theorem dX11_init_7 : decode cX11_init 7 = .ok (.newarray .int, 2) := by decide +kernel
theorem dX11_init_9 : decode cX11_init 9 = .ok (.putfield 9, 3) := by decide +kernel
theorem dX11_init_12 : decode cX11_init 12 = .ok (.aload_n 0, 1) := by decide +kernel
theorem dX11_init_13 : decode cX11_init 13 = .ok (.bipush 40, 2) := by decide +kernel
theorem dX11_init_15 : decode cX11_init 15 = .ok (.newarray .int, 2) := by decide +kernel
theorem dX11_init_17 : decode cX11_init 17 = .ok (.putfield 13, 3) := by decide +kernel
theorem dX11_init_20 : decode cX11_init 20 = .ok (.aload_n 0, 1) := by decide +kernel
theorem dX11_init_21 : decode cX11_init 21 = .ok (.bipush 40, 2) := by decide +kernel
theorem dX11_init_23 : decode cX11_init 23 = .ok (.newarray .int, 2) := by decide +kernel
theorem dX11_init_25 : decode cX11_init 25 = .ok (.putfield 16, 3) := by decide +kernel
theorem dX11_init_28 : decode cX11_init 28 = .ok (.aload_n 0, 1) := by decide +kernel
theorem dX11_init_29 : decode cX11_init 29 = .ok (.bipush 40, 2) := by decide +kernel
theorem dX11_init_31 : decode cX11_init 31 = .ok (.newarray .int, 2) := by decide +kernel
theorem dX11_init_33 : decode cX11_init 33 = .ok (.putfield 19, 3) := by decide +kernel
theorem dX11_init_36 : decode cX11_init 36 = .ok (.aload_n 0, 1) := by decide +kernel
theorem dX11_init_37 : decode cX11_init 37 = .ok (.sipush 160, 3) := by decide +kernel
theorem dX11_init_40 : decode cX11_init 40 = .ok (.newarray .int, 2) := by decide +kernel
theorem dX11_init_42 : decode cX11_init 42 = .ok (.putfield 22, 3) := by decide +kernel
theorem dX11_init_45 : decode cX11_init 45 = .ok (.aload_n 0, 1) := by decide +kernel
theorem dX11_init_46 : decode cX11_init 46 = .ok (.sipush 160, 3) := by decide +kernel
theorem dX11_init_49 : decode cX11_init 49 = .ok (.newarray .int, 2) := by decide +kernel
theorem dX11_init_51 : decode cX11_init 51 = .ok (.putfield 25, 3) := by decide +kernel
theorem dX11_init_54 : decode cX11_init 54 = .ok (.aload_n 0, 1) := by decide +kernel
theorem dX11_init_55 : decode cX11_init 55 = .ok (.sipush 160, 3) := by decide +kernel
theorem dX11_init_58 : decode cX11_init 58 = .ok (.newarray .int, 2) := by decide +kernel
theorem dX11_init_60 : decode cX11_init 60 = .ok (.putfield 28, 3) := by decide +kernel
theorem dX11_init_63 : decode cX11_init 63 = .ok (.aload_n 0, 1) := by decide +kernel
theorem dX11_init_64 : decode cX11_init 64 = .ok (.sipush 160, 3) := by decide +kernel
theorem dX11_init_67 : decode cX11_init 67 = .ok (.newarray .int, 2) := by decide +kernel
theorem dX11_init_69 : decode cX11_init 69 = .ok (.putfield 31, 3) := by decide +kernel
theorem dX11_init_72 : decode cX11_init 72 = .ok (.aload_n 0, 1) := by decide +kernel
theorem dX11_init_73 : decode cX11_init 73 = .ok (.sipush 160, 3) := by decide +kernel
theorem dX11_init_76 : decode cX11_init 76 = .ok (.newarray .int, 2) := by decide +kernel
theorem dX11_init_78 : decode cX11_init 78 = .ok (.putfield 34, 3) := by decide +kernel
theorem dX11_init_81 : decode cX11_init 81 = .ok (.aload_n 0, 1) := by decide +kernel
theorem dX11_init_82 : decode cX11_init 82 = .ok (.sipush 160, 3) := by decide +kernel
theorem dX11_init_85 : decode cX11_init 85 = .ok (.newarray .int, 2) := by decide +kernel
theorem dX11_init_87 : decode cX11_init 87 = .ok (.putfield 37, 3) := by decide +kernel
theorem dX11_init_90 : decode cX11_init 90 = .ok (.aload_n 0, 1) := by decide +kernel
theorem dX11_init_91 : decode cX11_init 91 = .ok (.sipush 160, 3) := by decide +kernel
theorem dX11_init_94 : decode cX11_init 94 = .ok (.newarray .int, 2) := by decide +kernel
theorem dX11_init_96 : decode cX11_init 96 = .ok (.putfield 40, 3) := by decide +kernel
theorem dX11_init_99 : decode cX11_init 99 = .ok (.aload_n 0, 1) := by decide +kernel
theorem dX11_init_100 : decode cX11_init 100 = .ok (.sipush 160, 3) := by decide +kernel
theorem dX11_init_103 : decode cX11_init 103 = .ok (.newarray .int, 2) := by decide +kernel
theorem dX11_init_105 : decode cX11_init 105 = .ok (.putfield 43, 3) := by decide +kernel
theorem dX11_init_108 : decode cX11_init 108 = .ok (.aload_n 0, 1) := by decide +kernel
theorem dX11_init_109 : decode cX11_init 109 = .ok (.bipush 6, 2) := by decide +kernel
theorem dX11_init_111 : decode cX11_init 111 = .ok (.newarray .int, 2) := by decide +kernel
theorem dX11_init_113 : decode cX11_init 113 = .ok (.putfield 46, 3) := by decide +kernel
theorem dX11_init_116 : decode cX11_init 116 = .ok (.aload_n 0, 1) := by decide +kernel
theorem dX11_init_117 : decode cX11_init 117 = .ok (.bipush 6, 2) := by decide +kernel
theorem dX11_init_119 : decode cX11_init 119 = .ok (.newarray .long, 2) := by decide +kernel
theorem dX11_init_121 : decode cX11_init 121 = .ok (.dup, 1) := by decide +kernel
theorem dX11_init_122 : decode cX11_init 122 = .ok (.iconst 0, 1) := by decide +kernel
theorem dX11_init_123 : decode cX11_init 123 = .ok (.ldc2_w 49, 3) := by decide +kernel
theorem dX11_init_126 : decode cX11_init 126 = .ok (.lastore, 1) := by decide +kernel
theorem dX11_init_127 : decode cX11_init 127 = .ok (.dup, 1) := by decide +kernel
theorem dX11_init_128 : decode cX11_init 128 = .ok (.iconst 1, 1) := by decide +kernel
theorem dX11_init_129 : decode cX11_init 129 = .ok (.ldc2_w 51, 3) := by decide +kernel
theorem dX11_init_132 : decode cX11_init 132 = .ok (.lastore, 1) := by decide +kernel
theorem dX11_init_133 : decode cX11_init 133 = .ok (.dup, 1) := by decide +kernel
theorem dX11_init_134 : decode cX11_init 134 = .ok (.iconst 2, 1) := by decide +kernel
theorem dX11_init_135 : decode cX11_init 135 = .ok (.ldc2_w 53, 3) := by decide +kernel
theorem dX11_init_138 : decode cX11_init 138 = .ok (.lastore, 1) := by decide +kernel
theorem dX11_init_139 : decode cX11_init 139 = .ok (.dup, 1) := by decide +kernel
theorem dX11_init_140 : decode cX11_init 140 = .ok (.iconst 3, 1) := by decide +kernel
theorem dX11_init_141 : decode cX11_init 141 = .ok (.ldc2_w 55, 3) := by decide +kernel
theorem dX11_init_144 : decode cX11_init 144 = .ok (.lastore, 1) := by decide +kernel
theorem dX11_init_145 : decode cX11_init 145 = .ok (.dup, 1) := by decide +kernel
theorem dX11_init_146 : decode cX11_init 146 = .ok (.iconst 4, 1) := by decide +kernel
theorem dX11_init_147 : decode cX11_init 147 = .ok (.ldc2_w 57, 3) := by decide +kernel
theorem dX11_init_150 : decode cX11_init 150 = .ok (.lastore, 1) := by decide +kernel
theorem dX11_init_151 : decode cX11_init 151 = .ok (.dup, 1) := by decide +kernel
theorem dX11_init_152 : decode cX11_init 152 = .ok (.iconst 5, 1) := by decide +kernel
theorem dX11_init_153 : decode cX11_init 153 = .ok (.ldc2_w 59, 3) := by decide +kernel
theorem dX11_init_156 : decode cX11_init 156 = .ok (.lastore, 1) := by decide +kernel
theorem dX11_init_157 : decode cX11_init 157 = .ok (.putfield 61, 3) := by decide +kernel
theorem dX11_init_160 : decode cX11_init 160 = .ok (.aload_n 0, 1) := by decide +kernel
theorem dX11_init_161 : decode cX11_init 161 = .ok (.bipush 84, 2) := by decide +kernel
theorem dX11_init_163 : decode cX11_init 163 = .ok (.newarray .int, 2) := by decide +kernel
theorem dX11_init_165 : decode cX11_init 165 = .ok (.putfield 65, 3) := by decide +kernel
theorem dX11_init_168 : decode cX11_init 168 = .ok (.aload_n 0, 1) := by decide +kernel
theorem dX11_init_169 : decode cX11_init 169 = .ok (.bipush 8, 2) := by decide +kernel
theorem dX11_init_171 : decode cX11_init 171 = .ok (.newarray .boolean, 2) := by decide +kernel
theorem dX11_init_173 : decode cX11_init 173 = .ok (.putfield 68, 3) := by decide +kernel
theorem dX11_init_176 : decode cX11_init 176 = .ok (.aload_n 0, 1) := by decide +kernel
theorem dX11_init_177 : decode cX11_init 177 = .ok (.bipush 8, 2) := by decide +kernel
theorem dX11_init_179 : decode cX11_init 179 = .ok (.newarray .boolean, 2) := by decide +kernel
theorem dX11_init_181 : decode cX11_init 181 = .ok (.putfield 72, 3) := by decide +kernel
theorem dX11_init_184 : decode cX11_init 184 = .ok (.aload_n 0, 1) := by decide +kernel
theorem dX11_init_185 : decode cX11_init 185 = .ok (.bipush 8, 2) := by decide +kernel
theorem dX11_init_187 : decode cX11_init 187 = .ok (.newarray .boolean, 2) := by decide +kernel
theorem dX11_init_189 : decode cX11_init 189 = .ok (.putfield 75, 3) := by decide +kernel
theorem dX11_init_192 : decode cX11_init 192 = .ok (.aload_n 0, 1) := by decide +kernel
theorem dX11_init_193 : decode cX11_init 193 = .ok (.bipush 8, 2) := by decide +kernel
theorem dX11_init_195 : decode cX11_init 195 = .ok (.newarray .int, 2) := by decide +kernel
theorem dX11_init_197 : decode cX11_init 197 = .ok (.putfield 78, 3) := by decide +kernel
theorem dX11_init_200 : decode cX11_init 200 = .ok (.aload_n 0, 1) := by decide +kernel
theorem dX11_init_201 : decode cX11_init 201 = .ok (.sipush 2048, 3) := by decide +kernel
theorem dX11_init_204 : decode cX11_init 204 = .ok (.newarray .int, 2) := by decide +kernel
theorem dX11_init_206 : decode cX11_init 206 = .ok (.putfield 81, 3) := by decide +kernel
theorem dX11_init_209 : decode cX11_init 209 = .ok (.aload_n 0, 1) := by decide +kernel
theorem dX11_init_210 : decode cX11_init 210 = .ok (.bipush 8, 2) := by decide +kernel
theorem dX11_init_212 : decode cX11_init 212 = .ok (.newarray .int, 2) := by decide +kernel
theorem dX11_init_214 : decode cX11_init 214 = .ok (.putfield 84, 3) := by decide +kernel
theorem dX11_init_217 : decode cX11_init 217 = .ok (.aload_n 0, 1) := by decide +kernel
theorem dX11_init_218 : decode cX11_init 218 = .ok (.bipush 8, 2) := by decide +kernel
theorem dX11_init_220 : decode cX11_init 220 = .ok (.newarray .boolean, 2) := by decide +kernel
theorem dX11_init_222 : decode cX11_init 222 = .ok (.putfield 87, 3) := by decide +kernel
theorem dX11_init_225 : decode cX11_init 225 = .ok (.aload_n 0, 1) := by decide +kernel
theorem dX11_init_226 : decode cX11_init 226 = .ok (.bipush 8, 2) := by decide +kernel
theorem dX11_init_228 : decode cX11_init 228 = .ok (.newarray .boolean, 2) := by decide +kernel
theorem dX11_init_230 : decode cX11_init 230 = .ok (.putfield 90, 3) := by decide +kernel
theorem dX11_init_233 : decode cX11_init 233 = .ok (.aload_n 0, 1) := by decide +kernel
theorem dX11_init_234 : decode cX11_init 234 = .ok (.bipush 6, 2) := by decide +kernel
theorem dX11_init_236 : decode cX11_init 236 = .ok (.newarray .int, 2) := by decide +kernel
theorem dX11_init_238 : decode cX11_init 238 = .ok (.putfield 93, 3) := by decide +kernel
theorem dX11_init_241 : decode cX11_init 241 = .ok (.aload_n 0, 1) := by decide +kernel
theorem dX11_init_242 : decode cX11_init 242 = .ok (.bipush 72, 2) := by decide +kernel
theorem dX11_init_244 : decode cX11_init 244 = .ok (.newarray .int, 2) := by decide +kernel
theorem dX11_init_246 : decode cX11_init 246 = .ok (.putfield 96, 3) := by decide +kernel
theorem dX11_init_249 : decode cX11_init 249 = .ok (.aload_n 0, 1) := by decide +kernel
theorem dX11_init_250 : decode cX11_init 250 = .ok (.bipush 84, 2) := by decide +kernel
theorem dX11_init_252 : decode cX11_init 252 = .ok (.newarray .int, 2) := by decide +kernel
theorem dX11_init_254 : decode cX11_init 254 = .ok (.putfield 99, 3) := by decide +kernel
theorem dX11_init_257 : decode cX11_init 257 = .ok (.aload_n 0, 1) := by decide +kernel
theorem dX11_init_258 : decode cX11_init 258 = .ok (.bipush 6, 2) := by decide +kernel
theorem dX11_init_260 : decode cX11_init 260 = .ok (.newarray .int, 2) := by decide +kernel
theorem dX11_init_262 : decode cX11_init 262 = .ok (.putfield 102, 3) := by decide +kernel
theorem dX11_init_265 : decode cX11_init 265 = .ok (.aload_n 0, 1) := by decide +kernel
theorem dX11_init_266 : decode cX11_init 266 = .ok (.iconst (-1), 1) := by decide +kernel
theorem dX11_init_267 : decode cX11_init 267 = .ok (.putfield 105, 3) := by decide +kernel
theorem dX11_init_270 : decode cX11_init 270 = .ok (.aload_n 0, 1) := by decide +kernel
theorem dX11_init_271 : decode cX11_init 271 = .ok (.bipush 50, 2) := by decide +kernel
theorem dX11_init_273 : decode cX11_init 273 = .ok (.newarray .int, 2) := by decide +kernel
theorem dX11_init_275 : decode cX11_init 275 = .ok (.putfield 109, 3) := by decide +kernel
theorem dX11_init_278 : decode cX11_init 278 = .ok (.aload_n 0, 1) := by decide +kernel
theorem dX11_init_279 : decode cX11_init 279 = .ok (.bipush 24, 2) := by decide +kernel
theorem dX11_init_281 : decode cX11_init 281 = .ok (.newarray .int, 2) := by decide +kernel
theorem dX11_init_283 : decode cX11_init 283 = .ok (.putfield 112, 3) := by decide +kernel
theorem dX11_init_286 : decode cX11_init 286 = .ok (.aload_n 0, 1) := by decide +kernel
theorem dX11_init_287 : decode cX11_init 287 = .ok (.bipush 6, 2) := by decide +kernel
theorem dX11_init_289 : decode cX11_init 289 = .ok (.newarray .int, 2) := by decide +kernel
theorem dX11_init_291 : decode cX11_init 291 = .ok (.putfield 115, 3) := by decide +kernel
theorem dX11_init_294 : decode cX11_init 294 = .ok (.aload_n 0, 1) := by decide +kernel
theorem dX11_init_295 : decode cX11_init 295 = .ok (.bipush 6, 2) := by decide +kernel
theorem dX11_init_297 : decode cX11_init 297 = .ok (.newarray .int, 2) := by decide +kernel
theorem dX11_init_299 : decode cX11_init 299 = .ok (.putfield 118, 3) := by decide +kernel
theorem dX11_init_302 : decode cX11_init 302 = .ok (.aload_n 0, 1) := by decide +kernel
theorem dX11_init_303 : decode cX11_init 303 = .ok (.sipush 360, 3) := by decide +kernel
theorem dX11_init_306 : decode cX11_init 306 = .ok (.newarray .long, 2) := by decide +kernel
theorem dX11_init_308 : decode cX11_init 308 = .ok (.putfield 121, 3) := by decide +kernel
theorem dX11_init_311 : decode cX11_init 311 = .ok (.aload_n 0, 1) := by decide +kernel
theorem dX11_init_312 : decode cX11_init 312 = .ok (.bipush 60, 2) := by decide +kernel
theorem dX11_init_314 : decode cX11_init 314 = .ok (.newarray .long, 2) := by decide +kernel
theorem dX11_init_316 : decode cX11_init 316 = .ok (.putfield 124, 3) := by decide +kernel
theorem dX11_init_319 : decode cX11_init 319 = .ok (.iconst 0, 1) := by decide +kernel
theorem dX11_init_320 : decode cX11_init 320 = .ok (.istore_n 1, 1) := by decide +kernel
theorem dX11_init_321 : decode cX11_init 321 = .ok (.iload_n 1, 1) := by decide +kernel
theorem dX11_init_322 : decode cX11_init 322 = .ok (.bipush 6, 2) := by decide +kernel
theorem dX11_init_324 : decode cX11_init 324 = .ok (.if_icmp .ge 16, 3) := by decide +kernel
theorem dX11_init_327 : decode cX11_init 327 = .ok (.aload_n 0, 1) := by decide +kernel
theorem dX11_init_328 : decode cX11_init 328 = .ok (.getfield 115, 3) := by decide +kernel
theorem dX11_init_331 : decode cX11_init 331 = .ok (.iload_n 1, 1) := by decide +kernel
theorem dX11_init_332 : decode cX11_init 332 = .ok (.iconst (-1), 1) := by decide +kernel
theorem dX11_init_333 : decode cX11_init 333 = .ok (.iastore, 1) := by decide +kernel
theorem dX11_init_334 : decode cX11_init 334 = .ok (.iinc 1 1, 3) := by decide +kernel
theorem dX11_init_337 : decode cX11_init 337 = .ok (.goto (-16), 3) := by decide +kernel
theorem dX11_init_340 : decode cX11_init 340 = .ok (.aload_n 0, 1) := by decide +kernel
theorem dX11_init_341 : decode cX11_init 341 = .ok (.getfield 9, 3) := by decide +kernel
theorem dX11_init_344 : decode cX11_init 344 = .ok (.bipush 16, 2) := by decide +kernel
theorem dX11_init_346 : decode cX11_init 346 = .ok (.iconst 1, 1) := by decide +kernel
theorem dX11_init_347 : decode cX11_init 347 = .ok (.iastore, 1) := by decide +kernel
theorem dX11_init_348 : decode cX11_init 348 = .ok (.aload_n 0, 1) := by decide +kernel
theorem dX11_init_349 : decode cX11_init 349 = .ok (.getfield 9, 3) := by decide +kernel
theorem dX11_init_352 : decode cX11_init 352 = .ok (.bipush 18, 2) := by decide +kernel
theorem dX11_init_354 : decode cX11_init 354 = .ok (.bipush 6, 2) := by decide +kernel
theorem dX11_init_356 : decode cX11_init 356 = .ok (.iastore, 1) := by decide +kernel
theorem dX11_init_357 : decode cX11_init 357 = .ok (.return_, 1) := by decide +kernel
theorem dX11_becomes_0 : decode cX11_becomes 0 = .ok (.aload_n 0, 1) := by decide +kernel
theorem dX11_becomes_1 : decode cX11_becomes 1 = .ok (.getfield 9, 3) := by decide +kernel
theorem dX11_becomes_4 : decode cX11_becomes 4 = .ok (.iload_n 1, 1) := by decide +kernel
theorem dX11_becomes_5 : decode cX11_becomes 5 = .ok (.iaload, 1) := by decide +kernel
theorem dX11_becomes_6 : decode cX11_becomes 6 = .ok (.istore_n 3, 1) := by decide +kernel
theorem dX11_becomes_7 : decode cX11_becomes 7 = .ok (.iload_n 3, 1) := by decide +kernel
theorem dX11_becomes_8 : decode cX11_becomes 8 = .ok (.iload_n 2, 1) := by decide +kernel
theorem dX11_becomes_9 : decode cX11_becomes 9 = .ok (.if_icmp .ne 5, 3) := by decide +kernel
theorem dX11_becomes_12 : decode cX11_becomes 12 = .ok (.iload_n 3, 1) := by decide +kernel
theorem dX11_becomes_13 : decode cX11_becomes 13 = .ok (.ireturn, 1) := by decide +kernel
theorem dX11_becomes_14 : decode cX11_becomes 14 = .ok (.aload_n 0, 1) := by decide +kernel
theorem dX11_becomes_15 : decode cX11_becomes 15 = .ok (.getfield 127, 3) := by decide +kernel
theorem dX11_becomes_18 : decode cX11_becomes 18 = .ok (.bipush 40, 2) := by decide +kernel
theorem dX11_becomes_20 : decode cX11_becomes 20 = .ok (.if_icmp .ne 77, 3) := by decide +kernel
theorem dX11_becomes_23 : decode cX11_becomes 23 = .ok (.iconst 1, 1) := by decide +kernel
theorem dX11_becomes_24 : decode cX11_becomes 24 = .ok (.istore 4, 2) := by decide +kernel
theorem dX11_becomes_26 : decode cX11_becomes 26 = .ok (.iload 4, 2) := by decide +kernel
theorem dX11_becomes_28 : decode cX11_becomes 28 = .ok (.bipush 40, 2) := by decide +kernel
theorem dX11_becomes_30 : decode cX11_becomes 30 = .ok (.if_icmp .ge 57, 3) := by decide +kernel
theorem dX11_becomes_33 : decode cX11_becomes 33 = .ok (.aload_n 0, 1) := by decide +kernel
theorem dX11_becomes_34 : decode cX11_becomes 34 = .ok (.getfield 13, 3) := by decide +kernel
theorem dX11_becomes_37 : decode cX11_becomes 37 = .ok (.iload 4, 2) := by decide +kernel
theorem dX11_becomes_39 : decode cX11_becomes 39 = .ok (.iconst 1, 1) := by decide +kernel
theorem dX11_becomes_40 : decode cX11_becomes 40 = .ok (.isub, 1) := by decide +kernel
theorem dX11_becomes_41 : decode cX11_becomes 41 = .ok (.aload_n 0, 1) := by decide +kernel
theorem dX11_becomes_42 : decode cX11_becomes 42 = .ok (.getfield 13, 3) := by decide +kernel
theorem dX11_becomes_45 : decode cX11_becomes 45 = .ok (.iload 4, 2) := by decide +kernel
theorem dX11_becomes_47 : decode cX11_becomes 47 = .ok (.iaload, 1) := by decide +kernel
theorem dX11_becomes_48 : decode cX11_becomes 48 = .ok (.iastore, 1) := by decide +kernel
theorem dX11_becomes_49 : decode cX11_becomes 49 = .ok (.aload_n 0, 1) := by decide +kernel
theorem dX11_becomes_50 : decode cX11_becomes 50 = .ok (.getfield 16, 3) := by decide +kernel
theorem dX11_becomes_53 : decode cX11_becomes 53 = .ok (.iload 4, 2) := by decide +kernel
theorem dX11_becomes_55 : decode cX11_becomes 55 = .ok (.iconst 1, 1) := by decide +kernel
theorem dX11_becomes_56 : decode cX11_becomes 56 = .ok (.isub, 1) := by decide +kernel
theorem dX11_becomes_57 : decode cX11_becomes 57 = .ok (.aload_n 0, 1) := by decide +kernel
theorem dX11_becomes_58 : decode cX11_becomes 58 = .ok (.getfield 16, 3) := by decide +kernel
theorem dX11_becomes_61 : decode cX11_becomes 61 = .ok (.iload 4, 2) := by decide +kernel
theorem dX11_becomes_63 : decode cX11_becomes 63 = .ok (.iaload, 1) := by decide +kernel
theorem dX11_becomes_64 : decode cX11_becomes 64 = .ok (.iastore, 1) := by decide +kernel
theorem dX11_becomes_65 : decode cX11_becomes 65 = .ok (.aload_n 0, 1) := by decide +kernel
theorem dX11_becomes_66 : decode cX11_becomes 66 = .ok (.getfield 19, 3) := by decide +kernel
theorem dX11_becomes_69 : decode cX11_becomes 69 = .ok (.iload 4, 2) := by decide +kernel
theorem dX11_becomes_71 : decode cX11_becomes 71 = .ok (.iconst 1, 1) := by decide +kernel
theorem dX11_becomes_72 : decode cX11_becomes 72 = .ok (.isub, 1) := by decide +kernel
theorem dX11_becomes_73 : decode cX11_becomes 73 = .ok (.aload_n 0, 1) := by decide +kernel
theorem dX11_becomes_74 : decode cX11_becomes 74 = .ok (.getfield 19, 3) := by decide +kernel
theorem dX11_becomes_77 : decode cX11_becomes 77 = .ok (.iload 4, 2) := by decide +kernel
theorem dX11_becomes_79 : decode cX11_becomes 79 = .ok (.iaload, 1) := by decide +kernel
theorem dX11_becomes_80 : decode cX11_becomes 80 = .ok (.iastore, 1) := by decide +kernel
theorem dX11_becomes_81 : decode cX11_becomes 81 = .ok (.iinc 4 1, 3) := by decide +kernel
theorem dX11_becomes_84 : decode cX11_becomes 84 = .ok (.goto (-58), 3) := by decide +kernel
theorem dX11_becomes_87 : decode cX11_becomes 87 = .ok (.aload_n 0, 1) := by decide +kernel
theorem dX11_becomes_88 : decode cX11_becomes 88 = .ok (.dup, 1) := by decide +kernel
theorem dX11_becomes_89 : decode cX11_becomes 89 = .ok (.getfield 127, 3) := by decide +kernel
theorem dX11_becomes_92 : decode cX11_becomes 92 = .ok (.iconst 1, 1) := by decide +kernel
theorem dX11_becomes_93 : decode cX11_becomes 93 = .ok (.isub, 1) := by decide +kernel
theorem dX11_becomes_94 : decode cX11_becomes 94 = .ok (.putfield 127, 3) := by decide +kernel
theorem dX11_becomes_97 : decode cX11_becomes 97 = .ok (.aload_n 0, 1) := by decide +kernel
theorem dX11_becomes_98 : decode cX11_becomes 98 = .ok (.getfield 13, 3) := by decide +kernel
theorem dX11_becomes_101 : decode cX11_becomes 101 = .ok (.aload_n 0, 1) := by decide +kernel
theorem dX11_becomes_102 : decode cX11_becomes 102 = .ok (.getfield 127, 3) := by decide +kernel
theorem dX11_becomes_105 : decode cX11_becomes 105 = .ok (.iload_n 1, 1) := by decide +kernel
theorem dX11_becomes_106 : decode cX11_becomes 106 = .ok (.iastore, 1) := by decide +kernel
theorem dX11_becomes_107 : decode cX11_becomes 107 = .ok (.aload_n 0, 1) := by decide +kernel
theorem dX11_becomes_108 : decode cX11_becomes 108 = .ok (.getfield 16, 3) := by decide +kernel
theorem dX11_becomes_111 : decode cX11_becomes 111 = .ok (.aload_n 0, 1) := by decide +kernel
theorem dX11_becomes_112 : decode cX11_becomes 112 = .ok (.getfield 127, 3) := by decide +kernel
theorem dX11_becomes_115 : decode cX11_becomes 115 = .ok (.iload_n 3, 1) := by decide +kernel
theorem dX11_becomes_116 : decode cX11_becomes 116 = .ok (.iastore, 1) := by decide +kernel
theorem dX11_becomes_117 : decode cX11_becomes 117 = .ok (.aload_n 0, 1) := by decide +kernel
theorem dX11_becomes_118 : decode cX11_becomes 118 = .ok (.getfield 19, 3) := by decide +kernel
theorem dX11_becomes_121 : decode cX11_becomes 121 = .ok (.aload_n 0, 1) := by decide +kernel
theorem dX11_becomes_122 : decode cX11_becomes 122 = .ok (.getfield 127, 3) := by decide +kernel
theorem dX11_becomes_125 : decode cX11_becomes 125 = .ok (.iload_n 2, 1) := by decide +kernel
theorem dX11_becomes_126 : decode cX11_becomes 126 = .ok (.iastore, 1) := by decide +kernel
theorem dX11_becomes_127 : decode cX11_becomes 127 = .ok (.aload_n 0, 1) := by decide +kernel
theorem dX11_becomes_128 : decode cX11_becomes 128 = .ok (.dup, 1) := by decide +kernel
theorem dX11_becomes_129 : decode cX11_becomes 129 = .ok (.getfield 127, 3) := by decide +kernel
theorem dX11_becomes_132 : decode cX11_becomes 132 = .ok (.iconst 1, 1) := by decide +kernel
theorem dX11_becomes_133 : decode cX11_becomes 133 = .ok (.iadd, 1) := by decide +kernel
theorem dX11_becomes_134 : decode cX11_becomes 134 = .ok (.putfield 127, 3) := by decide +kernel
theorem dX11_becomes_137 : decode cX11_becomes 137 = .ok (.aload_n 0, 1) := by decide +kernel
theorem dX11_becomes_138 : decode cX11_becomes 138 = .ok (.aload_n 0, 1) := by decide +kernel
theorem dX11_becomes_139 : decode cX11_becomes 139 = .ok (.getfield 127, 3) := by decide +kernel
theorem dX11_becomes_142 : decode cX11_becomes 142 = .ok (.putfield 130, 3) := by decide +kernel
theorem dX11_becomes_145 : decode cX11_becomes 145 = .ok (.aload_n 0, 1) := by decide +kernel
theorem dX11_becomes_146 : decode cX11_becomes 146 = .ok (.getfield 9, 3) := by decide +kernel
theorem dX11_becomes_149 : decode cX11_becomes 149 = .ok (.iload_n 1, 1) := by decide +kernel
theorem dX11_becomes_150 : decode cX11_becomes 150 = .ok (.iload_n 2, 1) := by decide +kernel
theorem dX11_becomes_151 : decode cX11_becomes 151 = .ok (.iastore, 1) := by decide +kernel
theorem dX11_becomes_152 : decode cX11_becomes 152 = .ok (.iload_n 3, 1) := by decide +kernel
theorem dX11_becomes_153 : decode cX11_becomes 153 = .ok (.ireturn, 1) := by decide +kernel
theorem dX11_undo_0 : decode cX11_undo 0 = .ok (.aload_n 0, 1) := by decide +kernel
theorem dX11_undo_1 : decode cX11_undo 1 = .ok (.getfield 127, 3) := by decide +kernel
theorem dX11_undo_4 : decode cX11_undo 4 = .ok (.ifCond .ne 6, 3) := by decide +kernel
theorem dX11_undo_7 : decode cX11_undo 7 = .ok (.bipush (-5), 2) := by decide +kernel
theorem dX11_undo_9 : decode cX11_undo 9 = .ok (.ireturn, 1) := by decide +kernel
theorem dX11_undo_10 : decode cX11_undo 10 = .ok (.aload_n 0, 1) := by decide +kernel
theorem dX11_undo_11 : decode cX11_undo 11 = .ok (.dup, 1) := by decide +kernel
theorem dX11_undo_12 : decode cX11_undo 12 = .ok (.getfield 127, 3) := by decide +kernel
theorem dX11_undo_15 : decode cX11_undo 15 = .ok (.iconst 1, 1) := by decide +kernel
theorem dX11_undo_16 : decode cX11_undo 16 = .ok (.isub, 1) := by decide +kernel
theorem dX11_undo_17 : decode cX11_undo 17 = .ok (.putfield 127, 3) := by decide +kernel
theorem dX11_undo_20 : decode cX11_undo 20 = .ok (.aload_n 0, 1) := by decide +kernel
theorem dX11_undo_21 : decode cX11_undo 21 = .ok (.getfield 9, 3) := by decide +kernel
theorem dX11_undo_24 : decode cX11_undo 24 = .ok (.aload_n 0, 1) := by decide +kernel
theorem dX11_undo_25 : decode cX11_undo 25 = .ok (.getfield 13, 3) := by decide +kernel
theorem dX11_undo_28 : decode cX11_undo 28 = .ok (.aload_n 0, 1) := by decide +kernel
theorem dX11_undo_29 : decode cX11_undo 29 = .ok (.getfield 127, 3) := by decide +kernel
theorem dX11_undo_32 : decode cX11_undo 32 = .ok (.iaload, 1) := by decide +kernel
theorem dX11_undo_33 : decode cX11_undo 33 = .ok (.aload_n 0, 1) := by decide +kernel
theorem dX11_undo_34 : decode cX11_undo 34 = .ok (.getfield 16, 3) := by decide +kernel
theorem dX11_undo_37 : decode cX11_undo 37 = .ok (.aload_n 0, 1) := by decide +kernel
theorem dX11_undo_38 : decode cX11_undo 38 = .ok (.getfield 127, 3) := by decide +kernel
theorem dX11_undo_41 : decode cX11_undo 41 = .ok (.iaload, 1) := by decide +kernel
theorem dX11_undo_42 : decode cX11_undo 42 = .ok (.iastore, 1) := by decide +kernel
theorem dX11_undo_43 : decode cX11_undo 43 = .ok (.aload_n 0, 1) := by decide +kernel
theorem dX11_undo_44 : decode cX11_undo 44 = .ok (.getfield 127, 3) := by decide +kernel
theorem dX11_undo_47 : decode cX11_undo 47 = .ok (.ireturn, 1) := by decide +kernel
theorem dX11_redo_0 : decode cX11_redo 0 = .ok (.aload_n 0, 1) := by decide +kernel
theorem dX11_redo_1 : decode cX11_redo 1 = .ok (.getfield 127, 3) := by decide +kernel
theorem dX11_redo_4 : decode cX11_redo 4 = .ok (.aload_n 0, 1) := by decide +kernel
theorem dX11_redo_5 : decode cX11_redo 5 = .ok (.getfield 130, 3) := by decide +kernel
theorem dX11_redo_8 : decode cX11_redo 8 = .ok (.if_icmp .ne 6, 3) := by decide +kernel
theorem dX11_redo_11 : decode cX11_redo 11 = .ok (.bipush (-5), 2) := by decide +kernel
theorem dX11_redo_13 : decode cX11_redo 13 = .ok (.ireturn, 1) := by decide +kernel
theorem dX11_redo_14 : decode cX11_redo 14 = .ok (.aload_n 0, 1) := by decide +kernel
theorem dX11_redo_15 : decode cX11_redo 15 = .ok (.getfield 9, 3) := by decide +kernel
theorem dX11_redo_18 : decode cX11_redo 18 = .ok (.aload_n 0, 1) := by decide +kernel
theorem dX11_redo_19 : decode cX11_redo 19 = .ok (.getfield 13, 3) := by decide +kernel
theorem dX11_redo_22 : decode cX11_redo 22 = .ok (.aload_n 0, 1) := by decide +kernel
theorem dX11_redo_23 : decode cX11_redo 23 = .ok (.getfield 127, 3) := by decide +kernel
theorem dX11_redo_26 : decode cX11_redo 26 = .ok (.iaload, 1) := by decide +kernel
theorem dX11_redo_27 : decode cX11_redo 27 = .ok (.aload_n 0, 1) := by decide +kernel
theorem dX11_redo_28 : decode cX11_redo 28 = .ok (.getfield 19, 3) := by decide +kernel
theorem dX11_redo_31 : decode cX11_redo 31 = .ok (.aload_n 0, 1) := by decide +kernel
theorem dX11_redo_32 : decode cX11_redo 32 = .ok (.getfield 127, 3) := by decide +kernel
theorem dX11_redo_35 : decode cX11_redo 35 = .ok (.iaload, 1) := by decide +kernel
theorem dX11_redo_36 : decode cX11_redo 36 = .ok (.iastore, 1) := by decide +kernel
theorem dX11_redo_37 : decode cX11_redo 37 = .ok (.aload_n 0, 1) := by decide +kernel
theorem dX11_redo_38 : decode cX11_redo 38 = .ok (.dup, 1) := by decide +kernel
theorem dX11_redo_39 : decode cX11_redo 39 = .ok (.getfield 127, 3) := by decide +kernel
theorem dX11_redo_42 : decode cX11_redo 42 = .ok (.iconst 1, 1) := by decide +kernel
theorem dX11_redo_43 : decode cX11_redo 43 = .ok (.iadd, 1) := by decide +kernel
theorem dX11_redo_44 : decode cX11_redo 44 = .ok (.putfield 127, 3) := by decide +kernel
theorem dX11_redo_47 : decode cX11_redo 47 = .ok (.aload_n 0, 1) := by decide +kernel
theorem dX11_redo_48 : decode cX11_redo 48 = .ok (.getfield 130, 3) := by decide +kernel
theorem dX11_redo_51 : decode cX11_redo 51 = .ok (.aload_n 0, 1) := by decide +kernel
theorem dX11_redo_52 : decode cX11_redo 52 = .ok (.getfield 127, 3) := by decide +kernel
theorem dX11_redo_55 : decode cX11_redo 55 = .ok (.isub, 1) := by decide +kernel
theorem dX11_redo_56 : decode cX11_redo 56 = .ok (.ireturn, 1) := by decide +kernel
theorem dX11_isOne_0 : decode cX11_isOne 0 = .ok (.lload_n 1, 1) := by decide +kernel
theorem dX11_isOne_1 : decode cX11_isOne 1 = .ok (.lconst 0, 1) := by decide +kernel
theorem dX11_isOne_2 : decode cX11_isOne 2 = .ok (.aload_n 0, 1) := by decide +kernel
theorem dX11_isOne_3 : decode cX11_isOne 3 = .ok (.getfield 133, 3) := by decide +kernel
theorem dX11_isOne_6 : decode cX11_isOne 6 = .ok (.iconst 1, 1) := by decide +kernel
theorem dX11_isOne_7 : decode cX11_isOne 7 = .ok (.isub, 1) := by decide +kernel
theorem dX11_isOne_8 : decode cX11_isOne 8 = .ok (.i2l, 1) := by decide +kernel
theorem dX11_isOne_9 : decode cX11_isOne 9 = .ok (.invokestatic 136, 3) := by decide +kernel
theorem dX11_isOne_12 : decode cX11_isOne 12 = .ok (.ireturn, 1) := by decide +kernel
theorem dX11_felt_0 : decode cX11_felt 0 = .ok (.bipush 20, 2) := by decide +kernel
theorem dX11_felt_2 : decode cX11_felt 2 = .ok (.bipush 8, 2) := by decide +kernel
theorem dX11_felt_4 : decode cX11_felt 4 = .ok (.iload_n 0, 1) := by decide +kernel
theorem dX11_felt_5 : decode cX11_felt 5 = .ok (.imul, 1) := by decide +kernel
theorem dX11_felt_6 : decode cX11_felt 6 = .ok (.iadd, 1) := by decide +kernel
theorem dX11_felt_7 : decode cX11_felt 7 = .ok (.iload_n 1, 1) := by decide +kernel
theorem dX11_felt_8 : decode cX11_felt 8 = .ok (.iadd, 1) := by decide +kernel
theorem dX11_felt_9 : decode cX11_felt 9 = .ok (.ireturn, 1) := by decide +kernel
theorem dX11_isPair_0 : decode cX11_isPair 0 = .ok (.iload_n 1, 1) := by decide +kernel
theorem dX11_isPair_1 : decode cX11_isPair 1 = .ok (.ifCond .lt 42, 3) := by decide +kernel
theorem dX11_isPair_4 : decode cX11_isPair 4 = .ok (.aload_n 0, 1) := by decide +kernel
theorem dX11_isPair_5 : decode cX11_isPair 5 = .ok (.iload_n 1, 1) := by decide +kernel
theorem dX11_isPair_6 : decode cX11_isPair 6 = .ok (.bipush 10, 2) := by decide +kernel
theorem dX11_isPair_8 : decode cX11_isPair 8 = .ok (.idiv, 1) := by decide +kernel
theorem dX11_isPair_9 : decode cX11_isPair 9 = .ok (.i2l, 1) := by decide +kernel
theorem dX11_isPair_10 : decode cX11_isPair 10 = .ok (.invokevirtual 140, 3) := by decide +kernel
theorem dX11_isPair_13 : decode cX11_isPair 13 = .ok (.ifCond .eq 30, 3) := by decide +kernel
theorem dX11_isPair_16 : decode cX11_isPair 16 = .ok (.aload_n 0, 1) := by decide +kernel
theorem dX11_isPair_17 : decode cX11_isPair 17 = .ok (.iload_n 1, 1) := by decide +kernel
theorem dX11_isPair_18 : decode cX11_isPair 18 = .ok (.bipush 10, 2) := by decide +kernel
theorem dX11_isPair_20 : decode cX11_isPair 20 = .ok (.irem, 1) := by decide +kernel
theorem dX11_isPair_21 : decode cX11_isPair 21 = .ok (.i2l, 1) := by decide +kernel
theorem dX11_isPair_22 : decode cX11_isPair 22 = .ok (.invokevirtual 140, 3) := by decide +kernel
theorem dX11_isPair_25 : decode cX11_isPair 25 = .ok (.ifCond .eq 18, 3) := by decide +kernel
theorem dX11_isPair_28 : decode cX11_isPair 28 = .ok (.iload_n 1, 1) := by decide +kernel
theorem dX11_isPair_29 : decode cX11_isPair 29 = .ok (.bipush 10, 2) := by decide +kernel
theorem dX11_isPair_31 : decode cX11_isPair 31 = .ok (.idiv, 1) := by decide +kernel
theorem dX11_isPair_32 : decode cX11_isPair 32 = .ok (.iload_n 1, 1) := by decide +kernel
theorem dX11_isPair_33 : decode cX11_isPair 33 = .ok (.bipush 10, 2) := by decide +kernel
theorem dX11_isPair_35 : decode cX11_isPair 35 = .ok (.irem, 1) := by decide +kernel
theorem dX11_isPair_36 : decode cX11_isPair 36 = .ok (.if_icmp .eq 7, 3) := by decide +kernel
theorem dX11_isPair_39 : decode cX11_isPair 39 = .ok (.iconst 1, 1) := by decide +kernel
theorem dX11_isPair_40 : decode cX11_isPair 40 = .ok (.goto 4, 3) := by decide +kernel
theorem dX11_isPair_43 : decode cX11_isPair 43 = .ok (.iconst 0, 1) := by decide +kernel
theorem dX11_isPair_44 : decode cX11_isPair 44 = .ok (.ireturn, 1) := by decide +kernel
theorem dX11_adds_0 : decode cX11_adds 0 = .ok (.aload_n 0, 1) := by decide +kernel
theorem dX11_adds_1 : decode cX11_adds 1 = .ok (.getfield 9, 3) := by decide +kernel
theorem dX11_adds_4 : decode cX11_adds 4 = .ok (.aload_n 0, 1) := by decide +kernel
theorem dX11_adds_5 : decode cX11_adds 5 = .ok (.getfield 133, 3) := by decide +kernel
theorem dX11_adds_8 : decode cX11_adds 8 = .ok (.iload_n 1, 1) := by decide +kernel
theorem dX11_adds_9 : decode cX11_adds 9 = .ok (.iastore, 1) := by decide +kernel
theorem dX11_adds_10 : decode cX11_adds 10 = .ok (.aload_n 0, 1) := by decide +kernel
theorem dX11_adds_11 : decode cX11_adds 11 = .ok (.getfield 9, 3) := by decide +kernel
theorem dX11_adds_14 : decode cX11_adds 14 = .ok (.bipush 8, 2) := by decide +kernel
theorem dX11_adds_16 : decode cX11_adds 16 = .ok (.aload_n 0, 1) := by decide +kernel
theorem dX11_adds_17 : decode cX11_adds 17 = .ok (.getfield 133, 3) := by decide +kernel
theorem dX11_adds_20 : decode cX11_adds 20 = .ok (.iadd, 1) := by decide +kernel
theorem dX11_adds_21 : decode cX11_adds 21 = .ok (.iload_n 2, 1) := by decide +kernel
theorem dX11_adds_22 : decode cX11_adds 22 = .ok (.iastore, 1) := by decide +kernel
theorem dX11_adds_23 : decode cX11_adds 23 = .ok (.aload_n 0, 1) := by decide +kernel
theorem dX11_adds_24 : decode cX11_adds 24 = .ok (.dup, 1) := by decide +kernel
theorem dX11_adds_25 : decode cX11_adds 25 = .ok (.getfield 133, 3) := by decide +kernel
theorem dX11_adds_28 : decode cX11_adds 28 = .ok (.iconst 1, 1) := by decide +kernel
theorem dX11_adds_29 : decode cX11_adds 29 = .ok (.iadd, 1) := by decide +kernel
theorem dX11_adds_30 : decode cX11_adds 30 = .ok (.putfield 133, 3) := by decide +kernel
theorem dX11_adds_33 : decode cX11_adds 33 = .ok (.return_, 1) := by decide +kernel
theorem dX11_person_0 : decode cX11_person 0 = .ok (.iload_n 1, 1) := by decide +kernel
theorem dX11_person_1 : decode cX11_person 1 = .ok (.i2l, 1) := by decide +kernel
theorem dX11_person_2 : decode cX11_person 2 = .ok (.lconst 0, 1) := by decide +kernel
theorem dX11_person_3 : decode cX11_person 3 = .ok (.ldc2_w 144, 3) := by decide +kernel
theorem dX11_person_6 : decode cX11_person 6 = .ok (.invokestatic 136, 3) := by decide +kernel
theorem dX11_person_9 : decode cX11_person 9 = .ok (.ifCond .eq 15, 3) := by decide +kernel
theorem dX11_person_12 : decode cX11_person 12 = .ok (.iload_n 2, 1) := by decide +kernel
theorem dX11_person_13 : decode cX11_person 13 = .ok (.i2l, 1) := by decide +kernel
theorem dX11_person_14 : decode cX11_person 14 = .ok (.lconst 0, 1) := by decide +kernel
theorem dX11_person_15 : decode cX11_person 15 = .ok (.ldc2_w 146, 3) := by decide +kernel
theorem dX11_person_18 : decode cX11_person 18 = .ok (.invokestatic 136, 3) := by decide +kernel
theorem dX11_person_21 : decode cX11_person 21 = .ok (.ifCond .ne 5, 3) := by decide +kernel
theorem dX11_person_24 : decode cX11_person 24 = .ok (.iconst (-1), 1) := by decide +kernel
theorem dX11_person_25 : decode cX11_person 25 = .ok (.ireturn, 1) := by decide +kernel
theorem dX11_person_26 : decode cX11_person 26 = .ok (.aload_n 0, 1) := by decide +kernel
theorem dX11_person_27 : decode cX11_person 27 = .ok (.getfield 133, 3) := by decide +kernel
theorem dX11_person_30 : decode cX11_person 30 = .ok (.bipush 8, 2) := by decide +kernel
theorem dX11_person_32 : decode cX11_person 32 = .ok (.if_icmp .ne 6, 3) := by decide +kernel
theorem dX11_person_35 : decode cX11_person 35 = .ok (.bipush (-3), 2) := by decide +kernel
theorem dX11_person_37 : decode cX11_person 37 = .ok (.ireturn, 1) := by decide +kernel
theorem dX11_person_38 : decode cX11_person 38 = .ok (.aload_n 0, 1) := by decide +kernel
theorem dX11_person_39 : decode cX11_person 39 = .ok (.iload_n 1, 1) := by decide +kernel
theorem dX11_person_40 : decode cX11_person 40 = .ok (.iload_n 2, 1) := by decide +kernel
theorem dX11_person_41 : decode cX11_person 41 = .ok (.invokevirtual 148, 3) := by decide +kernel
theorem dX11_person_44 : decode cX11_person 44 = .ok (.aload_n 0, 1) := by decide +kernel
theorem dX11_person_45 : decode cX11_person 45 = .ok (.getfield 133, 3) := by decide +kernel
theorem dX11_person_48 : decode cX11_person 48 = .ok (.iconst 1, 1) := by decide +kernel
theorem dX11_person_49 : decode cX11_person 49 = .ok (.isub, 1) := by decide +kernel
theorem dX11_person_50 : decode cX11_person 50 = .ok (.ireturn, 1) := by decide +kernel
theorem dX11_people_0 : decode cX11_people 0 = .ok (.iload_n 1, 1) := by decide +kernel
theorem dX11_people_1 : decode cX11_people 1 = .ok (.invokestatic 152, 3) := by decide +kernel
theorem dX11_people_4 : decode cX11_people 4 = .ok (.ifCond .eq 15, 3) := by decide +kernel
theorem dX11_people_7 : decode cX11_people 7 = .ok (.iload_n 3, 1) := by decide +kernel
theorem dX11_people_8 : decode cX11_people 8 = .ok (.i2l, 1) := by decide +kernel
theorem dX11_people_9 : decode cX11_people 9 = .ok (.lconst 1, 1) := by decide +kernel
theorem dX11_people_10 : decode cX11_people 10 = .ok (.ldc2_w 156, 3) := by decide +kernel
theorem dX11_people_13 : decode cX11_people 13 = .ok (.invokestatic 136, 3) := by decide +kernel
theorem dX11_people_16 : decode cX11_people 16 = .ok (.ifCond .ne 5, 3) := by decide +kernel
theorem dX11_people_19 : decode cX11_people 19 = .ok (.iconst (-1), 1) := by decide +kernel
theorem dX11_people_20 : decode cX11_people 20 = .ok (.ireturn, 1) := by decide +kernel
theorem dX11_people_21 : decode cX11_people 21 = .ok (.aload_n 0, 1) := by decide +kernel
theorem dX11_people_22 : decode cX11_people 22 = .ok (.getfield 115, 3) := by decide +kernel
theorem dX11_people_25 : decode cX11_people 25 = .ok (.iload_n 1, 1) := by decide +kernel
theorem dX11_people_26 : decode cX11_people 26 = .ok (.iaload, 1) := by decide +kernel
