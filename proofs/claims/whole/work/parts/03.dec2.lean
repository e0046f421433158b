theorem dX11_people_27 : decode cX11_people 27 = .ok (.ifCond .lt 17, 3) := by decide +kernel
theorem dX11_people_30 : decode cX11_people 30 = .ok (.aload_n 0, 1) := by decide +kernel
theorem dX11_people_31 : decode cX11_people 31 = .ok (.getfield 115, 3) := by decide +kernel
theorem dX11_people_34 : decode cX11_people 34 = .ok (.iload_n 1, 1) := by decide +kernel
theorem dX11_people_35 : decode cX11_people 35 = .ok (.iaload, 1) := by decide +kernel
theorem dX11_people_36 : decode cX11_people 36 = .ok (.bipush 50, 2) := by decide +kernel
theorem dX11_people_38 : decode cX11_people 38 = .ok (.if_icmp .eq 6, 3) := by decide +kernel
theorem dX11_people_41 : decode cX11_people 41 = .ok (.bipush (-12), 2) := by decide +kernel
theorem dX11_people_43 : decode cX11_people 43 = .ok (.ireturn, 1) := by decide +kernel
theorem dX11_people_44 : decode cX11_people 44 = .ok (.iconst 0, 1) := by decide +kernel
theorem dX11_people_45 : decode cX11_people 45 = .ok (.istore 4, 2) := by decide +kernel
theorem dX11_people_47 : decode cX11_people 47 = .ok (.aload_n 0, 1) := by decide +kernel
theorem dX11_people_48 : decode cX11_people 48 = .ok (.getfield 115, 3) := by decide +kernel
theorem dX11_people_51 : decode cX11_people 51 = .ok (.iload_n 1, 1) := by decide +kernel
theorem dX11_people_52 : decode cX11_people 52 = .ok (.iaload, 1) := by decide +kernel
theorem dX11_people_53 : decode cX11_people 53 = .ok (.bipush 50, 2) := by decide +kernel
theorem dX11_people_55 : decode cX11_people 55 = .ok (.if_icmp .ne 11, 3) := by decide +kernel
theorem dX11_people_58 : decode cX11_people 58 = .ok (.iload_n 2, 1) := by decide +kernel
theorem dX11_people_59 : decode cX11_people 59 = .ok (.ifCond .lt 7, 3) := by decide +kernel
theorem dX11_people_62 : decode cX11_people 62 = .ok (.iconst 1, 1) := by decide +kernel
theorem dX11_people_63 : decode cX11_people 63 = .ok (.goto 4, 3) := by decide +kernel
theorem dX11_people_66 : decode cX11_people 66 = .ok (.iconst 0, 1) := by decide +kernel
theorem dX11_people_67 : decode cX11_people 67 = .ok (.istore 5, 2) := by decide +kernel
theorem dX11_people_69 : decode cX11_people 69 = .ok (.iload 5, 2) := by decide +kernel
theorem dX11_people_71 : decode cX11_people 71 = .ok (.ifCond .eq 136, 3) := by decide +kernel
theorem dX11_people_74 : decode cX11_people 74 = .ok (.iload 4, 2) := by decide +kernel
theorem dX11_people_76 : decode cX11_people 76 = .ok (.iload_n 3, 1) := by decide +kernel
theorem dX11_people_77 : decode cX11_people 77 = .ok (.if_icmp .ge 130, 3) := by decide +kernel
theorem dX11_people_80 : decode cX11_people 80 = .ok (.iload_n 2, 1) := by decide +kernel
theorem dX11_people_81 : decode cX11_people 81 = .ok (.aload_n 0, 1) := by decide +kernel
theorem dX11_people_82 : decode cX11_people 82 = .ok (.getfield 118, 3) := by decide +kernel
theorem dX11_people_85 : decode cX11_people 85 = .ok (.iload_n 1, 1) := by decide +kernel
theorem dX11_people_86 : decode cX11_people 86 = .ok (.iaload, 1) := by decide +kernel
theorem dX11_people_87 : decode cX11_people 87 = .ok (.iconst 2, 1) := by decide +kernel
theorem dX11_people_88 : decode cX11_people 88 = .ok (.isub, 1) := by decide +kernel
theorem dX11_people_89 : decode cX11_people 89 = .ok (.iconst 2, 1) := by decide +kernel
theorem dX11_people_90 : decode cX11_people 90 = .ok (.iload 4, 2) := by decide +kernel
theorem dX11_people_92 : decode cX11_people 92 = .ok (.imul, 1) := by decide +kernel
theorem dX11_people_93 : decode cX11_people 93 = .ok (.isub, 1) := by decide +kernel
theorem dX11_people_94 : decode cX11_people 94 = .ok (.if_icmp .gt 16, 3) := by decide +kernel
theorem dX11_people_97 : decode cX11_people 97 = .ok (.aload_n 0, 1) := by decide +kernel
theorem dX11_people_98 : decode cX11_people 98 = .ok (.getfield 133, 3) := by decide +kernel
theorem dX11_people_101 : decode cX11_people 101 = .ok (.bipush 8, 2) := by decide +kernel
theorem dX11_people_103 : decode cX11_people 103 = .ok (.if_icmp .ge 7, 3) := by decide +kernel
theorem dX11_people_106 : decode cX11_people 106 = .ok (.iconst 1, 1) := by decide +kernel
theorem dX11_people_107 : decode cX11_people 107 = .ok (.goto 4, 3) := by decide +kernel
theorem dX11_people_110 : decode cX11_people 110 = .ok (.iconst 0, 1) := by decide +kernel
theorem dX11_people_111 : decode cX11_people 111 = .ok (.istore 5, 2) := by decide +kernel
theorem dX11_people_113 : decode cX11_people 113 = .ok (.bipush 60, 2) := by decide +kernel
theorem dX11_people_115 : decode cX11_people 115 = .ok (.iload_n 1, 1) := by decide +kernel
theorem dX11_people_116 : decode cX11_people 116 = .ok (.imul, 1) := by decide +kernel
theorem dX11_people_117 : decode cX11_people 117 = .ok (.iload_n 2, 1) := by decide +kernel
theorem dX11_people_118 : decode cX11_people 118 = .ok (.iadd, 1) := by decide +kernel
theorem dX11_people_119 : decode cX11_people 119 = .ok (.iconst 2, 1) := by decide +kernel
theorem dX11_people_120 : decode cX11_people 120 = .ok (.iload 4, 2) := by decide +kernel
theorem dX11_people_122 : decode cX11_people 122 = .ok (.imul, 1) := by decide +kernel
theorem dX11_people_123 : decode cX11_people 123 = .ok (.iadd, 1) := by decide +kernel
theorem dX11_people_124 : decode cX11_people 124 = .ok (.istore 6, 2) := by decide +kernel
theorem dX11_people_126 : decode cX11_people 126 = .ok (.iload 5, 2) := by decide +kernel
theorem dX11_people_128 : decode cX11_people 128 = .ok (.ifCond .eq 43, 3) := by decide +kernel
theorem dX11_people_131 : decode cX11_people 131 = .ok (.aload_n 0, 1) := by decide +kernel
theorem dX11_people_132 : decode cX11_people 132 = .ok (.getfield 121, 3) := by decide +kernel
theorem dX11_people_135 : decode cX11_people 135 = .ok (.iload 6, 2) := by decide +kernel
theorem dX11_people_137 : decode cX11_people 137 = .ok (.laload, 1) := by decide +kernel
theorem dX11_people_138 : decode cX11_people 138 = .ok (.lconst 0, 1) := by decide +kernel
theorem dX11_people_139 : decode cX11_people 139 = .ok (.ldc2_w 144, 3) := by decide +kernel
theorem dX11_people_142 : decode cX11_people 142 = .ok (.invokestatic 136, 3) := by decide +kernel
theorem dX11_people_145 : decode cX11_people 145 = .ok (.ifCond .eq 26, 3) := by decide +kernel
theorem dX11_people_148 : decode cX11_people 148 = .ok (.aload_n 0, 1) := by decide +kernel
theorem dX11_people_149 : decode cX11_people 149 = .ok (.getfield 121, 3) := by decide +kernel
theorem dX11_people_152 : decode cX11_people 152 = .ok (.iload 6, 2) := by decide +kernel
theorem dX11_people_154 : decode cX11_people 154 = .ok (.iconst 1, 1) := by decide +kernel
theorem dX11_people_155 : decode cX11_people 155 = .ok (.iadd, 1) := by decide +kernel
theorem dX11_people_156 : decode cX11_people 156 = .ok (.laload, 1) := by decide +kernel
theorem dX11_people_157 : decode cX11_people 157 = .ok (.lconst 0, 1) := by decide +kernel
theorem dX11_people_158 : decode cX11_people 158 = .ok (.ldc2_w 146, 3) := by decide +kernel
theorem dX11_people_161 : decode cX11_people 161 = .ok (.invokestatic 136, 3) := by decide +kernel
theorem dX11_people_164 : decode cX11_people 164 = .ok (.ifCond .eq 7, 3) := by decide +kernel
theorem dX11_people_167 : decode cX11_people 167 = .ok (.iconst 1, 1) := by decide +kernel
theorem dX11_people_168 : decode cX11_people 168 = .ok (.goto 4, 3) := by decide +kernel
theorem dX11_people_171 : decode cX11_people 171 = .ok (.iconst 0, 1) := by decide +kernel
theorem dX11_people_172 : decode cX11_people 172 = .ok (.istore 5, 2) := by decide +kernel
theorem dX11_people_174 : decode cX11_people 174 = .ok (.iload 5, 2) := by decide +kernel
theorem dX11_people_176 : decode cX11_people 176 = .ok (.ifCond .eq 28, 3) := by decide +kernel
theorem dX11_people_179 : decode cX11_people 179 = .ok (.aload_n 0, 1) := by decide +kernel
theorem dX11_people_180 : decode cX11_people 180 = .ok (.aload_n 0, 1) := by decide +kernel
theorem dX11_people_181 : decode cX11_people 181 = .ok (.getfield 121, 3) := by decide +kernel
theorem dX11_people_184 : decode cX11_people 184 = .ok (.iload 6, 2) := by decide +kernel
theorem dX11_people_186 : decode cX11_people 186 = .ok (.laload, 1) := by decide +kernel
theorem dX11_people_187 : decode cX11_people 187 = .ok (.l2i, 1) := by decide +kernel
theorem dX11_people_188 : decode cX11_people 188 = .ok (.aload_n 0, 1) := by decide +kernel
theorem dX11_people_189 : decode cX11_people 189 = .ok (.getfield 121, 3) := by decide +kernel
theorem dX11_people_192 : decode cX11_people 192 = .ok (.iload 6, 2) := by decide +kernel
theorem dX11_people_194 : decode cX11_people 194 = .ok (.iconst 1, 1) := by decide +kernel
theorem dX11_people_195 : decode cX11_people 195 = .ok (.iadd, 1) := by decide +kernel
theorem dX11_people_196 : decode cX11_people 196 = .ok (.laload, 1) := by decide +kernel
theorem dX11_people_197 : decode cX11_people 197 = .ok (.l2i, 1) := by decide +kernel
theorem dX11_people_198 : decode cX11_people 198 = .ok (.invokevirtual 148, 3) := by decide +kernel
theorem dX11_people_201 : decode cX11_people 201 = .ok (.iinc 4 1, 3) := by decide +kernel
theorem dX11_people_204 : decode cX11_people 204 = .ok (.goto (-135), 3) := by decide +kernel
theorem dX11_people_207 : decode cX11_people 207 = .ok (.iload 4, 2) := by decide +kernel
theorem dX11_people_209 : decode cX11_people 209 = .ok (.ireturn, 1) := by decide +kernel
theorem dX11_placeOf_0 : decode cX11_placeOf 0 = .ok (.iload_n 2, 1) := by decide +kernel
theorem dX11_placeOf_1 : decode cX11_placeOf 1 = .ok (.i2l, 1) := by decide +kernel
theorem dX11_placeOf_2 : decode cX11_placeOf 2 = .ok (.lconst 0, 1) := by decide +kernel
theorem dX11_placeOf_3 : decode cX11_placeOf 3 = .ok (.lconst 1, 1) := by decide +kernel
theorem dX11_placeOf_4 : decode cX11_placeOf 4 = .ok (.invokestatic 136, 3) := by decide +kernel
theorem dX11_placeOf_7 : decode cX11_placeOf 7 = .ok (.ifCond .eq 23, 3) := by decide +kernel
theorem dX11_placeOf_10 : decode cX11_placeOf 10 = .ok (.aload_n 0, 1) := by decide +kernel
theorem dX11_placeOf_11 : decode cX11_placeOf 11 = .ok (.iload_n 1, 1) := by decide +kernel
theorem dX11_placeOf_12 : decode cX11_placeOf 12 = .ok (.i2l, 1) := by decide +kernel
theorem dX11_placeOf_13 : decode cX11_placeOf 13 = .ok (.invokevirtual 140, 3) := by decide +kernel
theorem dX11_placeOf_16 : decode cX11_placeOf 16 = .ok (.ifCond .eq 12, 3) := by decide +kernel
theorem dX11_placeOf_19 : decode cX11_placeOf 19 = .ok (.bipush 8, 2) := by decide +kernel
theorem dX11_placeOf_21 : decode cX11_placeOf 21 = .ok (.iload_n 2, 1) := by decide +kernel
theorem dX11_placeOf_22 : decode cX11_placeOf 22 = .ok (.imul, 1) := by decide +kernel
theorem dX11_placeOf_23 : decode cX11_placeOf 23 = .ok (.iload_n 1, 1) := by decide +kernel
theorem dX11_placeOf_24 : decode cX11_placeOf 24 = .ok (.iadd, 1) := by decide +kernel
theorem dX11_placeOf_25 : decode cX11_placeOf 25 = .ok (.goto 4, 3) := by decide +kernel
theorem dX11_placeOf_28 : decode cX11_placeOf 28 = .ok (.iconst (-1), 1) := by decide +kernel
theorem dX11_placeOf_29 : decode cX11_placeOf 29 = .ok (.ireturn, 1) := by decide +kernel
theorem dX11_placeOf_30 : decode cX11_placeOf 30 = .ok (.iload_n 2, 1) := by decide +kernel
theorem dX11_placeOf_31 : decode cX11_placeOf 31 = .ok (.i2l, 1) := by decide +kernel
theorem dX11_placeOf_32 : decode cX11_placeOf 32 = .ok (.ldc2_w 158, 3) := by decide +kernel
theorem dX11_placeOf_35 : decode cX11_placeOf 35 = .ok (.ldc2_w 160, 3) := by decide +kernel
theorem dX11_placeOf_38 : decode cX11_placeOf 38 = .ok (.invokestatic 136, 3) := by decide +kernel
theorem dX11_placeOf_41 : decode cX11_placeOf 41 = .ok (.ifCond .eq 16, 3) := by decide +kernel
theorem dX11_placeOf_44 : decode cX11_placeOf 44 = .ok (.iload_n 1, 1) := by decide +kernel
theorem dX11_placeOf_45 : decode cX11_placeOf 45 = .ok (.ifCond .ne 12, 3) := by decide +kernel
theorem dX11_placeOf_48 : decode cX11_placeOf 48 = .ok (.bipush 16, 2) := by decide +kernel
theorem dX11_placeOf_50 : decode cX11_placeOf 50 = .ok (.iload_n 2, 1) := by decide +kernel
theorem dX11_placeOf_51 : decode cX11_placeOf 51 = .ok (.iadd, 1) := by decide +kernel
theorem dX11_placeOf_52 : decode cX11_placeOf 52 = .ok (.iconst 2, 1) := by decide +kernel
theorem dX11_placeOf_53 : decode cX11_placeOf 53 = .ok (.isub, 1) := by decide +kernel
theorem dX11_placeOf_54 : decode cX11_placeOf 54 = .ok (.goto 4, 3) := by decide +kernel
theorem dX11_placeOf_57 : decode cX11_placeOf 57 = .ok (.iconst (-1), 1) := by decide +kernel
theorem dX11_placeOf_58 : decode cX11_placeOf 58 = .ok (.ireturn, 1) := by decide +kernel
theorem dX11_mostOf_0 : decode cX11_mostOf 0 = .ok (.iload_n 0, 1) := by decide +kernel
theorem dX11_mostOf_1 : decode cX11_mostOf 1 = .ok (.tableswitch 47 0 5 #[39, 47, 42, 47, 44, 39], 39) := by decide +kernel
theorem dX11_mostOf_40 : decode cX11_mostOf 40 = .ok (.bipush 99, 2) := by decide +kernel
theorem dX11_mostOf_42 : decode cX11_mostOf 42 = .ok (.ireturn, 1) := by decide +kernel
theorem dX11_mostOf_43 : decode cX11_mostOf 43 = .ok (.iconst 3, 1) := by decide +kernel
theorem dX11_mostOf_44 : decode cX11_mostOf 44 = .ok (.ireturn, 1) := by decide +kernel
theorem dX11_mostOf_45 : decode cX11_mostOf 45 = .ok (.bipush 20, 2) := by decide +kernel
theorem dX11_mostOf_47 : decode cX11_mostOf 47 = .ok (.ireturn, 1) := by decide +kernel
theorem dX11_mostOf_48 : decode cX11_mostOf 48 = .ok (.bipush 9, 2) := by decide +kernel
theorem dX11_mostOf_50 : decode cX11_mostOf 50 = .ok (.ireturn, 1) := by decide +kernel
theorem dX11_mend_0 : decode cX11_mend 0 = .ok (.aload_n 0, 1) := by decide +kernel
theorem dX11_mend_1 : decode cX11_mend 1 = .ok (.iload_n 1, 1) := by decide +kernel
theorem dX11_mend_2 : decode cX11_mend 2 = .ok (.iload_n 2, 1) := by decide +kernel
theorem dX11_mend_3 : decode cX11_mend 3 = .ok (.invokevirtual 162, 3) := by decide +kernel
theorem dX11_mend_6 : decode cX11_mend 6 = .ok (.istore 4, 2) := by decide +kernel
theorem dX11_mend_8 : decode cX11_mend 8 = .ok (.iload 4, 2) := by decide +kernel
theorem dX11_mend_10 : decode cX11_mend 10 = .ok (.ifCond .lt 27, 3) := by decide +kernel
theorem dX11_mend_13 : decode cX11_mend 13 = .ok (.iload_n 3, 1) := by decide +kernel
theorem dX11_mend_14 : decode cX11_mend 14 = .ok (.i2l, 1) := by decide +kernel
theorem dX11_mend_15 : decode cX11_mend 15 = .ok (.lconst 0, 1) := by decide +kernel
theorem dX11_mend_16 : decode cX11_mend 16 = .ok (.iload_n 2, 1) := by decide +kernel
theorem dX11_mend_17 : decode cX11_mend 17 = .ok (.invokestatic 166, 3) := by decide +kernel
theorem dX11_mend_20 : decode cX11_mend 20 = .ok (.i2l, 1) := by decide +kernel
theorem dX11_mend_21 : decode cX11_mend 21 = .ok (.invokestatic 136, 3) := by decide +kernel
theorem dX11_mend_24 : decode cX11_mend 24 = .ok (.ifCond .eq 13, 3) := by decide +kernel
theorem dX11_mend_27 : decode cX11_mend 27 = .ok (.aload_n 0, 1) := by decide +kernel
theorem dX11_mend_28 : decode cX11_mend 28 = .ok (.iload 4, 2) := by decide +kernel
theorem dX11_mend_30 : decode cX11_mend 30 = .ok (.iload_n 3, 1) := by decide +kernel
theorem dX11_mend_31 : decode cX11_mend 31 = .ok (.invokevirtual 170, 3) := by decide +kernel
theorem dX11_mend_34 : decode cX11_mend 34 = .ok (.goto 4, 3) := by decide +kernel
theorem dX11_mend_37 : decode cX11_mend 37 = .ok (.iconst (-1), 1) := by decide +kernel
theorem dX11_mend_38 : decode cX11_mend 38 = .ok (.ireturn, 1) := by decide +kernel
theorem dX11_of_0 : decode cX11_of 0 = .ok (.aload_n 0, 1) := by decide +kernel
theorem dX11_of_1 : decode cX11_of 1 = .ok (.iload_n 1, 1) := by decide +kernel
theorem dX11_of_2 : decode cX11_of 2 = .ok (.iload_n 2, 1) := by decide +kernel
theorem dX11_of_3 : decode cX11_of 3 = .ok (.invokevirtual 162, 3) := by decide +kernel
theorem dX11_of_6 : decode cX11_of 6 = .ok (.istore_n 3, 1) := by decide +kernel
theorem dX11_of_7 : decode cX11_of 7 = .ok (.iload_n 3, 1) := by decide +kernel
theorem dX11_of_8 : decode cX11_of 8 = .ok (.ifCond .lt 12, 3) := by decide +kernel
theorem dX11_of_11 : decode cX11_of 11 = .ok (.aload_n 0, 1) := by decide +kernel
theorem dX11_of_12 : decode cX11_of 12 = .ok (.getfield 9, 3) := by decide +kernel
theorem dX11_of_15 : decode cX11_of 15 = .ok (.iload_n 3, 1) := by decide +kernel
theorem dX11_of_16 : decode cX11_of 16 = .ok (.iaload, 1) := by decide +kernel
theorem dX11_of_17 : decode cX11_of 17 = .ok (.goto 4, 3) := by decide +kernel
theorem dX11_of_20 : decode cX11_of 20 = .ok (.iconst (-1), 1) := by decide +kernel
theorem dX11_of_21 : decode cX11_of 21 = .ok (.ireturn, 1) := by decide +kernel
theorem dX11_feel_0 : decode cX11_feel 0 = .ok (.aload_n 0, 1) := by decide +kernel
theorem dX11_feel_1 : decode cX11_feel 1 = .ok (.iload_n 1, 1) := by decide +kernel
theorem dX11_feel_2 : decode cX11_feel 2 = .ok (.invokevirtual 173, 3) := by decide +kernel
theorem dX11_feel_5 : decode cX11_feel 5 = .ok (.ifCond .eq 39, 3) := by decide +kernel
theorem dX11_feel_8 : decode cX11_feel 8 = .ok (.iload_n 2, 1) := by decide +kernel
theorem dX11_feel_9 : decode cX11_feel 9 = .ok (.i2l, 1) := by decide +kernel
theorem dX11_feel_10 : decode cX11_feel 10 = .ok (.ldc2_w 176, 3) := by decide +kernel
theorem dX11_feel_13 : decode cX11_feel 13 = .ok (.ldc2_w 146, 3) := by decide +kernel
theorem dX11_feel_16 : decode cX11_feel 16 = .ok (.invokestatic 136, 3) := by decide +kernel
theorem dX11_feel_19 : decode cX11_feel 19 = .ok (.ifCond .eq 25, 3) := by decide +kernel
theorem dX11_feel_22 : decode cX11_feel 22 = .ok (.aload_n 0, 1) := by decide +kernel
theorem dX11_feel_23 : decode cX11_feel 23 = .ok (.iload_n 1, 1) := by decide +kernel
theorem dX11_feel_24 : decode cX11_feel 24 = .ok (.bipush 10, 2) := by decide +kernel
theorem dX11_feel_26 : decode cX11_feel 26 = .ok (.idiv, 1) := by decide +kernel
theorem dX11_feel_27 : decode cX11_feel 27 = .ok (.iload_n 1, 1) := by decide +kernel
theorem dX11_feel_28 : decode cX11_feel 28 = .ok (.bipush 10, 2) := by decide +kernel
theorem dX11_feel_30 : decode cX11_feel 30 = .ok (.irem, 1) := by decide +kernel
theorem dX11_feel_31 : decode cX11_feel 31 = .ok (.invokestatic 178, 3) := by decide +kernel
theorem dX11_feel_34 : decode cX11_feel 34 = .ok (.iload_n 2, 1) := by decide +kernel
theorem dX11_feel_35 : decode cX11_feel 35 = .ok (.invokevirtual 170, 3) := by decide +kernel
theorem dX11_feel_38 : decode cX11_feel 38 = .ok (.bipush 100, 2) := by decide +kernel
theorem dX11_feel_40 : decode cX11_feel 40 = .ok (.iadd, 1) := by decide +kernel
theorem dX11_feel_41 : decode cX11_feel 41 = .ok (.goto 4, 3) := by decide +kernel
theorem dX11_feel_44 : decode cX11_feel 44 = .ok (.iconst (-1), 1) := by decide +kernel
theorem dX11_feel_45 : decode cX11_feel 45 = .ok (.ireturn, 1) := by decide +kernel
theorem dX11_feeling_0 : decode cX11_feeling 0 = .ok (.aload_n 0, 1) := by decide +kernel
theorem dX11_feeling_1 : decode cX11_feeling 1 = .ok (.iload_n 1, 1) := by decide +kernel
theorem dX11_feeling_2 : decode cX11_feeling 2 = .ok (.invokevirtual 173, 3) := by decide +kernel
theorem dX11_feeling_5 : decode cX11_feeling 5 = .ok (.ifCond .eq 25, 3) := by decide +kernel
theorem dX11_feeling_8 : decode cX11_feeling 8 = .ok (.aload_n 0, 1) := by decide +kernel
theorem dX11_feeling_9 : decode cX11_feeling 9 = .ok (.getfield 9, 3) := by decide +kernel
theorem dX11_feeling_12 : decode cX11_feeling 12 = .ok (.iload_n 1, 1) := by decide +kernel
theorem dX11_feeling_13 : decode cX11_feeling 13 = .ok (.bipush 10, 2) := by decide +kernel
theorem dX11_feeling_15 : decode cX11_feeling 15 = .ok (.idiv, 1) := by decide +kernel
theorem dX11_feeling_16 : decode cX11_feeling 16 = .ok (.iload_n 1, 1) := by decide +kernel
theorem dX11_feeling_17 : decode cX11_feeling 17 = .ok (.bipush 10, 2) := by decide +kernel
theorem dX11_feeling_19 : decode cX11_feeling 19 = .ok (.irem, 1) := by decide +kernel
theorem dX11_feeling_20 : decode cX11_feeling 20 = .ok (.invokestatic 178, 3) := by decide +kernel
theorem dX11_feeling_23 : decode cX11_feeling 23 = .ok (.iaload, 1) := by decide +kernel
theorem dX11_feeling_24 : decode cX11_feeling 24 = .ok (.bipush 100, 2) := by decide +kernel
theorem dX11_feeling_26 : decode cX11_feeling 26 = .ok (.iadd, 1) := by decide +kernel
theorem dX11_feeling_27 : decode cX11_feeling 27 = .ok (.goto 4, 3) := by decide +kernel
theorem dX11_feeling_30 : decode cX11_feeling 30 = .ok (.iconst (-1), 1) := by decide +kernel
theorem dX11_feeling_31 : decode cX11_feeling 31 = .ok (.ireturn, 1) := by decide +kernel
theorem dX11_feed_0 : decode cX11_feed 0 = .ok (.iload_n 1, 1) := by decide +kernel
theorem dX11_feed_1 : decode cX11_feed 1 = .ok (.i2l, 1) := by decide +kernel
theorem dX11_feed_2 : decode cX11_feed 2 = .ok (.lconst 0, 1) := by decide +kernel
theorem dX11_feed_3 : decode cX11_feed 3 = .ok (.ldc2_w 181, 3) := by decide +kernel
theorem dX11_feed_6 : decode cX11_feed 6 = .ok (.invokestatic 136, 3) := by decide +kernel
theorem dX11_feed_9 : decode cX11_feed 9 = .ok (.ifCond .ne 5, 3) := by decide +kernel
theorem dX11_feed_12 : decode cX11_feed 12 = .ok (.iconst (-1), 1) := by decide +kernel
theorem dX11_feed_13 : decode cX11_feed 13 = .ok (.ireturn, 1) := by decide +kernel
theorem dX11_feed_14 : decode cX11_feed 14 = .ok (.aload_n 0, 1) := by decide +kernel
theorem dX11_feed_15 : decode cX11_feed 15 = .ok (.getfield 183, 3) := by decide +kernel
theorem dX11_feed_18 : decode cX11_feed 18 = .ok (.sipush 160, 3) := by decide +kernel
theorem dX11_feed_21 : decode cX11_feed 21 = .ok (.if_icmp .ne 6, 3) := by decide +kernel
theorem dX11_feed_24 : decode cX11_feed 24 = .ok (.bipush (-3), 2) := by decide +kernel
theorem dX11_feed_26 : decode cX11_feed 26 = .ok (.ireturn, 1) := by decide +kernel
theorem dX11_feed_27 : decode cX11_feed 27 = .ok (.aload_n 0, 1) := by decide +kernel
theorem dX11_feed_28 : decode cX11_feed 28 = .ok (.getfield 22, 3) := by decide +kernel
theorem dX11_feed_31 : decode cX11_feed 31 = .ok (.aload_n 0, 1) := by decide +kernel
theorem dX11_feed_32 : decode cX11_feed 32 = .ok (.getfield 183, 3) := by decide +kernel
theorem dX11_feed_35 : decode cX11_feed 35 = .ok (.iload_n 1, 1) := by decide +kernel
theorem dX11_feed_36 : decode cX11_feed 36 = .ok (.iastore, 1) := by decide +kernel
theorem dX11_feed_37 : decode cX11_feed 37 = .ok (.aload_n 0, 1) := by decide +kernel
theorem dX11_feed_38 : decode cX11_feed 38 = .ok (.dup, 1) := by decide +kernel
theorem dX11_feed_39 : decode cX11_feed 39 = .ok (.getfield 183, 3) := by decide +kernel
theorem dX11_feed_42 : decode cX11_feed 42 = .ok (.iconst 1, 1) := by decide +kernel
theorem dX11_feed_43 : decode cX11_feed 43 = .ok (.iadd, 1) := by decide +kernel
theorem dX11_feed_44 : decode cX11_feed 44 = .ok (.putfield 183, 3) := by decide +kernel
theorem dX11_feed_47 : decode cX11_feed 47 = .ok (.aload_n 0, 1) := by decide +kernel
theorem dX11_feed_48 : decode cX11_feed 48 = .ok (.getfield 183, 3) := by decide +kernel
theorem dX11_feed_51 : decode cX11_feed 51 = .ok (.ireturn, 1) := by decide +kernel
theorem dX11_byteAt_0 : decode cX11_byteAt 0 = .ok (.aload_n 0, 1) := by decide +kernel
theorem dX11_byteAt_1 : decode cX11_byteAt 1 = .ok (.getfield 186, 3) := by decide +kernel
theorem dX11_byteAt_4 : decode cX11_byteAt 4 = .ok (.aload_n 0, 1) := by decide +kernel
theorem dX11_byteAt_5 : decode cX11_byteAt 5 = .ok (.getfield 183, 3) := by decide +kernel
theorem dX11_byteAt_8 : decode cX11_byteAt 8 = .ok (.if_icmp .ge 15, 3) := by decide +kernel
theorem dX11_byteAt_11 : decode cX11_byteAt 11 = .ok (.aload_n 0, 1) := by decide +kernel
theorem dX11_byteAt_12 : decode cX11_byteAt 12 = .ok (.getfield 22, 3) := by decide +kernel
theorem dX11_byteAt_15 : decode cX11_byteAt 15 = .ok (.aload_n 0, 1) := by decide +kernel
theorem dX11_byteAt_16 : decode cX11_byteAt 16 = .ok (.getfield 186, 3) := by decide +kernel
theorem dX11_byteAt_19 : decode cX11_byteAt 19 = .ok (.iaload, 1) := by decide +kernel
theorem dX11_byteAt_20 : decode cX11_byteAt 20 = .ok (.goto 4, 3) := by decide +kernel
theorem dX11_byteAt_23 : decode cX11_byteAt 23 = .ok (.iconst 0, 1) := by decide +kernel
theorem dX11_byteAt_24 : decode cX11_byteAt 24 = .ok (.ireturn, 1) := by decide +kernel
theorem dX11_wrong_0 : decode cX11_wrong 0 = .ok (.aload_n 0, 1) := by decide +kernel
theorem dX11_wrong_1 : decode cX11_wrong 1 = .ok (.aload_n 0, 1) := by decide +kernel
theorem dX11_wrong_2 : decode cX11_wrong 2 = .ok (.getfield 189, 3) := by decide +kernel
theorem dX11_wrong_5 : decode cX11_wrong 5 = .ok (.ifCond .ge 10, 3) := by decide +kernel
theorem dX11_wrong_8 : decode cX11_wrong 8 = .ok (.aload_n 0, 1) := by decide +kernel
theorem dX11_wrong_9 : decode cX11_wrong 9 = .ok (.getfield 186, 3) := by decide +kernel
theorem dX11_wrong_12 : decode cX11_wrong 12 = .ok (.goto 7, 3) := by decide +kernel
theorem dX11_wrong_15 : decode cX11_wrong 15 = .ok (.aload_n 0, 1) := by decide +kernel
theorem dX11_wrong_16 : decode cX11_wrong 16 = .ok (.getfield 189, 3) := by decide +kernel
theorem dX11_wrong_19 : decode cX11_wrong 19 = .ok (.putfield 189, 3) := by decide +kernel
theorem dX11_wrong_22 : decode cX11_wrong 22 = .ok (.return_, 1) := by decide +kernel
theorem dX11_takes_0 : decode cX11_takes 0 = .ok (.aload_n 0, 1) := by decide +kernel
theorem dX11_takes_1 : decode cX11_takes 1 = .ok (.getfield 189, 3) := by decide +kernel
theorem dX11_takes_4 : decode cX11_takes 4 = .ok (.ifCond .ge 11, 3) := by decide +kernel
theorem dX11_takes_7 : decode cX11_takes 7 = .ok (.aload_n 0, 1) := by decide +kernel
theorem dX11_takes_8 : decode cX11_takes 8 = .ok (.invokevirtual 192, 3) := by decide +kernel
theorem dX11_takes_11 : decode cX11_takes 11 = .ok (.iload_n 1, 1) := by decide +kernel
theorem dX11_takes_12 : decode cX11_takes 12 = .ok (.if_icmp .eq 5, 3) := by decide +kernel
theorem dX11_takes_15 : decode cX11_takes 15 = .ok (.iconst 0, 1) := by decide +kernel
theorem dX11_takes_16 : decode cX11_takes 16 = .ok (.ireturn, 1) := by decide +kernel
theorem dX11_takes_17 : decode cX11_takes 17 = .ok (.aload_n 0, 1) := by decide +kernel
theorem dX11_takes_18 : decode cX11_takes 18 = .ok (.dup, 1) := by decide +kernel
theorem dX11_takes_19 : decode cX11_takes 19 = .ok (.getfield 186, 3) := by decide +kernel
theorem dX11_takes_22 : decode cX11_takes 22 = .ok (.iconst 1, 1) := by decide +kernel
theorem dX11_takes_23 : decode cX11_takes 23 = .ok (.iadd, 1) := by decide +kernel
theorem dX11_takes_24 : decode cX11_takes 24 = .ok (.putfield 186, 3) := by decide +kernel
theorem dX11_takes_27 : decode cX11_takes 27 = .ok (.iconst 1, 1) := by decide +kernel
theorem dX11_takes_28 : decode cX11_takes 28 = .ok (.ireturn, 1) := by decide +kernel
theorem dX11_writes_0 : decode cX11_writes 0 = .ok (.aload_n 0, 1) := by decide +kernel
theorem dX11_writes_1 : decode cX11_writes 1 = .ok (.getfield 189, 3) := by decide +kernel
theorem dX11_writes_4 : decode cX11_writes 4 = .ok (.ifCond .ge 23, 3) := by decide +kernel
theorem dX11_writes_7 : decode cX11_writes 7 = .ok (.aload_n 0, 1) := by decide +kernel
theorem dX11_writes_8 : decode cX11_writes 8 = .ok (.getfield 25, 3) := by decide +kernel
theorem dX11_writes_11 : decode cX11_writes 11 = .ok (.aload_n 0, 1) := by decide +kernel
theorem dX11_writes_12 : decode cX11_writes 12 = .ok (.getfield 196, 3) := by decide +kernel
theorem dX11_writes_15 : decode cX11_writes 15 = .ok (.iload_n 1, 1) := by decide +kernel
theorem dX11_writes_16 : decode cX11_writes 16 = .ok (.iastore, 1) := by decide +kernel
theorem dX11_writes_17 : decode cX11_writes 17 = .ok (.aload_n 0, 1) := by decide +kernel
theorem dX11_writes_18 : decode cX11_writes 18 = .ok (.dup, 1) := by decide +kernel
theorem dX11_writes_19 : decode cX11_writes 19 = .ok (.getfield 196, 3) := by decide +kernel
theorem dX11_writes_22 : decode cX11_writes 22 = .ok (.iconst 1, 1) := by decide +kernel
theorem dX11_writes_23 : decode cX11_writes 23 = .ok (.iadd, 1) := by decide +kernel
theorem dX11_writes_24 : decode cX11_writes 24 = .ok (.putfield 196, 3) := by decide +kernel
theorem dX11_writes_27 : decode cX11_writes 27 = .ok (.return_, 1) := by decide +kernel
theorem dX11_readsEither_0 : decode cX11_readsEither 0 = .ok (.aload_n 0, 1) := by decide +kernel
theorem dX11_readsEither_1 : decode cX11_readsEither 1 = .ok (.invokevirtual 199, 3) := by decide +kernel
theorem dX11_readsEither_4 : decode cX11_readsEither 4 = .ok (.aload_n 0, 1) := by decide +kernel
theorem dX11_readsEither_5 : decode cX11_readsEither 5 = .ok (.bipush 124, 2) := by decide +kernel
theorem dX11_readsEither_7 : decode cX11_readsEither 7 = .ok (.invokevirtual 202, 3) := by decide +kernel
theorem dX11_readsEither_10 : decode cX11_readsEither 10 = .ok (.ifCond .eq 17, 3) := by decide +kernel
theorem dX11_readsEither_13 : decode cX11_readsEither 13 = .ok (.aload_n 0, 1) := by decide +kernel
theorem dX11_readsEither_14 : decode cX11_readsEither 14 = .ok (.invokevirtual 199, 3) := by decide +kernel
theorem dX11_readsEither_17 : decode cX11_readsEither 17 = .ok (.aload_n 0, 1) := by decide +kernel
theorem dX11_readsEither_18 : decode cX11_readsEither 18 = .ok (.sipush (-224), 3) := by decide +kernel
theorem dX11_readsEither_21 : decode cX11_readsEither 21 = .ok (.invokevirtual 205, 3) := by decide +kernel
theorem dX11_readsEither_24 : decode cX11_readsEither 24 = .ok (.goto (-20), 3) := by decide +kernel
theorem dX11_readsEither_27 : decode cX11_readsEither 27 = .ok (.return_, 1) := by decide +kernel
theorem dX11_readsBoth_0 : decode cX11_readsBoth 0 = .ok (.aload_n 0, 1) := by decide +kernel
theorem dX11_readsBoth_1 : decode cX11_readsBoth 1 = .ok (.invokevirtual 209, 3) := by decide +kernel
theorem dX11_readsBoth_4 : decode cX11_readsBoth 4 = .ok (.aload_n 0, 1) := by decide +kernel
theorem dX11_readsBoth_5 : decode cX11_readsBoth 5 = .ok (.bipush 38, 2) := by decide +kernel
theorem dX11_readsBoth_7 : decode cX11_readsBoth 7 = .ok (.invokevirtual 202, 3) := by decide +kernel
theorem dX11_readsBoth_10 : decode cX11_readsBoth 10 = .ok (.ifCond .eq 17, 3) := by decide +kernel
theorem dX11_readsBoth_13 : decode cX11_readsBoth 13 = .ok (.aload_n 0, 1) := by decide +kernel
theorem dX11_readsBoth_14 : decode cX11_readsBoth 14 = .ok (.invokevirtual 209, 3) := by decide +kernel
theorem dX11_readsBoth_17 : decode cX11_readsBoth 17 = .ok (.aload_n 0, 1) := by decide +kernel
theorem dX11_readsBoth_18 : decode cX11_readsBoth 18 = .ok (.sipush (-138), 3) := by decide +kernel
theorem dX11_readsBoth_21 : decode cX11_readsBoth 21 = .ok (.invokevirtual 205, 3) := by decide +kernel
theorem dX11_readsBoth_24 : decode cX11_readsBoth 24 = .ok (.goto (-20), 3) := by decide +kernel
theorem dX11_readsBoth_27 : decode cX11_readsBoth 27 = .ok (.return_, 1) := by decide +kernel
theorem dX11_readsCompared_0 : decode cX11_readsCompared 0 = .ok (.aload_n 0, 1) := by decide +kernel
theorem dX11_readsCompared_1 : decode cX11_readsCompared 1 = .ok (.invokevirtual 212, 3) := by decide +kernel
theorem dX11_readsCompared_4 : decode cX11_readsCompared 4 = .ok (.aload_n 0, 1) := by decide +kernel
theorem dX11_readsCompared_5 : decode cX11_readsCompared 5 = .ok (.invokevirtual 192, 3) := by decide +kernel
theorem dX11_readsCompared_8 : decode cX11_readsCompared 8 = .ok (.istore_n 1, 1) := by decide +kernel
theorem dX11_readsCompared_9 : decode cX11_readsCompared 9 = .ok (.aload_n 0, 1) := by decide +kernel
theorem dX11_readsCompared_10 : decode cX11_readsCompared 10 = .ok (.getfield 189, 3) := by decide +kernel
theorem dX11_readsCompared_13 : decode cX11_readsCompared 13 = .ok (.ifCond .ge 43, 3) := by decide +kernel
theorem dX11_readsCompared_16 : decode cX11_readsCompared 16 = .ok (.iload_n 1, 1) := by decide +kernel
theorem dX11_readsCompared_17 : decode cX11_readsCompared 17 = .ok (.bipush 60, 2) := by decide +kernel
theorem dX11_readsCompared_19 : decode cX11_readsCompared 19 = .ok (.if_icmp .eq 15, 3) := by decide +kernel
theorem dX11_readsCompared_22 : decode cX11_readsCompared 22 = .ok (.iload_n 1, 1) := by decide +kernel
theorem dX11_readsCompared_23 : decode cX11_readsCompared 23 = .ok (.bipush 61, 2) := by decide +kernel
theorem dX11_readsCompared_25 : decode cX11_readsCompared 25 = .ok (.if_icmp .eq 9, 3) := by decide +kernel
theorem dX11_readsCompared_28 : decode cX11_readsCompared 28 = .ok (.iload_n 1, 1) := by decide +kernel
theorem dX11_readsCompared_29 : decode cX11_readsCompared 29 = .ok (.bipush 62, 2) := by decide +kernel
theorem dX11_readsCompared_31 : decode cX11_readsCompared 31 = .ok (.if_icmp .ne 25, 3) := by decide +kernel
theorem dX11_readsCompared_34 : decode cX11_readsCompared 34 = .ok (.aload_n 0, 1) := by decide +kernel
theorem dX11_readsCompared_35 : decode cX11_readsCompared 35 = .ok (.dup, 1) := by decide +kernel
theorem dX11_readsCompared_36 : decode cX11_readsCompared 36 = .ok (.getfield 186, 3) := by decide +kernel
theorem dX11_readsCompared_39 : decode cX11_readsCompared 39 = .ok (.iconst 1, 1) := by decide +kernel
theorem dX11_readsCompared_40 : decode cX11_readsCompared 40 = .ok (.iadd, 1) := by decide +kernel
theorem dX11_readsCompared_41 : decode cX11_readsCompared 41 = .ok (.putfield 186, 3) := by decide +kernel
theorem dX11_readsCompared_44 : decode cX11_readsCompared 44 = .ok (.aload_n 0, 1) := by decide +kernel
theorem dX11_readsCompared_45 : decode cX11_readsCompared 45 = .ok (.invokevirtual 212, 3) := by decide +kernel
theorem dX11_readsCompared_48 : decode cX11_readsCompared 48 = .ok (.aload_n 0, 1) := by decide +kernel
theorem dX11_readsCompared_49 : decode cX11_readsCompared 49 = .ok (.bipush (-100), 2) := by decide +kernel
theorem dX11_readsCompared_51 : decode cX11_readsCompared 51 = .ok (.iload_n 1, 1) := by decide +kernel
theorem dX11_readsCompared_52 : decode cX11_readsCompared 52 = .ok (.isub, 1) := by decide +kernel
theorem dX11_readsCompared_53 : decode cX11_readsCompared 53 = .ok (.invokevirtual 205, 3) := by decide +kernel
theorem dX11_readsCompared_56 : decode cX11_readsCompared 56 = .ok (.return_, 1) := by decide +kernel
theorem dX11_readsSums_0 : decode cX11_readsSums 0 = .ok (.aload_n 0, 1) := by decide +kernel
theorem dX11_readsSums_1 : decode cX11_readsSums 1 = .ok (.invokevirtual 215, 3) := by decide +kernel
theorem dX11_readsSums_4 : decode cX11_readsSums 4 = .ok (.aload_n 0, 1) := by decide +kernel
theorem dX11_readsSums_5 : decode cX11_readsSums 5 = .ok (.getfield 189, 3) := by decide +kernel
theorem dX11_readsSums_8 : decode cX11_readsSums 8 = .ok (.ifCond .ge 51, 3) := by decide +kernel
theorem dX11_readsSums_11 : decode cX11_readsSums 11 = .ok (.aload_n 0, 1) := by decide +kernel
theorem dX11_readsSums_12 : decode cX11_readsSums 12 = .ok (.invokevirtual 192, 3) := by decide +kernel
theorem dX11_readsSums_15 : decode cX11_readsSums 15 = .ok (.bipush 43, 2) := by decide +kernel
theorem dX11_readsSums_17 : decode cX11_readsSums 17 = .ok (.if_icmp .eq 12, 3) := by decide +kernel
theorem dX11_readsSums_20 : decode cX11_readsSums 20 = .ok (.aload_n 0, 1) := by decide +kernel
theorem dX11_readsSums_21 : decode cX11_readsSums 21 = .ok (.invokevirtual 192, 3) := by decide +kernel
theorem dX11_readsSums_24 : decode cX11_readsSums 24 = .ok (.bipush 45, 2) := by decide +kernel
theorem dX11_readsSums_26 : decode cX11_readsSums 26 = .ok (.if_icmp .ne 33, 3) := by decide +kernel
theorem dX11_readsSums_29 : decode cX11_readsSums 29 = .ok (.aload_n 0, 1) := by decide +kernel
theorem dX11_readsSums_30 : decode cX11_readsSums 30 = .ok (.invokevirtual 192, 3) := by decide +kernel
theorem dX11_readsSums_33 : decode cX11_readsSums 33 = .ok (.istore_n 1, 1) := by decide +kernel
theorem dX11_readsSums_34 : decode cX11_readsSums 34 = .ok (.aload_n 0, 1) := by decide +kernel
theorem dX11_readsSums_35 : decode cX11_readsSums 35 = .ok (.dup, 1) := by decide +kernel
theorem dX11_readsSums_36 : decode cX11_readsSums 36 = .ok (.getfield 186, 3) := by decide +kernel
theorem dX11_readsSums_39 : decode cX11_readsSums 39 = .ok (.iconst 1, 1) := by decide +kernel
theorem dX11_readsSums_40 : decode cX11_readsSums 40 = .ok (.iadd, 1) := by decide +kernel
theorem dX11_readsSums_41 : decode cX11_readsSums 41 = .ok (.putfield 186, 3) := by decide +kernel
theorem dX11_readsSums_44 : decode cX11_readsSums 44 = .ok (.aload_n 0, 1) := by decide +kernel
theorem dX11_readsSums_45 : decode cX11_readsSums 45 = .ok (.invokevirtual 215, 3) := by decide +kernel
theorem dX11_readsSums_48 : decode cX11_readsSums 48 = .ok (.aload_n 0, 1) := by decide +kernel
theorem dX11_readsSums_49 : decode cX11_readsSums 49 = .ok (.bipush (-100), 2) := by decide +kernel
theorem dX11_readsSums_51 : decode cX11_readsSums 51 = .ok (.iload_n 1, 1) := by decide +kernel
theorem dX11_readsSums_52 : decode cX11_readsSums 52 = .ok (.isub, 1) := by decide +kernel
theorem dX11_readsSums_53 : decode cX11_readsSums 53 = .ok (.invokevirtual 205, 3) := by decide +kernel
theorem dX11_readsSums_56 : decode cX11_readsSums 56 = .ok (.goto (-52), 3) := by decide +kernel
theorem dX11_readsSums_59 : decode cX11_readsSums 59 = .ok (.return_, 1) := by decide +kernel
theorem dX11_readsProduct_0 : decode cX11_readsProduct 0 = .ok (.aload_n 0, 1) := by decide +kernel
theorem dX11_readsProduct_1 : decode cX11_readsProduct 1 = .ok (.invokevirtual 218, 3) := by decide +kernel
theorem dX11_readsProduct_4 : decode cX11_readsProduct 4 = .ok (.aload_n 0, 1) := by decide +kernel
theorem dX11_readsProduct_5 : decode cX11_readsProduct 5 = .ok (.getfield 189, 3) := by decide +kernel
theorem dX11_readsProduct_8 : decode cX11_readsProduct 8 = .ok (.ifCond .ge 60, 3) := by decide +kernel
theorem dX11_readsProduct_11 : decode cX11_readsProduct 11 = .ok (.aload_n 0, 1) := by decide +kernel
theorem dX11_readsProduct_12 : decode cX11_readsProduct 12 = .ok (.invokevirtual 192, 3) := by decide +kernel
theorem dX11_readsProduct_15 : decode cX11_readsProduct 15 = .ok (.bipush 42, 2) := by decide +kernel
theorem dX11_readsProduct_17 : decode cX11_readsProduct 17 = .ok (.if_icmp .eq 21, 3) := by decide +kernel
theorem dX11_readsProduct_20 : decode cX11_readsProduct 20 = .ok (.aload_n 0, 1) := by decide +kernel
theorem dX11_readsProduct_21 : decode cX11_readsProduct 21 = .ok (.invokevirtual 192, 3) := by decide +kernel
theorem dX11_readsProduct_24 : decode cX11_readsProduct 24 = .ok (.bipush 47, 2) := by decide +kernel
theorem dX11_readsProduct_26 : decode cX11_readsProduct 26 = .ok (.if_icmp .eq 12, 3) := by decide +kernel
theorem dX11_readsProduct_29 : decode cX11_readsProduct 29 = .ok (.aload_n 0, 1) := by decide +kernel
theorem dX11_readsProduct_30 : decode cX11_readsProduct 30 = .ok (.invokevirtual 192, 3) := by decide +kernel
theorem dX11_readsProduct_33 : decode cX11_readsProduct 33 = .ok (.bipush 37, 2) := by decide +kernel
theorem dX11_readsProduct_35 : decode cX11_readsProduct 35 = .ok (.if_icmp .ne 33, 3) := by decide +kernel
theorem dX11_readsProduct_38 : decode cX11_readsProduct 38 = .ok (.aload_n 0, 1) := by decide +kernel
theorem dX11_readsProduct_39 : decode cX11_readsProduct 39 = .ok (.invokevirtual 192, 3) := by decide +kernel
theorem dX11_readsProduct_42 : decode cX11_readsProduct 42 = .ok (.istore_n 1, 1) := by decide +kernel
theorem dX11_readsProduct_43 : decode cX11_readsProduct 43 = .ok (.aload_n 0, 1) := by decide +kernel
theorem dX11_readsProduct_44 : decode cX11_readsProduct 44 = .ok (.dup, 1) := by decide +kernel
theorem dX11_readsProduct_45 : decode cX11_readsProduct 45 = .ok (.getfield 186, 3) := by decide +kernel
theorem dX11_readsProduct_48 : decode cX11_readsProduct 48 = .ok (.iconst 1, 1) := by decide +kernel
theorem dX11_readsProduct_49 : decode cX11_readsProduct 49 = .ok (.iadd, 1) := by decide +kernel
theorem dX11_readsProduct_50 : decode cX11_readsProduct 50 = .ok (.putfield 186, 3) := by decide +kernel
theorem dX11_readsProduct_53 : decode cX11_readsProduct 53 = .ok (.aload_n 0, 1) := by decide +kernel
theorem dX11_readsProduct_54 : decode cX11_readsProduct 54 = .ok (.invokevirtual 218, 3) := by decide +kernel
theorem dX11_readsProduct_57 : decode cX11_readsProduct 57 = .ok (.aload_n 0, 1) := by decide +kernel
theorem dX11_readsProduct_58 : decode cX11_readsProduct 58 = .ok (.bipush (-100), 2) := by decide +kernel
theorem dX11_readsProduct_60 : decode cX11_readsProduct 60 = .ok (.iload_n 1, 1) := by decide +kernel
theorem dX11_readsProduct_61 : decode cX11_readsProduct 61 = .ok (.isub, 1) := by decide +kernel
theorem dX11_readsProduct_62 : decode cX11_readsProduct 62 = .ok (.invokevirtual 205, 3) := by decide +kernel
theorem dX11_readsProduct_65 : decode cX11_readsProduct 65 = .ok (.goto (-61), 3) := by decide +kernel
theorem dX11_readsProduct_68 : decode cX11_readsProduct 68 = .ok (.return_, 1) := by decide +kernel
theorem dX11_readsWord_0 : decode cX11_readsWord 0 = .ok (.aload_n 0, 1) := by decide +kernel
theorem dX11_readsWord_1 : decode cX11_readsWord 1 = .ok (.getfield 186, 3) := by decide +kernel
theorem dX11_readsWord_4 : decode cX11_readsWord 4 = .ok (.istore_n 1, 1) := by decide +kernel
theorem dX11_readsWord_5 : decode cX11_readsWord 5 = .ok (.lconst 0, 1) := by decide +kernel
theorem dX11_readsWord_6 : decode cX11_readsWord 6 = .ok (.lstore_n 2, 1) := by decide +kernel
theorem dX11_readsWord_7 : decode cX11_readsWord 7 = .ok (.aload_n 0, 1) := by decide +kernel
theorem dX11_readsWord_8 : decode cX11_readsWord 8 = .ok (.invokevirtual 192, 3) := by decide +kernel
theorem dX11_readsWord_11 : decode cX11_readsWord 11 = .ok (.bipush 97, 2) := by decide +kernel
theorem dX11_readsWord_13 : decode cX11_readsWord 13 = .ok (.if_icmp .lt 60, 3) := by decide +kernel
theorem dX11_readsWord_16 : decode cX11_readsWord 16 = .ok (.aload_n 0, 1) := by decide +kernel
theorem dX11_readsWord_17 : decode cX11_readsWord 17 = .ok (.invokevirtual 192, 3) := by decide +kernel
theorem dX11_readsWord_20 : decode cX11_readsWord 20 = .ok (.bipush 122, 2) := by decide +kernel
theorem dX11_readsWord_22 : decode cX11_readsWord 22 = .ok (.if_icmp .gt 51, 3) := by decide +kernel
theorem dX11_readsWord_25 : decode cX11_readsWord 25 = .ok (.aload_n 0, 1) := by decide +kernel
theorem dX11_readsWord_26 : decode cX11_readsWord 26 = .ok (.getfield 186, 3) := by decide +kernel
theorem dX11_readsWord_29 : decode cX11_readsWord 29 = .ok (.iload_n 1, 1) := by decide +kernel
theorem dX11_readsWord_30 : decode cX11_readsWord 30 = .ok (.isub, 1) := by decide +kernel
theorem dX11_readsWord_31 : decode cX11_readsWord 31 = .ok (.bipush 8, 2) := by decide +kernel
theorem dX11_readsWord_33 : decode cX11_readsWord 33 = .ok (.if_icmp .ge 23, 3) := by decide +kernel
theorem dX11_readsWord_36 : decode cX11_readsWord 36 = .ok (.ldc2_w 221, 3) := by decide +kernel
theorem dX11_readsWord_39 : decode cX11_readsWord 39 = .ok (.lload_n 2, 1) := by decide +kernel
theorem dX11_readsWord_40 : decode cX11_readsWord 40 = .ok (.lmul, 1) := by decide +kernel
theorem dX11_readsWord_41 : decode cX11_readsWord 41 = .ok (.aload_n 0, 1) := by decide +kernel
theorem dX11_readsWord_42 : decode cX11_readsWord 42 = .ok (.invokevirtual 192, 3) := by decide +kernel
theorem dX11_readsWord_45 : decode cX11_readsWord 45 = .ok (.i2l, 1) := by decide +kernel
theorem dX11_readsWord_46 : decode cX11_readsWord 46 = .ok (.ladd, 1) := by decide +kernel
theorem dX11_readsWord_47 : decode cX11_readsWord 47 = .ok (.ldc2_w 223, 3) := by decide +kernel
theorem dX11_readsWord_50 : decode cX11_readsWord 50 = .ok (.lsub, 1) := by decide +kernel
theorem dX11_readsWord_51 : decode cX11_readsWord 51 = .ok (.lconst 1, 1) := by decide +kernel
theorem dX11_readsWord_52 : decode cX11_readsWord 52 = .ok (.ladd, 1) := by decide +kernel
theorem dX11_readsWord_53 : decode cX11_readsWord 53 = .ok (.goto 6, 3) := by decide +kernel
theorem dX11_readsWord_56 : decode cX11_readsWord 56 = .ok (.ldc2_w 225, 3) := by decide +kernel
theorem dX11_readsWord_59 : decode cX11_readsWord 59 = .ok (.lstore_n 2, 1) := by decide +kernel
theorem dX11_readsWord_60 : decode cX11_readsWord 60 = .ok (.aload_n 0, 1) := by decide +kernel
theorem dX11_readsWord_61 : decode cX11_readsWord 61 = .ok (.dup, 1) := by decide +kernel
theorem dX11_readsWord_62 : decode cX11_readsWord 62 = .ok (.getfield 186, 3) := by decide +kernel
theorem dX11_readsWord_65 : decode cX11_readsWord 65 = .ok (.iconst 1, 1) := by decide +kernel
theorem dX11_readsWord_66 : decode cX11_readsWord 66 = .ok (.iadd, 1) := by decide +kernel
theorem dX11_readsWord_67 : decode cX11_readsWord 67 = .ok (.putfield 186, 3) := by decide +kernel
theorem dX11_readsWord_70 : decode cX11_readsWord 70 = .ok (.goto (-63), 3) := by decide +kernel
theorem dX11_readsWord_73 : decode cX11_readsWord 73 = .ok (.iconst (-1), 1) := by decide +kernel
theorem dX11_readsWord_74 : decode cX11_readsWord 74 = .ok (.istore 4, 2) := by decide +kernel
theorem dX11_readsWord_76 : decode cX11_readsWord 76 = .ok (.iconst 0, 1) := by decide +kernel
theorem dX11_readsWord_77 : decode cX11_readsWord 77 = .ok (.istore 5, 2) := by decide +kernel
theorem dX11_readsWord_79 : decode cX11_readsWord 79 = .ok (.iload 5, 2) := by decide +kernel
theorem dX11_readsWord_81 : decode cX11_readsWord 81 = .ok (.bipush 6, 2) := by decide +kernel
theorem dX11_readsWord_83 : decode cX11_readsWord 83 = .ok (.if_icmp .ge 30, 3) := by decide +kernel
theorem dX11_readsWord_86 : decode cX11_readsWord 86 = .ok (.aload_n 0, 1) := by decide +kernel
theorem dX11_readsWord_87 : decode cX11_readsWord 87 = .ok (.getfield 61, 3) := by decide +kernel
theorem dX11_readsWord_90 : decode cX11_readsWord 90 = .ok (.iload 5, 2) := by decide +kernel
theorem dX11_readsWord_92 : decode cX11_readsWord 92 = .ok (.laload, 1) := by decide +kernel
theorem dX11_readsWord_93 : decode cX11_readsWord 93 = .ok (.lload_n 2, 1) := by decide +kernel
theorem dX11_readsWord_94 : decode cX11_readsWord 94 = .ok (.lcmp, 1) := by decide +kernel
theorem dX11_readsWord_95 : decode cX11_readsWord 95 = .ok (.ifCond .ne 8, 3) := by decide +kernel
theorem dX11_readsWord_98 : decode cX11_readsWord 98 = .ok (.iload 5, 2) := by decide +kernel
theorem dX11_readsWord_100 : decode cX11_readsWord 100 = .ok (.goto 5, 3) := by decide +kernel
theorem dX11_readsWord_103 : decode cX11_readsWord 103 = .ok (.iload 4, 2) := by decide +kernel
theorem dX11_readsWord_105 : decode cX11_readsWord 105 = .ok (.istore 4, 2) := by decide +kernel
theorem dX11_readsWord_107 : decode cX11_readsWord 107 = .ok (.iinc 5 1, 3) := by decide +kernel
theorem dX11_readsWord_110 : decode cX11_readsWord 110 = .ok (.goto (-31), 3) := by decide +kernel
theorem dX11_readsWord_113 : decode cX11_readsWord 113 = .ok (.iload 4, 2) := by decide +kernel
theorem dX11_readsWord_115 : decode cX11_readsWord 115 = .ok (.iconst (-1), 1) := by decide +kernel
theorem dX11_readsWord_116 : decode cX11_readsWord 116 = .ok (.if_icmp .ne 13, 3) := by decide +kernel
theorem dX11_readsWord_119 : decode cX11_readsWord 119 = .ok (.aload_n 0, 1) := by decide +kernel
theorem dX11_readsWord_120 : decode cX11_readsWord 120 = .ok (.iload_n 1, 1) := by decide +kernel
theorem dX11_readsWord_121 : decode cX11_readsWord 121 = .ok (.putfield 186, 3) := by decide +kernel
theorem dX11_readsWord_124 : decode cX11_readsWord 124 = .ok (.aload_n 0, 1) := by decide +kernel
theorem dX11_readsWord_125 : decode cX11_readsWord 125 = .ok (.invokevirtual 227, 3) := by decide +kernel
theorem dX11_readsWord_128 : decode cX11_readsWord 128 = .ok (.return_, 1) := by decide +kernel
theorem dX11_readsWord_129 : decode cX11_readsWord 129 = .ok (.aload_n 0, 1) := by decide +kernel
theorem dX11_readsWord_130 : decode cX11_readsWord 130 = .ok (.iconst (-1), 1) := by decide +kernel
theorem dX11_readsWord_131 : decode cX11_readsWord 131 = .ok (.iload 4, 2) := by decide +kernel
theorem dX11_readsWord_133 : decode cX11_readsWord 133 = .ok (.isub, 1) := by decide +kernel
theorem dX11_readsWord_134 : decode cX11_readsWord 134 = .ok (.invokevirtual 205, 3) := by decide +kernel
theorem dX11_readsWord_137 : decode cX11_readsWord 137 = .ok (.return_, 1) := by decide +kernel
theorem dX11_readsOne_0 : decode cX11_readsOne 0 = .ok (.aload_n 0, 1) := by decide +kernel
theorem dX11_readsOne_1 : decode cX11_readsOne 1 = .ok (.getfield 189, 3) := by decide +kernel
theorem dX11_readsOne_4 : decode cX11_readsOne 4 = .ok (.ifCond .lt 4, 3) := by decide +kernel
theorem dX11_readsOne_7 : decode cX11_readsOne 7 = .ok (.return_, 1) := by decide +kernel
theorem dX11_readsOne_8 : decode cX11_readsOne 8 = .ok (.aload_n 0, 1) := by decide +kernel
theorem dX11_readsOne_9 : decode cX11_readsOne 9 = .ok (.invokevirtual 192, 3) := by decide +kernel
theorem dX11_readsOne_12 : decode cX11_readsOne 12 = .ok (.istore_n 1, 1) := by decide +kernel
theorem dX11_readsOne_13 : decode cX11_readsOne 13 = .ok (.iload_n 1, 1) := by decide +kernel
theorem dX11_readsOne_14 : decode cX11_readsOne 14 = .ok (.bipush 33, 2) := by decide +kernel
theorem dX11_readsOne_16 : decode cX11_readsOne 16 = .ok (.if_icmp .eq 15, 3) := by decide +kernel
theorem dX11_readsOne_19 : decode cX11_readsOne 19 = .ok (.iload_n 1, 1) := by decide +kernel
theorem dX11_readsOne_20 : decode cX11_readsOne 20 = .ok (.bipush 45, 2) := by decide +kernel
theorem dX11_readsOne_22 : decode cX11_readsOne 22 = .ok (.if_icmp .eq 9, 3) := by decide +kernel
theorem dX11_readsOne_25 : decode cX11_readsOne 25 = .ok (.iload_n 1, 1) := by decide +kernel
theorem dX11_readsOne_26 : decode cX11_readsOne 26 = .ok (.bipush 40, 2) := by decide +kernel
theorem dX11_readsOne_28 : decode cX11_readsOne 28 = .ok (.if_icmp .ne 97, 3) := by decide +kernel
theorem dX11_readsOne_31 : decode cX11_readsOne 31 = .ok (.aload_n 0, 1) := by decide +kernel
theorem dX11_readsOne_32 : decode cX11_readsOne 32 = .ok (.getfield 230, 3) := by decide +kernel
theorem dX11_readsOne_35 : decode cX11_readsOne 35 = .ok (.bipush 6, 2) := by decide +kernel
theorem dX11_readsOne_37 : decode cX11_readsOne 37 = .ok (.if_icmp .ne 8, 3) := by decide +kernel
theorem dX11_readsOne_40 : decode cX11_readsOne 40 = .ok (.aload_n 0, 1) := by decide +kernel
theorem dX11_readsOne_41 : decode cX11_readsOne 41 = .ok (.invokevirtual 227, 3) := by decide +kernel
theorem dX11_readsOne_44 : decode cX11_readsOne 44 = .ok (.return_, 1) := by decide +kernel
theorem dX11_readsOne_45 : decode cX11_readsOne 45 = .ok (.aload_n 0, 1) := by decide +kernel
theorem dX11_readsOne_46 : decode cX11_readsOne 46 = .ok (.dup, 1) := by decide +kernel
theorem dX11_readsOne_47 : decode cX11_readsOne 47 = .ok (.getfield 230, 3) := by decide +kernel
theorem dX11_readsOne_50 : decode cX11_readsOne 50 = .ok (.iconst 1, 1) := by decide +kernel
theorem dX11_readsOne_51 : decode cX11_readsOne 51 = .ok (.iadd, 1) := by decide +kernel
theorem dX11_readsOne_52 : decode cX11_readsOne 52 = .ok (.putfield 230, 3) := by decide +kernel
theorem dX11_readsOne_55 : decode cX11_readsOne 55 = .ok (.aload_n 0, 1) := by decide +kernel
theorem dX11_readsOne_56 : decode cX11_readsOne 56 = .ok (.dup, 1) := by decide +kernel
theorem dX11_readsOne_57 : decode cX11_readsOne 57 = .ok (.getfield 186, 3) := by decide +kernel
theorem dX11_readsOne_60 : decode cX11_readsOne 60 = .ok (.iconst 1, 1) := by decide +kernel
theorem dX11_readsOne_61 : decode cX11_readsOne 61 = .ok (.iadd, 1) := by decide +kernel
theorem dX11_readsOne_62 : decode cX11_readsOne 62 = .ok (.putfield 186, 3) := by decide +kernel
theorem dX11_readsOne_65 : decode cX11_readsOne 65 = .ok (.iload_n 1, 1) := by decide +kernel
theorem dX11_readsOne_66 : decode cX11_readsOne 66 = .ok (.bipush 40, 2) := by decide +kernel
theorem dX11_readsOne_68 : decode cX11_readsOne 68 = .ok (.if_icmp .ne 23, 3) := by decide +kernel
theorem dX11_readsOne_71 : decode cX11_readsOne 71 = .ok (.aload_n 0, 1) := by decide +kernel
theorem dX11_readsOne_72 : decode cX11_readsOne 72 = .ok (.invokevirtual 233, 3) := by decide +kernel
theorem dX11_readsOne_75 : decode cX11_readsOne 75 = .ok (.aload_n 0, 1) := by decide +kernel
theorem dX11_readsOne_76 : decode cX11_readsOne 76 = .ok (.bipush 41, 2) := by decide +kernel
theorem dX11_readsOne_78 : decode cX11_readsOne 78 = .ok (.invokevirtual 202, 3) := by decide +kernel
theorem dX11_readsOne_81 : decode cX11_readsOne 81 = .ok (.ifCond .ne 33, 3) := by decide +kernel
theorem dX11_readsOne_84 : decode cX11_readsOne 84 = .ok (.aload_n 0, 1) := by decide +kernel
theorem dX11_readsOne_85 : decode cX11_readsOne 85 = .ok (.invokevirtual 227, 3) := by decide +kernel
theorem dX11_readsOne_88 : decode cX11_readsOne 88 = .ok (.goto 26, 3) := by decide +kernel
theorem dX11_readsOne_91 : decode cX11_readsOne 91 = .ok (.aload_n 0, 1) := by decide +kernel
theorem dX11_readsOne_92 : decode cX11_readsOne 92 = .ok (.invokevirtual 218, 3) := by decide +kernel
theorem dX11_readsOne_95 : decode cX11_readsOne 95 = .ok (.aload_n 0, 1) := by decide +kernel
theorem dX11_readsOne_96 : decode cX11_readsOne 96 = .ok (.iload_n 1, 1) := by decide +kernel
theorem dX11_readsOne_97 : decode cX11_readsOne 97 = .ok (.bipush 45, 2) := by decide +kernel
theorem dX11_readsOne_99 : decode cX11_readsOne 99 = .ok (.if_icmp .ne 9, 3) := by decide +kernel
theorem dX11_readsOne_102 : decode cX11_readsOne 102 = .ok (.sipush (-226), 3) := by decide +kernel
theorem dX11_readsOne_105 : decode cX11_readsOne 105 = .ok (.goto 6, 3) := by decide +kernel
theorem dX11_readsOne_108 : decode cX11_readsOne 108 = .ok (.sipush (-133), 3) := by decide +kernel
theorem dX11_readsOne_111 : decode cX11_readsOne 111 = .ok (.invokevirtual 205, 3) := by decide +kernel
theorem dX11_readsOne_114 : decode cX11_readsOne 114 = .ok (.aload_n 0, 1) := by decide +kernel
theorem dX11_readsOne_115 : decode cX11_readsOne 115 = .ok (.dup, 1) := by decide +kernel
theorem dX11_readsOne_116 : decode cX11_readsOne 116 = .ok (.getfield 230, 3) := by decide +kernel
theorem dX11_readsOne_119 : decode cX11_readsOne 119 = .ok (.iconst 1, 1) := by decide +kernel
theorem dX11_readsOne_120 : decode cX11_readsOne 120 = .ok (.isub, 1) := by decide +kernel
theorem dX11_readsOne_121 : decode cX11_readsOne 121 = .ok (.putfield 230, 3) := by decide +kernel
theorem dX11_readsOne_124 : decode cX11_readsOne 124 = .ok (.return_, 1) := by decide +kernel
theorem dX11_readsOne_125 : decode cX11_readsOne 125 = .ok (.iload_n 1, 1) := by decide +kernel
theorem dX11_readsOne_126 : decode cX11_readsOne 126 = .ok (.bipush 97, 2) := by decide +kernel
theorem dX11_readsOne_128 : decode cX11_readsOne 128 = .ok (.if_icmp .lt 14, 3) := by decide +kernel
theorem dX11_readsOne_131 : decode cX11_readsOne 131 = .ok (.iload_n 1, 1) := by decide +kernel
theorem dX11_readsOne_132 : decode cX11_readsOne 132 = .ok (.bipush 122, 2) := by decide +kernel
theorem dX11_readsOne_134 : decode cX11_readsOne 134 = .ok (.if_icmp .gt 8, 3) := by decide +kernel
theorem dX11_readsOne_137 : decode cX11_readsOne 137 = .ok (.aload_n 0, 1) := by decide +kernel
theorem dX11_readsOne_138 : decode cX11_readsOne 138 = .ok (.invokevirtual 236, 3) := by decide +kernel
theorem dX11_readsOne_141 : decode cX11_readsOne 141 = .ok (.return_, 1) := by decide +kernel
theorem dX11_readsOne_142 : decode cX11_readsOne 142 = .ok (.iconst 0, 1) := by decide +kernel
theorem dX11_readsOne_143 : decode cX11_readsOne 143 = .ok (.istore_n 2, 1) := by decide +kernel
theorem dX11_readsOne_144 : decode cX11_readsOne 144 = .ok (.iconst 0, 1) := by decide +kernel
theorem dX11_readsOne_145 : decode cX11_readsOne 145 = .ok (.istore_n 3, 1) := by decide +kernel
theorem dX11_readsOne_146 : decode cX11_readsOne 146 = .ok (.iload_n 3, 1) := by decide +kernel
theorem dX11_readsOne_147 : decode cX11_readsOne 147 = .ok (.iconst 4, 1) := by decide +kernel
theorem dX11_readsOne_148 : decode cX11_readsOne 148 = .ok (.if_icmp .ge 50, 3) := by decide +kernel
theorem dX11_readsOne_151 : decode cX11_readsOne 151 = .ok (.aload_n 0, 1) := by decide +kernel
theorem dX11_readsOne_152 : decode cX11_readsOne 152 = .ok (.invokevirtual 192, 3) := by decide +kernel
theorem dX11_readsOne_155 : decode cX11_readsOne 155 = .ok (.bipush 48, 2) := by decide +kernel
theorem dX11_readsOne_157 : decode cX11_readsOne 157 = .ok (.if_icmp .lt 41, 3) := by decide +kernel
theorem dX11_readsOne_160 : decode cX11_readsOne 160 = .ok (.aload_n 0, 1) := by decide +kernel
theorem dX11_readsOne_161 : decode cX11_readsOne 161 = .ok (.invokevirtual 192, 3) := by decide +kernel
theorem dX11_readsOne_164 : decode cX11_readsOne 164 = .ok (.bipush 57, 2) := by decide +kernel
theorem dX11_readsOne_166 : decode cX11_readsOne 166 = .ok (.if_icmp .gt 32, 3) := by decide +kernel
theorem dX11_readsOne_169 : decode cX11_readsOne 169 = .ok (.bipush 10, 2) := by decide +kernel
theorem dX11_readsOne_171 : decode cX11_readsOne 171 = .ok (.iload_n 2, 1) := by decide +kernel
theorem dX11_readsOne_172 : decode cX11_readsOne 172 = .ok (.imul, 1) := by decide +kernel
theorem dX11_readsOne_173 : decode cX11_readsOne 173 = .ok (.aload_n 0, 1) := by decide +kernel
theorem dX11_readsOne_174 : decode cX11_readsOne 174 = .ok (.invokevirtual 192, 3) := by decide +kernel
theorem dX11_readsOne_177 : decode cX11_readsOne 177 = .ok (.iadd, 1) := by decide +kernel
theorem dX11_readsOne_178 : decode cX11_readsOne 178 = .ok (.bipush 48, 2) := by decide +kernel
theorem dX11_readsOne_180 : decode cX11_readsOne 180 = .ok (.isub, 1) := by decide +kernel
theorem dX11_readsOne_181 : decode cX11_readsOne 181 = .ok (.istore_n 2, 1) := by decide +kernel
theorem dX11_readsOne_182 : decode cX11_readsOne 182 = .ok (.iinc 3 1, 3) := by decide +kernel
theorem dX11_readsOne_185 : decode cX11_readsOne 185 = .ok (.aload_n 0, 1) := by decide +kernel
theorem dX11_readsOne_186 : decode cX11_readsOne 186 = .ok (.dup, 1) := by decide +kernel
theorem dX11_readsOne_187 : decode cX11_readsOne 187 = .ok (.getfield 186, 3) := by decide +kernel
theorem dX11_readsOne_190 : decode cX11_readsOne 190 = .ok (.iconst 1, 1) := by decide +kernel
theorem dX11_readsOne_191 : decode cX11_readsOne 191 = .ok (.iadd, 1) := by decide +kernel
theorem dX11_readsOne_192 : decode cX11_readsOne 192 = .ok (.putfield 186, 3) := by decide +kernel
theorem dX11_readsOne_195 : decode cX11_readsOne 195 = .ok (.goto (-49), 3) := by decide +kernel
theorem dX11_readsOne_198 : decode cX11_readsOne 198 = .ok (.iload_n 3, 1) := by decide +kernel
theorem dX11_readsOne_199 : decode cX11_readsOne 199 = .ok (.ifCond .ne 7, 3) := by decide +kernel
theorem dX11_readsOne_202 : decode cX11_readsOne 202 = .ok (.aload_n 0, 1) := by decide +kernel
theorem dX11_readsOne_203 : decode cX11_readsOne 203 = .ok (.invokevirtual 227, 3) := by decide +kernel
theorem dX11_readsOne_206 : decode cX11_readsOne 206 = .ok (.aload_n 0, 1) := by decide +kernel
theorem dX11_readsOne_207 : decode cX11_readsOne 207 = .ok (.iload_n 2, 1) := by decide +kernel
theorem dX11_readsOne_208 : decode cX11_readsOne 208 = .ok (.invokevirtual 205, 3) := by decide +kernel
theorem dX11_readsOne_211 : decode cX11_readsOne 211 = .ok (.return_, 1) := by decide +kernel
theorem dX11_law_0 : decode cX11_law 0 = .ok (.aload_n 0, 1) := by decide +kernel
theorem dX11_law_1 : decode cX11_law 1 = .ok (.iconst 0, 1) := by decide +kernel
theorem dX11_law_2 : decode cX11_law 2 = .ok (.putfield 186, 3) := by decide +kernel
theorem dX11_law_5 : decode cX11_law 5 = .ok (.aload_n 0, 1) := by decide +kernel
theorem dX11_law_6 : decode cX11_law 6 = .ok (.iconst (-1), 1) := by decide +kernel
theorem dX11_law_7 : decode cX11_law 7 = .ok (.putfield 189, 3) := by decide +kernel
theorem dX11_law_10 : decode cX11_law 10 = .ok (.aload_n 0, 1) := by decide +kernel
theorem dX11_law_11 : decode cX11_law 11 = .ok (.iconst 0, 1) := by decide +kernel
theorem dX11_law_12 : decode cX11_law 12 = .ok (.putfield 230, 3) := by decide +kernel
theorem dX11_law_15 : decode cX11_law 15 = .ok (.aload_n 0, 1) := by decide +kernel
theorem dX11_law_16 : decode cX11_law 16 = .ok (.iconst 0, 1) := by decide +kernel
theorem dX11_law_17 : decode cX11_law 17 = .ok (.putfield 196, 3) := by decide +kernel
theorem dX11_law_20 : decode cX11_law 20 = .ok (.aload_n 0, 1) := by decide +kernel
theorem dX11_law_21 : decode cX11_law 21 = .ok (.iconst 0, 1) := by decide +kernel
theorem dX11_law_22 : decode cX11_law 22 = .ok (.putfield 239, 3) := by decide +kernel
theorem dX11_law_25 : decode cX11_law 25 = .ok (.iconst 1, 1) := by decide +kernel
theorem dX11_law_26 : decode cX11_law 26 = .ok (.istore_n 1, 1) := by decide +kernel
theorem dX11_law_27 : decode cX11_law 27 = .ok (.iload_n 1, 1) := by decide +kernel
theorem dX11_law_28 : decode cX11_law 28 = .ok (.ifCond .eq 81, 3) := by decide +kernel
theorem dX11_law_31 : decode cX11_law 31 = .ok (.aload_n 0, 1) := by decide +kernel
theorem dX11_law_32 : decode cX11_law 32 = .ok (.getfield 196, 3) := by decide +kernel
theorem dX11_law_35 : decode cX11_law 35 = .ok (.istore_n 2, 1) := by decide +kernel
theorem dX11_law_36 : decode cX11_law 36 = .ok (.aload_n 0, 1) := by decide +kernel
theorem dX11_law_37 : decode cX11_law 37 = .ok (.invokevirtual 233, 3) := by decide +kernel
theorem dX11_law_40 : decode cX11_law 40 = .ok (.aload_n 0, 1) := by decide +kernel
theorem dX11_law_41 : decode cX11_law 41 = .ok (.bipush 63, 2) := by decide +kernel
theorem dX11_law_43 : decode cX11_law 43 = .ok (.invokevirtual 202, 3) := by decide +kernel
theorem dX11_law_46 : decode cX11_law 46 = .ok (.istore_n 3, 1) := by decide +kernel
theorem dX11_law_47 : decode cX11_law 47 = .ok (.aload_n 0, 1) := by decide +kernel
theorem dX11_law_48 : decode cX11_law 48 = .ok (.getfield 31, 3) := by decide +kernel
theorem dX11_law_51 : decode cX11_law 51 = .ok (.aload_n 0, 1) := by decide +kernel
theorem dX11_law_52 : decode cX11_law 52 = .ok (.getfield 239, 3) := by decide +kernel
theorem dX11_law_55 : decode cX11_law 55 = .ok (.iload_n 3, 1) := by decide +kernel
theorem dX11_law_56 : decode cX11_law 56 = .ok (.ifCond .eq 10, 3) := by decide +kernel
theorem dX11_law_59 : decode cX11_law 59 = .ok (.aload_n 0, 1) := by decide +kernel
theorem dX11_law_60 : decode cX11_law 60 = .ok (.getfield 196, 3) := by decide +kernel
theorem dX11_law_63 : decode cX11_law 63 = .ok (.goto 4, 3) := by decide +kernel
theorem dX11_law_66 : decode cX11_law 66 = .ok (.iload_n 2, 1) := by decide +kernel
theorem dX11_law_67 : decode cX11_law 67 = .ok (.iastore, 1) := by decide +kernel
theorem dX11_law_68 : decode cX11_law 68 = .ok (.iload_n 3, 1) := by decide +kernel
theorem dX11_law_69 : decode cX11_law 69 = .ok (.ifCond .eq 7, 3) := by decide +kernel
theorem dX11_law_72 : decode cX11_law 72 = .ok (.aload_n 0, 1) := by decide +kernel
theorem dX11_law_73 : decode cX11_law 73 = .ok (.invokevirtual 233, 3) := by decide +kernel
theorem dX11_law_76 : decode cX11_law 76 = .ok (.aload_n 0, 1) := by decide +kernel
theorem dX11_law_77 : decode cX11_law 77 = .ok (.getfield 34, 3) := by decide +kernel
theorem dX11_law_80 : decode cX11_law 80 = .ok (.aload_n 0, 1) := by decide +kernel
theorem dX11_law_81 : decode cX11_law 81 = .ok (.getfield 239, 3) := by decide +kernel
theorem dX11_law_84 : decode cX11_law 84 = .ok (.aload_n 0, 1) := by decide +kernel
theorem dX11_law_85 : decode cX11_law 85 = .ok (.getfield 196, 3) := by decide +kernel
theorem dX11_law_88 : decode cX11_law 88 = .ok (.iastore, 1) := by decide +kernel
theorem dX11_law_89 : decode cX11_law 89 = .ok (.aload_n 0, 1) := by decide +kernel
theorem dX11_law_90 : decode cX11_law 90 = .ok (.dup, 1) := by decide +kernel
theorem dX11_law_91 : decode cX11_law 91 = .ok (.getfield 239, 3) := by decide +kernel
theorem dX11_law_94 : decode cX11_law 94 = .ok (.iconst 1, 1) := by decide +kernel
theorem dX11_law_95 : decode cX11_law 95 = .ok (.iadd, 1) := by decide +kernel
theorem dX11_law_96 : decode cX11_law 96 = .ok (.putfield 239, 3) := by decide +kernel
theorem dX11_law_99 : decode cX11_law 99 = .ok (.aload_n 0, 1) := by decide +kernel
theorem dX11_law_100 : decode cX11_law 100 = .ok (.bipush 59, 2) := by decide +kernel
theorem dX11_law_102 : decode cX11_law 102 = .ok (.invokevirtual 202, 3) := by decide +kernel
theorem dX11_law_105 : decode cX11_law 105 = .ok (.istore_n 1, 1) := by decide +kernel
theorem dX11_law_106 : decode cX11_law 106 = .ok (.goto (-79), 3) := by decide +kernel
theorem dX11_law_109 : decode cX11_law 109 = .ok (.aload_n 0, 1) := by decide +kernel
theorem dX11_law_110 : decode cX11_law 110 = .ok (.getfield 186, 3) := by decide +kernel
theorem dX11_law_113 : decode cX11_law 113 = .ok (.aload_n 0, 1) := by decide +kernel
theorem dX11_law_114 : decode cX11_law 114 = .ok (.getfield 183, 3) := by decide +kernel
theorem dX11_law_117 : decode cX11_law 117 = .ok (.if_icmp .ge 7, 3) := by decide +kernel
theorem dX11_law_120 : decode cX11_law 120 = .ok (.aload_n 0, 1) := by decide +kernel
theorem dX11_law_121 : decode cX11_law 121 = .ok (.invokevirtual 227, 3) := by decide +kernel
theorem dX11_law_124 : decode cX11_law 124 = .ok (.aload_n 0, 1) := by decide +kernel
theorem dX11_law_125 : decode cX11_law 125 = .ok (.iconst 0, 1) := by decide +kernel
theorem dX11_law_126 : decode cX11_law 126 = .ok (.putfield 183, 3) := by decide +kernel
theorem dX11_law_129 : decode cX11_law 129 = .ok (.aload_n 0, 1) := by decide +kernel
theorem dX11_law_130 : decode cX11_law 130 = .ok (.getfield 189, 3) := by decide +kernel
theorem dX11_law_133 : decode cX11_law 133 = .ok (.ifCond .lt 11, 3) := by decide +kernel
theorem dX11_law_136 : decode cX11_law 136 = .ok (.bipush (-100), 2) := by decide +kernel
theorem dX11_law_138 : decode cX11_law 138 = .ok (.aload_n 0, 1) := by decide +kernel
theorem dX11_law_139 : decode cX11_law 139 = .ok (.getfield 189, 3) := by decide +kernel
theorem dX11_law_142 : decode cX11_law 142 = .ok (.isub, 1) := by decide +kernel
theorem dX11_law_143 : decode cX11_law 143 = .ok (.ireturn, 1) := by decide +kernel
theorem dX11_law_144 : decode cX11_law 144 = .ok (.aload_n 0, 1) := by decide +kernel
theorem dX11_law_145 : decode cX11_law 145 = .ok (.aload_n 0, 1) := by decide +kernel
theorem dX11_law_146 : decode cX11_law 146 = .ok (.getfield 239, 3) := by decide +kernel
theorem dX11_law_149 : decode cX11_law 149 = .ok (.putfield 242, 3) := by decide +kernel
theorem dX11_law_152 : decode cX11_law 152 = .ok (.iconst 0, 1) := by decide +kernel
theorem dX11_law_153 : decode cX11_law 153 = .ok (.istore_n 2, 1) := by decide +kernel
theorem dX11_law_154 : decode cX11_law 154 = .ok (.iload_n 2, 1) := by decide +kernel
theorem dX11_law_155 : decode cX11_law 155 = .ok (.aload_n 0, 1) := by decide +kernel
theorem dX11_law_156 : decode cX11_law 156 = .ok (.getfield 242, 3) := by decide +kernel
theorem dX11_law_159 : decode cX11_law 159 = .ok (.if_icmp .ge 33, 3) := by decide +kernel
theorem dX11_law_162 : decode cX11_law 162 = .ok (.aload_n 0, 1) := by decide +kernel
theorem dX11_law_163 : decode cX11_law 163 = .ok (.getfield 37, 3) := by decide +kernel
theorem dX11_law_166 : decode cX11_law 166 = .ok (.iload_n 2, 1) := by decide +kernel
theorem dX11_law_167 : decode cX11_law 167 = .ok (.aload_n 0, 1) := by decide +kernel
theorem dX11_law_168 : decode cX11_law 168 = .ok (.getfield 31, 3) := by decide +kernel
theorem dX11_law_171 : decode cX11_law 171 = .ok (.iload_n 2, 1) := by decide +kernel
theorem dX11_law_172 : decode cX11_law 172 = .ok (.iaload, 1) := by decide +kernel
theorem dX11_law_173 : decode cX11_law 173 = .ok (.iastore, 1) := by decide +kernel
theorem dX11_law_174 : decode cX11_law 174 = .ok (.aload_n 0, 1) := by decide +kernel
theorem dX11_law_175 : decode cX11_law 175 = .ok (.getfield 40, 3) := by decide +kernel
theorem dX11_law_178 : decode cX11_law 178 = .ok (.iload_n 2, 1) := by decide +kernel
theorem dX11_law_179 : decode cX11_law 179 = .ok (.aload_n 0, 1) := by decide +kernel
theorem dX11_law_180 : decode cX11_law 180 = .ok (.getfield 34, 3) := by decide +kernel
theorem dX11_law_183 : decode cX11_law 183 = .ok (.iload_n 2, 1) := by decide +kernel
theorem dX11_law_184 : decode cX11_law 184 = .ok (.iaload, 1) := by decide +kernel
theorem dX11_law_185 : decode cX11_law 185 = .ok (.iastore, 1) := by decide +kernel
theorem dX11_law_186 : decode cX11_law 186 = .ok (.iinc 2 1, 3) := by decide +kernel
theorem dX11_law_189 : decode cX11_law 189 = .ok (.goto (-35), 3) := by decide +kernel
theorem dX11_law_192 : decode cX11_law 192 = .ok (.iconst 0, 1) := by decide +kernel
theorem dX11_law_193 : decode cX11_law 193 = .ok (.istore_n 2, 1) := by decide +kernel
theorem dX11_law_194 : decode cX11_law 194 = .ok (.iload_n 2, 1) := by decide +kernel
theorem dX11_law_195 : decode cX11_law 195 = .ok (.aload_n 0, 1) := by decide +kernel
theorem dX11_law_196 : decode cX11_law 196 = .ok (.getfield 196, 3) := by decide +kernel
theorem dX11_law_199 : decode cX11_law 199 = .ok (.if_icmp .ge 21, 3) := by decide +kernel
theorem dX11_law_202 : decode cX11_law 202 = .ok (.aload_n 0, 1) := by decide +kernel
theorem dX11_law_203 : decode cX11_law 203 = .ok (.getfield 28, 3) := by decide +kernel
theorem dX11_law_206 : decode cX11_law 206 = .ok (.iload_n 2, 1) := by decide +kernel
theorem dX11_law_207 : decode cX11_law 207 = .ok (.aload_n 0, 1) := by decide +kernel
theorem dX11_law_208 : decode cX11_law 208 = .ok (.getfield 25, 3) := by decide +kernel
theorem dX11_law_211 : decode cX11_law 211 = .ok (.iload_n 2, 1) := by decide +kernel
theorem dX11_law_212 : decode cX11_law 212 = .ok (.iaload, 1) := by decide +kernel
theorem dX11_law_213 : decode cX11_law 213 = .ok (.iastore, 1) := by decide +kernel
theorem dX11_law_214 : decode cX11_law 214 = .ok (.iinc 2 1, 3) := by decide +kernel
theorem dX11_law_217 : decode cX11_law 217 = .ok (.goto (-23), 3) := by decide +kernel
theorem dX11_law_220 : decode cX11_law 220 = .ok (.iconst 1, 1) := by decide +kernel
theorem dX11_law_221 : decode cX11_law 221 = .ok (.ireturn, 1) := by decide +kernel
theorem dX11_joined_0 : decode cX11_joined 0 = .ok (.iload_n 0, 1) := by decide +kernel
theorem dX11_joined_1 : decode cX11_joined 1 = .ok (.tableswitch 202 37 62 #[143, 188, 202, 202, 202, 127, 119, 202, 123, 202, 131, 202, 202, 202, 202, 202, 202, 202, 202, 202, 202, 202, 202, 155, 166, 177], 119) := by decide +kernel
theorem dX11_joined_120 : decode cX11_joined 120 = .ok (.iload_n 1, 1) := by decide +kernel
theorem dX11_joined_121 : decode cX11_joined 121 = .ok (.iload_n 2, 1) := by decide +kernel
theorem dX11_joined_122 : decode cX11_joined 122 = .ok (.iadd, 1) := by decide +kernel
theorem dX11_joined_123 : decode cX11_joined 123 = .ok (.ireturn, 1) := by decide +kernel
theorem dX11_joined_124 : decode cX11_joined 124 = .ok (.iload_n 1, 1) := by decide +kernel
theorem dX11_joined_125 : decode cX11_joined 125 = .ok (.iload_n 2, 1) := by decide +kernel
theorem dX11_joined_126 : decode cX11_joined 126 = .ok (.isub, 1) := by decide +kernel
theorem dX11_joined_127 : decode cX11_joined 127 = .ok (.ireturn, 1) := by decide +kernel
theorem dX11_joined_128 : decode cX11_joined 128 = .ok (.iload_n 1, 1) := by decide +kernel
theorem dX11_joined_129 : decode cX11_joined 129 = .ok (.iload_n 2, 1) := by decide +kernel
theorem dX11_joined_130 : decode cX11_joined 130 = .ok (.imul, 1) := by decide +kernel
theorem dX11_joined_131 : decode cX11_joined 131 = .ok (.ireturn, 1) := by decide +kernel
theorem dX11_joined_132 : decode cX11_joined 132 = .ok (.iload_n 2, 1) := by decide +kernel
theorem dX11_joined_133 : decode cX11_joined 133 = .ok (.ifCond .ne 7, 3) := by decide +kernel
theorem dX11_joined_136 : decode cX11_joined 136 = .ok (.iconst 0, 1) := by decide +kernel
theorem dX11_joined_137 : decode cX11_joined 137 = .ok (.goto 6, 3) := by decide +kernel
theorem dX11_joined_140 : decode cX11_joined 140 = .ok (.iload_n 1, 1) := by decide +kernel
theorem dX11_joined_141 : decode cX11_joined 141 = .ok (.iload_n 2, 1) := by decide +kernel
theorem dX11_joined_142 : decode cX11_joined 142 = .ok (.idiv, 1) := by decide +kernel
theorem dX11_joined_143 : decode cX11_joined 143 = .ok (.ireturn, 1) := by decide +kernel
theorem dX11_joined_144 : decode cX11_joined 144 = .ok (.iload_n 2, 1) := by decide +kernel
theorem dX11_joined_145 : decode cX11_joined 145 = .ok (.ifCond .ne 7, 3) := by decide +kernel
theorem dX11_joined_148 : decode cX11_joined 148 = .ok (.iconst 0, 1) := by decide +kernel
theorem dX11_joined_149 : decode cX11_joined 149 = .ok (.goto 6, 3) := by decide +kernel
theorem dX11_joined_152 : decode cX11_joined 152 = .ok (.iload_n 1, 1) := by decide +kernel
theorem dX11_joined_153 : decode cX11_joined 153 = .ok (.iload_n 2, 1) := by decide +kernel
theorem dX11_joined_154 : decode cX11_joined 154 = .ok (.irem, 1) := by decide +kernel
theorem dX11_joined_155 : decode cX11_joined 155 = .ok (.ireturn, 1) := by decide +kernel
theorem dX11_joined_156 : decode cX11_joined 156 = .ok (.iload_n 1, 1) := by decide +kernel
theorem dX11_joined_157 : decode cX11_joined 157 = .ok (.iload_n 2, 1) := by decide +kernel
theorem dX11_joined_158 : decode cX11_joined 158 = .ok (.if_icmp .ge 7, 3) := by decide +kernel
theorem dX11_joined_161 : decode cX11_joined 161 = .ok (.iconst 1, 1) := by decide +kernel
theorem dX11_joined_162 : decode cX11_joined 162 = .ok (.goto 4, 3) := by decide +kernel
theorem dX11_joined_165 : decode cX11_joined 165 = .ok (.iconst 0, 1) := by decide +kernel
theorem dX11_joined_166 : decode cX11_joined 166 = .ok (.ireturn, 1) := by decide +kernel
theorem dX11_joined_167 : decode cX11_joined 167 = .ok (.iload_n 1, 1) := by decide +kernel
theorem dX11_joined_168 : decode cX11_joined 168 = .ok (.iload_n 2, 1) := by decide +kernel
theorem dX11_joined_169 : decode cX11_joined 169 = .ok (.if_icmp .ne 7, 3) := by decide +kernel
theorem dX11_joined_172 : decode cX11_joined 172 = .ok (.iconst 1, 1) := by decide +kernel
theorem dX11_joined_173 : decode cX11_joined 173 = .ok (.goto 4, 3) := by decide +kernel
theorem dX11_joined_176 : decode cX11_joined 176 = .ok (.iconst 0, 1) := by decide +kernel
theorem dX11_joined_177 : decode cX11_joined 177 = .ok (.ireturn, 1) := by decide +kernel
theorem dX11_joined_178 : decode cX11_joined 178 = .ok (.iload_n 1, 1) := by decide +kernel
theorem dX11_joined_179 : decode cX11_joined 179 = .ok (.iload_n 2, 1) := by decide +kernel
theorem dX11_joined_180 : decode cX11_joined 180 = .ok (.if_icmp .le 7, 3) := by decide +kernel
theorem dX11_joined_183 : decode cX11_joined 183 = .ok (.iconst 1, 1) := by decide +kernel
theorem dX11_joined_184 : decode cX11_joined 184 = .ok (.goto 4, 3) := by decide +kernel
theorem dX11_joined_187 : decode cX11_joined 187 = .ok (.iconst 0, 1) := by decide +kernel
theorem dX11_joined_188 : decode cX11_joined 188 = .ok (.ireturn, 1) := by decide +kernel
theorem dX11_joined_189 : decode cX11_joined 189 = .ok (.iload_n 1, 1) := by decide +kernel
theorem dX11_joined_190 : decode cX11_joined 190 = .ok (.ifCond .eq 11, 3) := by decide +kernel
theorem dX11_joined_193 : decode cX11_joined 193 = .ok (.iload_n 2, 1) := by decide +kernel
theorem dX11_joined_194 : decode cX11_joined 194 = .ok (.ifCond .eq 7, 3) := by decide +kernel
theorem dX11_joined_197 : decode cX11_joined 197 = .ok (.iconst 1, 1) := by decide +kernel
theorem dX11_joined_198 : decode cX11_joined 198 = .ok (.goto 4, 3) := by decide +kernel
theorem dX11_joined_201 : decode cX11_joined 201 = .ok (.iconst 0, 1) := by decide +kernel
theorem dX11_joined_202 : decode cX11_joined 202 = .ok (.ireturn, 1) := by decide +kernel
theorem dX11_joined_203 : decode cX11_joined 203 = .ok (.iload_n 1, 1) := by decide +kernel
theorem dX11_joined_204 : decode cX11_joined 204 = .ok (.ifCond .ne 7, 3) := by decide +kernel
theorem dX11_joined_207 : decode cX11_joined 207 = .ok (.iload_n 2, 1) := by decide +kernel
theorem dX11_joined_208 : decode cX11_joined 208 = .ok (.ifCond .eq 7, 3) := by decide +kernel
theorem dX11_joined_211 : decode cX11_joined 211 = .ok (.iconst 1, 1) := by decide +kernel
theorem dX11_joined_212 : decode cX11_joined 212 = .ok (.goto 4, 3) := by decide +kernel
theorem dX11_joined_215 : decode cX11_joined 215 = .ok (.iconst 0, 1) := by decide +kernel
theorem dX11_joined_216 : decode cX11_joined 216 = .ok (.ireturn, 1) := by decide +kernel
theorem dX11_workedOut_0 : decode cX11_workedOut 0 = .ok (.iconst 0, 1) := by decide +kernel
theorem dX11_workedOut_1 : decode cX11_workedOut 1 = .ok (.istore_n 3, 1) := by decide +kernel
theorem dX11_workedOut_2 : decode cX11_workedOut 2 = .ok (.iload_n 1, 1) := by decide +kernel
theorem dX11_workedOut_3 : decode cX11_workedOut 3 = .ok (.istore 4, 2) := by decide +kernel
theorem dX11_workedOut_5 : decode cX11_workedOut 5 = .ok (.iload 4, 2) := by decide +kernel
theorem dX11_workedOut_7 : decode cX11_workedOut 7 = .ok (.iload_n 2, 1) := by decide +kernel
theorem dX11_workedOut_8 : decode cX11_workedOut 8 = .ok (.if_icmp .ge 157, 3) := by decide +kernel
theorem dX11_workedOut_11 : decode cX11_workedOut 11 = .ok (.aload_n 0, 1) := by decide +kernel
theorem dX11_workedOut_12 : decode cX11_workedOut 12 = .ok (.getfield 28, 3) := by decide +kernel
theorem dX11_workedOut_15 : decode cX11_workedOut 15 = .ok (.iload 4, 2) := by decide +kernel
theorem dX11_workedOut_17 : decode cX11_workedOut 17 = .ok (.iaload, 1) := by decide +kernel
theorem dX11_workedOut_18 : decode cX11_workedOut 18 = .ok (.istore 5, 2) := by decide +kernel
theorem dX11_workedOut_20 : decode cX11_workedOut 20 = .ok (.iload 5, 2) := by decide +kernel
theorem dX11_workedOut_22 : decode cX11_workedOut 22 = .ok (.ifCond .ge 10, 3) := by decide +kernel
theorem dX11_workedOut_25 : decode cX11_workedOut 25 = .ok (.iload 5, 2) := by decide +kernel
theorem dX11_workedOut_27 : decode cX11_workedOut 27 = .ok (.bipush (-100), 2) := by decide +kernel
theorem dX11_workedOut_29 : decode cX11_workedOut 29 = .ok (.if_icmp .le 34, 3) := by decide +kernel
theorem dX11_workedOut_32 : decode cX11_workedOut 32 = .ok (.aload_n 0, 1) := by decide +kernel
theorem dX11_workedOut_33 : decode cX11_workedOut 33 = .ok (.getfield 43, 3) := by decide +kernel
theorem dX11_workedOut_36 : decode cX11_workedOut 36 = .ok (.iload_n 3, 1) := by decide +kernel
theorem dX11_workedOut_37 : decode cX11_workedOut 37 = .ok (.iload 5, 2) := by decide +kernel
theorem dX11_workedOut_39 : decode cX11_workedOut 39 = .ok (.ifCond .lt 8, 3) := by decide +kernel
theorem dX11_workedOut_42 : decode cX11_workedOut 42 = .ok (.iload 5, 2) := by decide +kernel
theorem dX11_workedOut_44 : decode cX11_workedOut 44 = .ok (.goto 12, 3) := by decide +kernel
theorem dX11_workedOut_47 : decode cX11_workedOut 47 = .ok (.aload_n 0, 1) := by decide +kernel
theorem dX11_workedOut_48 : decode cX11_workedOut 48 = .ok (.getfield 46, 3) := by decide +kernel
theorem dX11_workedOut_51 : decode cX11_workedOut 51 = .ok (.iconst (-1), 1) := by decide +kernel
theorem dX11_workedOut_52 : decode cX11_workedOut 52 = .ok (.iload 5, 2) := by decide +kernel
theorem dX11_workedOut_54 : decode cX11_workedOut 54 = .ok (.isub, 1) := by decide +kernel
theorem dX11_workedOut_55 : decode cX11_workedOut 55 = .ok (.iaload, 1) := by decide +kernel
theorem dX11_workedOut_56 : decode cX11_workedOut 56 = .ok (.iastore, 1) := by decide +kernel
theorem dX11_workedOut_57 : decode cX11_workedOut 57 = .ok (.iinc 3 1, 3) := by decide +kernel
theorem dX11_workedOut_60 : decode cX11_workedOut 60 = .ok (.goto 99, 3) := by decide +kernel
theorem dX11_workedOut_63 : decode cX11_workedOut 63 = .ok (.iload 5, 2) := by decide +kernel
theorem dX11_workedOut_65 : decode cX11_workedOut 65 = .ok (.sipush (-226), 3) := by decide +kernel
theorem dX11_workedOut_68 : decode cX11_workedOut 68 = .ok (.if_icmp .eq 11, 3) := by decide +kernel
theorem dX11_workedOut_71 : decode cX11_workedOut 71 = .ok (.iload 5, 2) := by decide +kernel
theorem dX11_workedOut_73 : decode cX11_workedOut 73 = .ok (.sipush (-133), 3) := by decide +kernel
theorem dX11_workedOut_76 : decode cX11_workedOut 76 = .ok (.if_icmp .ne 50, 3) := by decide +kernel
theorem dX11_workedOut_79 : decode cX11_workedOut 79 = .ok (.aload_n 0, 1) := by decide +kernel
theorem dX11_workedOut_80 : decode cX11_workedOut 80 = .ok (.getfield 43, 3) := by decide +kernel
theorem dX11_workedOut_83 : decode cX11_workedOut 83 = .ok (.iload_n 3, 1) := by decide +kernel
theorem dX11_workedOut_84 : decode cX11_workedOut 84 = .ok (.iconst 1, 1) := by decide +kernel
theorem dX11_workedOut_85 : decode cX11_workedOut 85 = .ok (.isub, 1) := by decide +kernel
theorem dX11_workedOut_86 : decode cX11_workedOut 86 = .ok (.iload 5, 2) := by decide +kernel
theorem dX11_workedOut_88 : decode cX11_workedOut 88 = .ok (.sipush (-226), 3) := by decide +kernel
theorem dX11_workedOut_91 : decode cX11_workedOut 91 = .ok (.if_icmp .ne 15, 3) := by decide +kernel
theorem dX11_workedOut_94 : decode cX11_workedOut 94 = .ok (.aload_n 0, 1) := by decide +kernel
theorem dX11_workedOut_95 : decode cX11_workedOut 95 = .ok (.getfield 43, 3) := by decide +kernel
theorem dX11_workedOut_98 : decode cX11_workedOut 98 = .ok (.iload_n 3, 1) := by decide +kernel
theorem dX11_workedOut_99 : decode cX11_workedOut 99 = .ok (.iconst 1, 1) := by decide +kernel
theorem dX11_workedOut_100 : decode cX11_workedOut 100 = .ok (.isub, 1) := by decide +kernel
theorem dX11_workedOut_101 : decode cX11_workedOut 101 = .ok (.iaload, 1) := by decide +kernel
theorem dX11_workedOut_102 : decode cX11_workedOut 102 = .ok (.ineg, 1) := by decide +kernel
theorem dX11_workedOut_103 : decode cX11_workedOut 103 = .ok (.goto 19, 3) := by decide +kernel
theorem dX11_workedOut_106 : decode cX11_workedOut 106 = .ok (.aload_n 0, 1) := by decide +kernel
theorem dX11_workedOut_107 : decode cX11_workedOut 107 = .ok (.getfield 43, 3) := by decide +kernel
theorem dX11_workedOut_110 : decode cX11_workedOut 110 = .ok (.iload_n 3, 1) := by decide +kernel
theorem dX11_workedOut_111 : decode cX11_workedOut 111 = .ok (.iconst 1, 1) := by decide +kernel
theorem dX11_workedOut_112 : decode cX11_workedOut 112 = .ok (.isub, 1) := by decide +kernel
theorem dX11_workedOut_113 : decode cX11_workedOut 113 = .ok (.iaload, 1) := by decide +kernel
theorem dX11_workedOut_114 : decode cX11_workedOut 114 = .ok (.ifCond .ne 7, 3) := by decide +kernel
theorem dX11_workedOut_117 : decode cX11_workedOut 117 = .ok (.iconst 1, 1) := by decide +kernel
theorem dX11_workedOut_118 : decode cX11_workedOut 118 = .ok (.goto 4, 3) := by decide +kernel
theorem dX11_workedOut_121 : decode cX11_workedOut 121 = .ok (.iconst 0, 1) := by decide +kernel
theorem dX11_workedOut_122 : decode cX11_workedOut 122 = .ok (.iastore, 1) := by decide +kernel
theorem dX11_workedOut_123 : decode cX11_workedOut 123 = .ok (.goto 36, 3) := by decide +kernel
theorem dX11_workedOut_126 : decode cX11_workedOut 126 = .ok (.iinc 3 (-1), 3) := by decide +kernel
theorem dX11_workedOut_129 : decode cX11_workedOut 129 = .ok (.aload_n 0, 1) := by decide +kernel
theorem dX11_workedOut_130 : decode cX11_workedOut 130 = .ok (.getfield 43, 3) := by decide +kernel
theorem dX11_workedOut_133 : decode cX11_workedOut 133 = .ok (.iload_n 3, 1) := by decide +kernel
theorem dX11_workedOut_134 : decode cX11_workedOut 134 = .ok (.iconst 1, 1) := by decide +kernel
theorem dX11_workedOut_135 : decode cX11_workedOut 135 = .ok (.isub, 1) := by decide +kernel
theorem dX11_workedOut_136 : decode cX11_workedOut 136 = .ok (.bipush (-100), 2) := by decide +kernel
theorem dX11_workedOut_138 : decode cX11_workedOut 138 = .ok (.iload 5, 2) := by decide +kernel
theorem dX11_workedOut_140 : decode cX11_workedOut 140 = .ok (.isub, 1) := by decide +kernel
theorem dX11_workedOut_141 : decode cX11_workedOut 141 = .ok (.aload_n 0, 1) := by decide +kernel
theorem dX11_workedOut_142 : decode cX11_workedOut 142 = .ok (.getfield 43, 3) := by decide +kernel
theorem dX11_workedOut_145 : decode cX11_workedOut 145 = .ok (.iload_n 3, 1) := by decide +kernel
theorem dX11_workedOut_146 : decode cX11_workedOut 146 = .ok (.iconst 1, 1) := by decide +kernel
theorem dX11_workedOut_147 : decode cX11_workedOut 147 = .ok (.isub, 1) := by decide +kernel
theorem dX11_workedOut_148 : decode cX11_workedOut 148 = .ok (.iaload, 1) := by decide +kernel
theorem dX11_workedOut_149 : decode cX11_workedOut 149 = .ok (.aload_n 0, 1) := by decide +kernel
theorem dX11_workedOut_150 : decode cX11_workedOut 150 = .ok (.getfield 43, 3) := by decide +kernel
theorem dX11_workedOut_153 : decode cX11_workedOut 153 = .ok (.iload_n 3, 1) := by decide +kernel
theorem dX11_workedOut_154 : decode cX11_workedOut 154 = .ok (.iaload, 1) := by decide +kernel
theorem dX11_workedOut_155 : decode cX11_workedOut 155 = .ok (.invokestatic 245, 3) := by decide +kernel
theorem dX11_workedOut_158 : decode cX11_workedOut 158 = .ok (.iastore, 1) := by decide +kernel
theorem dX11_workedOut_159 : decode cX11_workedOut 159 = .ok (.iinc 4 1, 3) := by decide +kernel
theorem dX11_workedOut_162 : decode cX11_workedOut 162 = .ok (.goto (-157), 3) := by decide +kernel
theorem dX11_workedOut_165 : decode cX11_workedOut 165 = .ok (.aload_n 0, 1) := by decide +kernel
theorem dX11_workedOut_166 : decode cX11_workedOut 166 = .ok (.getfield 43, 3) := by decide +kernel
theorem dX11_workedOut_169 : decode cX11_workedOut 169 = .ok (.iconst 0, 1) := by decide +kernel
theorem dX11_workedOut_170 : decode cX11_workedOut 170 = .ok (.iaload, 1) := by decide +kernel
theorem dX11_workedOut_171 : decode cX11_workedOut 171 = .ok (.ireturn, 1) := by decide +kernel
theorem dX11_ruled_0 : decode cX11_ruled 0 = .ok (.iconst 0, 1) := by decide +kernel
theorem dX11_ruled_1 : decode cX11_ruled 1 = .ok (.istore_n 1, 1) := by decide +kernel
theorem dX11_ruled_2 : decode cX11_ruled 2 = .ok (.iconst 0, 1) := by decide +kernel
theorem dX11_ruled_3 : decode cX11_ruled 3 = .ok (.istore_n 2, 1) := by decide +kernel
theorem dX11_ruled_4 : decode cX11_ruled 4 = .ok (.iload_n 2, 1) := by decide +kernel
theorem dX11_ruled_5 : decode cX11_ruled 5 = .ok (.aload_n 0, 1) := by decide +kernel
theorem dX11_ruled_6 : decode cX11_ruled 6 = .ok (.getfield 242, 3) := by decide +kernel
theorem dX11_ruled_9 : decode cX11_ruled 9 = .ok (.if_icmp .ge 57, 3) := by decide +kernel
theorem dX11_ruled_12 : decode cX11_ruled 12 = .ok (.aload_n 0, 1) := by decide +kernel
theorem dX11_ruled_13 : decode cX11_ruled 13 = .ok (.getfield 37, 3) := by decide +kernel
theorem dX11_ruled_16 : decode cX11_ruled 16 = .ok (.iload_n 2, 1) := by decide +kernel
theorem dX11_ruled_17 : decode cX11_ruled 17 = .ok (.iaload, 1) := by decide +kernel
theorem dX11_ruled_18 : decode cX11_ruled 18 = .ok (.iload_n 1, 1) := by decide +kernel
theorem dX11_ruled_19 : decode cX11_ruled 19 = .ok (.if_icmp .eq 17, 3) := by decide +kernel
theorem dX11_ruled_22 : decode cX11_ruled 22 = .ok (.aload_n 0, 1) := by decide +kernel
theorem dX11_ruled_23 : decode cX11_ruled 23 = .ok (.iload_n 1, 1) := by decide +kernel
theorem dX11_ruled_24 : decode cX11_ruled 24 = .ok (.aload_n 0, 1) := by decide +kernel
theorem dX11_ruled_25 : decode cX11_ruled 25 = .ok (.getfield 37, 3) := by decide +kernel
theorem dX11_ruled_28 : decode cX11_ruled 28 = .ok (.iload_n 2, 1) := by decide +kernel
theorem dX11_ruled_29 : decode cX11_ruled 29 = .ok (.iaload, 1) := by decide +kernel
theorem dX11_ruled_30 : decode cX11_ruled 30 = .ok (.invokevirtual 249, 3) := by decide +kernel
theorem dX11_ruled_33 : decode cX11_ruled 33 = .ok (.ifCond .eq 20, 3) := by decide +kernel
theorem dX11_ruled_36 : decode cX11_ruled 36 = .ok (.aload_n 0, 1) := by decide +kernel
theorem dX11_ruled_37 : decode cX11_ruled 37 = .ok (.aload_n 0, 1) := by decide +kernel
theorem dX11_ruled_38 : decode cX11_ruled 38 = .ok (.getfield 37, 3) := by decide +kernel
theorem dX11_ruled_41 : decode cX11_ruled 41 = .ok (.iload_n 2, 1) := by decide +kernel
theorem dX11_ruled_42 : decode cX11_ruled 42 = .ok (.iaload, 1) := by decide +kernel
theorem dX11_ruled_43 : decode cX11_ruled 43 = .ok (.aload_n 0, 1) := by decide +kernel
theorem dX11_ruled_44 : decode cX11_ruled 44 = .ok (.getfield 40, 3) := by decide +kernel
theorem dX11_ruled_47 : decode cX11_ruled 47 = .ok (.iload_n 2, 1) := by decide +kernel
theorem dX11_ruled_48 : decode cX11_ruled 48 = .ok (.iaload, 1) := by decide +kernel
theorem dX11_ruled_49 : decode cX11_ruled 49 = .ok (.invokevirtual 249, 3) := by decide +kernel
theorem dX11_ruled_52 : decode cX11_ruled 52 = .ok (.ireturn, 1) := by decide +kernel
theorem dX11_ruled_53 : decode cX11_ruled 53 = .ok (.aload_n 0, 1) := by decide +kernel
theorem dX11_ruled_54 : decode cX11_ruled 54 = .ok (.getfield 40, 3) := by decide +kernel
theorem dX11_ruled_57 : decode cX11_ruled 57 = .ok (.iload_n 2, 1) := by decide +kernel
theorem dX11_ruled_58 : decode cX11_ruled 58 = .ok (.iaload, 1) := by decide +kernel
theorem dX11_ruled_59 : decode cX11_ruled 59 = .ok (.istore_n 1, 1) := by decide +kernel
theorem dX11_ruled_60 : decode cX11_ruled 60 = .ok (.iinc 2 1, 3) := by decide +kernel
theorem dX11_ruled_63 : decode cX11_ruled 63 = .ok (.goto (-59), 3) := by decide +kernel
theorem dX11_ruled_66 : decode cX11_ruled 66 = .ok (.iconst 0, 1) := by decide +kernel
theorem dX11_ruled_67 : decode cX11_ruled 67 = .ok (.ireturn, 1) := by decide +kernel
theorem dX11_thinks_0 : decode cX11_thinks 0 = .ok (.iconst 0, 1) := by decide +kernel
theorem dX11_thinks_1 : decode cX11_thinks 1 = .ok (.istore_n 1, 1) := by decide +kernel
theorem dX11_thinks_2 : decode cX11_thinks 2 = .ok (.iload_n 1, 1) := by decide +kernel
theorem dX11_thinks_3 : decode cX11_thinks 3 = .ok (.bipush 84, 2) := by decide +kernel
theorem dX11_thinks_5 : decode cX11_thinks 5 = .ok (.if_icmp .ge 21, 3) := by decide +kernel
theorem dX11_thinks_8 : decode cX11_thinks 8 = .ok (.aload_n 0, 1) := by decide +kernel
theorem dX11_thinks_9 : decode cX11_thinks 9 = .ok (.getfield 65, 3) := by decide +kernel
theorem dX11_thinks_12 : decode cX11_thinks 12 = .ok (.iload_n 1, 1) := by decide +kernel
theorem dX11_thinks_13 : decode cX11_thinks 13 = .ok (.aload_n 0, 1) := by decide +kernel
theorem dX11_thinks_14 : decode cX11_thinks 14 = .ok (.getfield 9, 3) := by decide +kernel
theorem dX11_thinks_17 : decode cX11_thinks 17 = .ok (.iload_n 1, 1) := by decide +kernel
theorem dX11_thinks_18 : decode cX11_thinks 18 = .ok (.iaload, 1) := by decide +kernel
theorem dX11_thinks_19 : decode cX11_thinks 19 = .ok (.iastore, 1) := by decide +kernel
theorem dX11_thinks_20 : decode cX11_thinks 20 = .ok (.iinc 1 1, 3) := by decide +kernel
theorem dX11_thinks_23 : decode cX11_thinks 23 = .ok (.goto (-21), 3) := by decide +kernel
theorem dX11_thinks_26 : decode cX11_thinks 26 = .ok (.return_, 1) := by decide +kernel
theorem dX11_friendOf_0 : decode cX11_friendOf 0 = .ok (.iconst (-1), 1) := by decide +kernel
theorem dX11_friendOf_1 : decode cX11_friendOf 1 = .ok (.istore_n 3, 1) := by decide +kernel
theorem dX11_friendOf_2 : decode cX11_friendOf 2 = .ok (.iconst 0, 1) := by decide +kernel
theorem dX11_friendOf_3 : decode cX11_friendOf 3 = .ok (.istore 4, 2) := by decide +kernel
theorem dX11_friendOf_5 : decode cX11_friendOf 5 = .ok (.iload 4, 2) := by decide +kernel
theorem dX11_friendOf_7 : decode cX11_friendOf 7 = .ok (.aload_n 0, 1) := by decide +kernel
theorem dX11_friendOf_8 : decode cX11_friendOf 8 = .ok (.getfield 133, 3) := by decide +kernel
theorem dX11_friendOf_11 : decode cX11_friendOf 11 = .ok (.if_icmp .ge 79, 3) := by decide +kernel
theorem dX11_friendOf_14 : decode cX11_friendOf 14 = .ok (.iload 4, 2) := by decide +kernel
theorem dX11_friendOf_16 : decode cX11_friendOf 16 = .ok (.iload_n 1, 1) := by decide +kernel
theorem dX11_friendOf_17 : decode cX11_friendOf 17 = .ok (.if_icmp .eq 27, 3) := by decide +kernel
theorem dX11_friendOf_20 : decode cX11_friendOf 20 = .ok (.iload 4, 2) := by decide +kernel
theorem dX11_friendOf_22 : decode cX11_friendOf 22 = .ok (.iload_n 2, 1) := by decide +kernel
theorem dX11_friendOf_23 : decode cX11_friendOf 23 = .ok (.if_icmp .eq 21, 3) := by decide +kernel
theorem dX11_friendOf_26 : decode cX11_friendOf 26 = .ok (.aload_n 0, 1) := by decide +kernel
theorem dX11_friendOf_27 : decode cX11_friendOf 27 = .ok (.getfield 65, 3) := by decide +kernel
theorem dX11_friendOf_30 : decode cX11_friendOf 30 = .ok (.iload 4, 2) := by decide +kernel
theorem dX11_friendOf_32 : decode cX11_friendOf 32 = .ok (.iload_n 1, 1) := by decide +kernel
theorem dX11_friendOf_33 : decode cX11_friendOf 33 = .ok (.invokestatic 178, 3) := by decide +kernel
theorem dX11_friendOf_36 : decode cX11_friendOf 36 = .ok (.iaload, 1) := by decide +kernel
theorem dX11_friendOf_37 : decode cX11_friendOf 37 = .ok (.ifCond .le 7, 3) := by decide +kernel
theorem dX11_friendOf_40 : decode cX11_friendOf 40 = .ok (.iconst 1, 1) := by decide +kernel
theorem dX11_friendOf_41 : decode cX11_friendOf 41 = .ok (.goto 4, 3) := by decide +kernel
theorem dX11_friendOf_44 : decode cX11_friendOf 44 = .ok (.iconst 0, 1) := by decide +kernel
theorem dX11_friendOf_45 : decode cX11_friendOf 45 = .ok (.istore 5, 2) := by decide +kernel
theorem dX11_friendOf_47 : decode cX11_friendOf 47 = .ok (.iload 5, 2) := by decide +kernel
theorem dX11_friendOf_49 : decode cX11_friendOf 49 = .ok (.ifCond .eq 35, 3) := by decide +kernel
theorem dX11_friendOf_52 : decode cX11_friendOf 52 = .ok (.iload_n 3, 1) := by decide +kernel
theorem dX11_friendOf_53 : decode cX11_friendOf 53 = .ok (.iconst (-1), 1) := by decide +kernel
theorem dX11_friendOf_54 : decode cX11_friendOf 54 = .ok (.if_icmp .eq 27, 3) := by decide +kernel
theorem dX11_friendOf_57 : decode cX11_friendOf 57 = .ok (.aload_n 0, 1) := by decide +kernel
theorem dX11_friendOf_58 : decode cX11_friendOf 58 = .ok (.getfield 65, 3) := by decide +kernel
theorem dX11_friendOf_61 : decode cX11_friendOf 61 = .ok (.iload 4, 2) := by decide +kernel
theorem dX11_friendOf_63 : decode cX11_friendOf 63 = .ok (.iload_n 1, 1) := by decide +kernel
theorem dX11_friendOf_64 : decode cX11_friendOf 64 = .ok (.invokestatic 178, 3) := by decide +kernel
theorem dX11_friendOf_67 : decode cX11_friendOf 67 = .ok (.iaload, 1) := by decide +kernel
theorem dX11_friendOf_68 : decode cX11_friendOf 68 = .ok (.aload_n 0, 1) := by decide +kernel
theorem dX11_friendOf_69 : decode cX11_friendOf 69 = .ok (.getfield 65, 3) := by decide +kernel
theorem dX11_friendOf_72 : decode cX11_friendOf 72 = .ok (.iload_n 3, 1) := by decide +kernel
theorem dX11_friendOf_73 : decode cX11_friendOf 73 = .ok (.iload_n 1, 1) := by decide +kernel
theorem dX11_friendOf_74 : decode cX11_friendOf 74 = .ok (.invokestatic 178, 3) := by decide +kernel
theorem dX11_friendOf_77 : decode cX11_friendOf 77 = .ok (.iaload, 1) := by decide +kernel
theorem dX11_friendOf_78 : decode cX11_friendOf 78 = .ok (.if_icmp .le 6, 3) := by decide +kernel
theorem dX11_friendOf_81 : decode cX11_friendOf 81 = .ok (.iload 4, 2) := by decide +kernel
theorem dX11_friendOf_83 : decode cX11_friendOf 83 = .ok (.istore_n 3, 1) := by decide +kernel
theorem dX11_friendOf_84 : decode cX11_friendOf 84 = .ok (.iinc 4 1, 3) := by decide +kernel
theorem dX11_friendOf_87 : decode cX11_friendOf 87 = .ok (.goto (-82), 3) := by decide +kernel
theorem dX11_friendOf_90 : decode cX11_friendOf 90 = .ok (.iload_n 3, 1) := by decide +kernel
theorem dX11_friendOf_91 : decode cX11_friendOf 91 = .ok (.ireturn, 1) := by decide +kernel
theorem dX11_weighedOut_0 : decode cX11_weighedOut 0 = .ok (.aload_n 0, 1) := by decide +kernel
theorem dX11_weighedOut_1 : decode cX11_weighedOut 1 = .ok (.getfield 65, 3) := by decide +kernel
theorem dX11_weighedOut_4 : decode cX11_weighedOut 4 = .ok (.iload_n 1, 1) := by decide +kernel
theorem dX11_weighedOut_5 : decode cX11_weighedOut 5 = .ok (.iload_n 2, 1) := by decide +kernel
theorem dX11_weighedOut_6 : decode cX11_weighedOut 6 = .ok (.invokestatic 178, 3) := by decide +kernel
theorem dX11_weighedOut_9 : decode cX11_weighedOut 9 = .ok (.iaload, 1) := by decide +kernel
theorem dX11_weighedOut_10 : decode cX11_weighedOut 10 = .ok (.ineg, 1) := by decide +kernel
theorem dX11_weighedOut_11 : decode cX11_weighedOut 11 = .ok (.istore 5, 2) := by decide +kernel
theorem dX11_weighedOut_13 : decode cX11_weighedOut 13 = .ok (.bipush 8, 2) := by decide +kernel
theorem dX11_weighedOut_15 : decode cX11_weighedOut 15 = .ok (.aload_n 0, 1) := by decide +kernel
theorem dX11_weighedOut_16 : decode cX11_weighedOut 16 = .ok (.getfield 65, 3) := by decide +kernel
theorem dX11_weighedOut_19 : decode cX11_weighedOut 19 = .ok (.bipush 8, 2) := by decide +kernel
theorem dX11_weighedOut_21 : decode cX11_weighedOut 21 = .ok (.iload_n 2, 1) := by decide +kernel
theorem dX11_weighedOut_22 : decode cX11_weighedOut 22 = .ok (.iadd, 1) := by decide +kernel
theorem dX11_weighedOut_23 : decode cX11_weighedOut 23 = .ok (.iaload, 1) := by decide +kernel
theorem dX11_weighedOut_24 : decode cX11_weighedOut 24 = .ok (.iadd, 1) := by decide +kernel
theorem dX11_weighedOut_25 : decode cX11_weighedOut 25 = .ok (.iload 5, 2) := by decide +kernel
theorem dX11_weighedOut_27 : decode cX11_weighedOut 27 = .ok (.isub, 1) := by decide +kernel
theorem dX11_weighedOut_28 : decode cX11_weighedOut 28 = .ok (.istore 6, 2) := by decide +kernel
theorem dX11_weighedOut_30 : decode cX11_weighedOut 30 = .ok (.aload_n 0, 1) := by decide +kernel
theorem dX11_weighedOut_31 : decode cX11_weighedOut 31 = .ok (.getfield 242, 3) := by decide +kernel
theorem dX11_weighedOut_34 : decode cX11_weighedOut 34 = .ok (.ifCond .le 81, 3) := by decide +kernel
theorem dX11_weighedOut_37 : decode cX11_weighedOut 37 = .ok (.aload_n 0, 1) := by decide +kernel
theorem dX11_weighedOut_38 : decode cX11_weighedOut 38 = .ok (.getfield 46, 3) := by decide +kernel
theorem dX11_weighedOut_41 : decode cX11_weighedOut 41 = .ok (.iconst 0, 1) := by decide +kernel
theorem dX11_weighedOut_42 : decode cX11_weighedOut 42 = .ok (.iload 5, 2) := by decide +kernel
theorem dX11_weighedOut_44 : decode cX11_weighedOut 44 = .ok (.iastore, 1) := by decide +kernel
theorem dX11_weighedOut_45 : decode cX11_weighedOut 45 = .ok (.aload_n 0, 1) := by decide +kernel
theorem dX11_weighedOut_46 : decode cX11_weighedOut 46 = .ok (.getfield 46, 3) := by decide +kernel
theorem dX11_weighedOut_49 : decode cX11_weighedOut 49 = .ok (.iconst 1, 1) := by decide +kernel
theorem dX11_weighedOut_50 : decode cX11_weighedOut 50 = .ok (.aload_n 0, 1) := by decide +kernel
theorem dX11_weighedOut_51 : decode cX11_weighedOut 51 = .ok (.getfield 65, 3) := by decide +kernel
theorem dX11_weighedOut_54 : decode cX11_weighedOut 54 = .ok (.iload_n 3, 1) := by decide +kernel
theorem dX11_weighedOut_55 : decode cX11_weighedOut 55 = .ok (.iload_n 2, 1) := by decide +kernel
theorem dX11_weighedOut_56 : decode cX11_weighedOut 56 = .ok (.invokestatic 178, 3) := by decide +kernel
theorem dX11_weighedOut_59 : decode cX11_weighedOut 59 = .ok (.iaload, 1) := by decide +kernel
theorem dX11_weighedOut_60 : decode cX11_weighedOut 60 = .ok (.iastore, 1) := by decide +kernel
theorem dX11_weighedOut_61 : decode cX11_weighedOut 61 = .ok (.aload_n 0, 1) := by decide +kernel
theorem dX11_weighedOut_62 : decode cX11_weighedOut 62 = .ok (.getfield 46, 3) := by decide +kernel
theorem dX11_weighedOut_65 : decode cX11_weighedOut 65 = .ok (.iconst 2, 1) := by decide +kernel
theorem dX11_weighedOut_66 : decode cX11_weighedOut 66 = .ok (.aload_n 0, 1) := by decide +kernel
theorem dX11_weighedOut_67 : decode cX11_weighedOut 67 = .ok (.getfield 65, 3) := by decide +kernel
theorem dX11_weighedOut_70 : decode cX11_weighedOut 70 = .ok (.iload_n 2, 1) := by decide +kernel
theorem dX11_weighedOut_71 : decode cX11_weighedOut 71 = .ok (.iaload, 1) := by decide +kernel
theorem dX11_weighedOut_72 : decode cX11_weighedOut 72 = .ok (.iastore, 1) := by decide +kernel
theorem dX11_weighedOut_73 : decode cX11_weighedOut 73 = .ok (.aload_n 0, 1) := by decide +kernel
theorem dX11_weighedOut_74 : decode cX11_weighedOut 74 = .ok (.getfield 46, 3) := by decide +kernel
theorem dX11_weighedOut_77 : decode cX11_weighedOut 77 = .ok (.iconst 3, 1) := by decide +kernel
theorem dX11_weighedOut_78 : decode cX11_weighedOut 78 = .ok (.aload_n 0, 1) := by decide +kernel
theorem dX11_weighedOut_79 : decode cX11_weighedOut 79 = .ok (.getfield 65, 3) := by decide +kernel
theorem dX11_weighedOut_82 : decode cX11_weighedOut 82 = .ok (.bipush 8, 2) := by decide +kernel
theorem dX11_weighedOut_84 : decode cX11_weighedOut 84 = .ok (.iload_n 2, 1) := by decide +kernel
theorem dX11_weighedOut_85 : decode cX11_weighedOut 85 = .ok (.iadd, 1) := by decide +kernel
theorem dX11_weighedOut_86 : decode cX11_weighedOut 86 = .ok (.iaload, 1) := by decide +kernel
theorem dX11_weighedOut_87 : decode cX11_weighedOut 87 = .ok (.iastore, 1) := by decide +kernel
theorem dX11_weighedOut_88 : decode cX11_weighedOut 88 = .ok (.aload_n 0, 1) := by decide +kernel
theorem dX11_weighedOut_89 : decode cX11_weighedOut 89 = .ok (.getfield 46, 3) := by decide +kernel
theorem dX11_weighedOut_92 : decode cX11_weighedOut 92 = .ok (.iconst 4, 1) := by decide +kernel
theorem dX11_weighedOut_93 : decode cX11_weighedOut 93 = .ok (.aload_n 0, 1) := by decide +kernel
theorem dX11_weighedOut_94 : decode cX11_weighedOut 94 = .ok (.getfield 65, 3) := by decide +kernel
theorem dX11_weighedOut_97 : decode cX11_weighedOut 97 = .ok (.bipush 19, 2) := by decide +kernel
theorem dX11_weighedOut_99 : decode cX11_weighedOut 99 = .ok (.iaload, 1) := by decide +kernel
theorem dX11_weighedOut_100 : decode cX11_weighedOut 100 = .ok (.iastore, 1) := by decide +kernel
theorem dX11_weighedOut_101 : decode cX11_weighedOut 101 = .ok (.aload_n 0, 1) := by decide +kernel
theorem dX11_weighedOut_102 : decode cX11_weighedOut 102 = .ok (.getfield 46, 3) := by decide +kernel
theorem dX11_weighedOut_105 : decode cX11_weighedOut 105 = .ok (.iconst 5, 1) := by decide +kernel
theorem dX11_weighedOut_106 : decode cX11_weighedOut 106 = .ok (.iload 4, 2) := by decide +kernel
theorem dX11_weighedOut_108 : decode cX11_weighedOut 108 = .ok (.iastore, 1) := by decide +kernel
theorem dX11_weighedOut_109 : decode cX11_weighedOut 109 = .ok (.aload_n 0, 1) := by decide +kernel
theorem dX11_weighedOut_110 : decode cX11_weighedOut 110 = .ok (.invokevirtual 252, 3) := by decide +kernel
theorem dX11_weighedOut_113 : decode cX11_weighedOut 113 = .ok (.istore 6, 2) := by decide +kernel
theorem dX11_weighedOut_115 : decode cX11_weighedOut 115 = .ok (.iload 6, 2) := by decide +kernel
theorem dX11_weighedOut_117 : decode cX11_weighedOut 117 = .ok (.ifCond .ge 7, 3) := by decide +kernel
theorem dX11_weighedOut_120 : decode cX11_weighedOut 120 = .ok (.iconst 0, 1) := by decide +kernel
theorem dX11_weighedOut_121 : decode cX11_weighedOut 121 = .ok (.goto 17, 3) := by decide +kernel
theorem dX11_weighedOut_124 : decode cX11_weighedOut 124 = .ok (.iload 6, 2) := by decide +kernel
theorem dX11_weighedOut_126 : decode cX11_weighedOut 126 = .ok (.bipush 50, 2) := by decide +kernel
theorem dX11_weighedOut_128 : decode cX11_weighedOut 128 = .ok (.if_icmp .le 8, 3) := by decide +kernel
theorem dX11_weighedOut_131 : decode cX11_weighedOut 131 = .ok (.bipush 50, 2) := by decide +kernel
theorem dX11_weighedOut_133 : decode cX11_weighedOut 133 = .ok (.goto 5, 3) := by decide +kernel
theorem dX11_weighedOut_136 : decode cX11_weighedOut 136 = .ok (.iload 6, 2) := by decide +kernel
theorem dX11_weighedOut_138 : decode cX11_weighedOut 138 = .ok (.ireturn, 1) := by decide +kernel
theorem dX11_nextBuyer_0 : decode cX11_nextBuyer 0 = .ok (.iconst (-1), 1) := by decide +kernel
theorem dX11_nextBuyer_1 : decode cX11_nextBuyer 1 = .ok (.istore_n 1, 1) := by decide +kernel
theorem dX11_nextBuyer_2 : decode cX11_nextBuyer 2 = .ok (.iconst 0, 1) := by decide +kernel
theorem dX11_nextBuyer_3 : decode cX11_nextBuyer 3 = .ok (.istore_n 2, 1) := by decide +kernel
theorem dX11_nextBuyer_4 : decode cX11_nextBuyer 4 = .ok (.iload_n 2, 1) := by decide +kernel
theorem dX11_nextBuyer_5 : decode cX11_nextBuyer 5 = .ok (.aload_n 0, 1) := by decide +kernel
theorem dX11_nextBuyer_6 : decode cX11_nextBuyer 6 = .ok (.getfield 133, 3) := by decide +kernel
theorem dX11_nextBuyer_9 : decode cX11_nextBuyer 9 = .ok (.if_icmp .ge 40, 3) := by decide +kernel
theorem dX11_nextBuyer_12 : decode cX11_nextBuyer 12 = .ok (.aload_n 0, 1) := by decide +kernel
theorem dX11_nextBuyer_13 : decode cX11_nextBuyer 13 = .ok (.getfield 72, 3) := by decide +kernel
theorem dX11_nextBuyer_16 : decode cX11_nextBuyer 16 = .ok (.iload_n 2, 1) := by decide +kernel
theorem dX11_nextBuyer_17 : decode cX11_nextBuyer 17 = .ok (.baload, 1) := by decide +kernel
theorem dX11_nextBuyer_18 : decode cX11_nextBuyer 18 = .ok (.ifCond .ne 25, 3) := by decide +kernel
theorem dX11_nextBuyer_21 : decode cX11_nextBuyer 21 = .ok (.iload_n 1, 1) := by decide +kernel
theorem dX11_nextBuyer_22 : decode cX11_nextBuyer 22 = .ok (.iconst (-1), 1) := by decide +kernel
theorem dX11_nextBuyer_23 : decode cX11_nextBuyer 23 = .ok (.if_icmp .eq 18, 3) := by decide +kernel
theorem dX11_nextBuyer_26 : decode cX11_nextBuyer 26 = .ok (.aload_n 0, 1) := by decide +kernel
theorem dX11_nextBuyer_27 : decode cX11_nextBuyer 27 = .ok (.getfield 65, 3) := by decide +kernel
theorem dX11_nextBuyer_30 : decode cX11_nextBuyer 30 = .ok (.iload_n 2, 1) := by decide +kernel
theorem dX11_nextBuyer_31 : decode cX11_nextBuyer 31 = .ok (.iaload, 1) := by decide +kernel
theorem dX11_nextBuyer_32 : decode cX11_nextBuyer 32 = .ok (.aload_n 0, 1) := by decide +kernel
theorem dX11_nextBuyer_33 : decode cX11_nextBuyer 33 = .ok (.getfield 65, 3) := by decide +kernel
theorem dX11_nextBuyer_36 : decode cX11_nextBuyer 36 = .ok (.iload_n 1, 1) := by decide +kernel
theorem dX11_nextBuyer_37 : decode cX11_nextBuyer 37 = .ok (.iaload, 1) := by decide +kernel
theorem dX11_nextBuyer_38 : decode cX11_nextBuyer 38 = .ok (.if_icmp .le 5, 3) := by decide +kernel
theorem dX11_nextBuyer_41 : decode cX11_nextBuyer 41 = .ok (.iload_n 2, 1) := by decide +kernel
theorem dX11_nextBuyer_42 : decode cX11_nextBuyer 42 = .ok (.istore_n 1, 1) := by decide +kernel
theorem dX11_nextBuyer_43 : decode cX11_nextBuyer 43 = .ok (.iinc 2 1, 3) := by decide +kernel
theorem dX11_nextBuyer_46 : decode cX11_nextBuyer 46 = .ok (.goto (-42), 3) := by decide +kernel
theorem dX11_nextBuyer_49 : decode cX11_nextBuyer 49 = .ok (.iload_n 1, 1) := by decide +kernel
theorem dX11_nextBuyer_50 : decode cX11_nextBuyer 50 = .ok (.ireturn, 1) := by decide +kernel
theorem dX11_buys_0 : decode cX11_buys 0 = .ok (.iconst (-1), 1) := by decide +kernel
theorem dX11_buys_1 : decode cX11_buys 1 = .ok (.istore_n 2, 1) := by decide +kernel
theorem dX11_buys_2 : decode cX11_buys 2 = .ok (.iconst (-1), 1) := by decide +kernel
theorem dX11_buys_3 : decode cX11_buys 3 = .ok (.istore_n 3, 1) := by decide +kernel
theorem dX11_buys_4 : decode cX11_buys 4 = .ok (.iconst (-1), 1) := by decide +kernel
theorem dX11_buys_5 : decode cX11_buys 5 = .ok (.istore 4, 2) := by decide +kernel
theorem dX11_buys_7 : decode cX11_buys 7 = .ok (.iconst 0, 1) := by decide +kernel
theorem dX11_buys_8 : decode cX11_buys 8 = .ok (.istore 5, 2) := by decide +kernel
theorem dX11_buys_10 : decode cX11_buys 10 = .ok (.iload 5, 2) := by decide +kernel
theorem dX11_buys_12 : decode cX11_buys 12 = .ok (.aload_n 0, 1) := by decide +kernel
theorem dX11_buys_13 : decode cX11_buys 13 = .ok (.getfield 133, 3) := by decide +kernel
theorem dX11_buys_16 : decode cX11_buys 16 = .ok (.if_icmp .ge 88, 3) := by decide +kernel
theorem dX11_buys_19 : decode cX11_buys 19 = .ok (.aload_n 0, 1) := by decide +kernel
theorem dX11_buys_20 : decode cX11_buys 20 = .ok (.iload_n 1, 1) := by decide +kernel
theorem dX11_buys_21 : decode cX11_buys 21 = .ok (.iload 5, 2) := by decide +kernel
theorem dX11_buys_23 : decode cX11_buys 23 = .ok (.invokevirtual 255, 3) := by decide +kernel
theorem dX11_buys_26 : decode cX11_buys 26 = .ok (.istore 6, 2) := by decide +kernel
theorem dX11_buys_28 : decode cX11_buys 28 = .ok (.iload 5, 2) := by decide +kernel
theorem dX11_buys_30 : decode cX11_buys 30 = .ok (.iload_n 1, 1) := by decide +kernel
theorem dX11_buys_31 : decode cX11_buys 31 = .ok (.if_icmp .eq 67, 3) := by decide +kernel
theorem dX11_buys_34 : decode cX11_buys 34 = .ok (.aload_n 0, 1) := by decide +kernel
theorem dX11_buys_35 : decode cX11_buys 35 = .ok (.getfield 65, 3) := by decide +kernel
theorem dX11_buys_38 : decode cX11_buys 38 = .ok (.iload 5, 2) := by decide +kernel
theorem dX11_buys_40 : decode cX11_buys 40 = .ok (.iload_n 1, 1) := by decide +kernel
theorem dX11_buys_41 : decode cX11_buys 41 = .ok (.invokestatic 178, 3) := by decide +kernel
theorem dX11_buys_44 : decode cX11_buys 44 = .ok (.iaload, 1) := by decide +kernel
theorem dX11_buys_45 : decode cX11_buys 45 = .ok (.ifCond .ge 53, 3) := by decide +kernel
theorem dX11_buys_48 : decode cX11_buys 48 = .ok (.aload_n 0, 1) := by decide +kernel
theorem dX11_buys_49 : decode cX11_buys 49 = .ok (.getfield 75, 3) := by decide +kernel
theorem dX11_buys_52 : decode cX11_buys 52 = .ok (.iload 5, 2) := by decide +kernel
theorem dX11_buys_54 : decode cX11_buys 54 = .ok (.baload, 1) := by decide +kernel
theorem dX11_buys_55 : decode cX11_buys 55 = .ok (.ifCond .ne 43, 3) := by decide +kernel
theorem dX11_buys_58 : decode cX11_buys 58 = .ok (.iload 6, 2) := by decide +kernel
theorem dX11_buys_60 : decode cX11_buys 60 = .ok (.iconst (-1), 1) := by decide +kernel
theorem dX11_buys_61 : decode cX11_buys 61 = .ok (.if_icmp .ne 6, 3) := by decide +kernel
theorem dX11_buys_64 : decode cX11_buys 64 = .ok (.goto 34, 3) := by decide +kernel
theorem dX11_buys_67 : decode cX11_buys 67 = .ok (.aload_n 0, 1) := by decide +kernel
theorem dX11_buys_68 : decode cX11_buys 68 = .ok (.iload 5, 2) := by decide +kernel
theorem dX11_buys_70 : decode cX11_buys 70 = .ok (.iload_n 1, 1) := by decide +kernel
theorem dX11_buys_71 : decode cX11_buys 71 = .ok (.iload 6, 2) := by decide +kernel
theorem dX11_buys_73 : decode cX11_buys 73 = .ok (.aload_n 0, 1) := by decide +kernel
theorem dX11_buys_74 : decode cX11_buys 74 = .ok (.getfield 258, 3) := by decide +kernel
theorem dX11_buys_77 : decode cX11_buys 77 = .ok (.invokevirtual 261, 3) := by decide +kernel
theorem dX11_buys_80 : decode cX11_buys 80 = .ok (.istore 7, 2) := by decide +kernel
theorem dX11_buys_82 : decode cX11_buys 82 = .ok (.iload 7, 2) := by decide +kernel
theorem dX11_buys_84 : decode cX11_buys 84 = .ok (.iload_n 3, 1) := by decide +kernel
theorem dX11_buys_85 : decode cX11_buys 85 = .ok (.if_icmp .le 13, 3) := by decide +kernel
theorem dX11_buys_88 : decode cX11_buys 88 = .ok (.iload 7, 2) := by decide +kernel
theorem dX11_buys_90 : decode cX11_buys 90 = .ok (.istore_n 3, 1) := by decide +kernel
theorem dX11_buys_91 : decode cX11_buys 91 = .ok (.iload 5, 2) := by decide +kernel
theorem dX11_buys_93 : decode cX11_buys 93 = .ok (.istore_n 2, 1) := by decide +kernel
theorem dX11_buys_94 : decode cX11_buys 94 = .ok (.iload 6, 2) := by decide +kernel
theorem dX11_buys_96 : decode cX11_buys 96 = .ok (.istore 4, 2) := by decide +kernel
theorem dX11_buys_98 : decode cX11_buys 98 = .ok (.iinc 5 1, 3) := by decide +kernel
theorem dX11_buys_101 : decode cX11_buys 101 = .ok (.goto (-91), 3) := by decide +kernel
theorem dX11_buys_104 : decode cX11_buys 104 = .ok (.iload_n 2, 1) := by decide +kernel
theorem dX11_buys_105 : decode cX11_buys 105 = .ok (.iconst (-1), 1) := by decide +kernel
theorem dX11_buys_106 : decode cX11_buys 106 = .ok (.if_icmp .ne 4, 3) := by decide +kernel
theorem dX11_buys_109 : decode cX11_buys 109 = .ok (.return_, 1) := by decide +kernel
theorem dX11_buys_110 : decode cX11_buys 110 = .ok (.aload_n 0, 1) := by decide +kernel
theorem dX11_buys_111 : decode cX11_buys 111 = .ok (.getfield 68, 3) := by decide +kernel
theorem dX11_buys_114 : decode cX11_buys 114 = .ok (.iload_n 1, 1) := by decide +kernel
theorem dX11_buys_115 : decode cX11_buys 115 = .ok (.iconst 1, 1) := by decide +kernel
theorem dX11_buys_116 : decode cX11_buys 116 = .ok (.bastore, 1) := by decide +kernel
theorem dX11_buys_117 : decode cX11_buys 117 = .ok (.aload_n 0, 1) := by decide +kernel
theorem dX11_buys_118 : decode cX11_buys 118 = .ok (.getfield 75, 3) := by decide +kernel
theorem dX11_buys_121 : decode cX11_buys 121 = .ok (.iload_n 2, 1) := by decide +kernel
theorem dX11_buys_122 : decode cX11_buys 122 = .ok (.iconst 1, 1) := by decide +kernel
theorem dX11_buys_123 : decode cX11_buys 123 = .ok (.bastore, 1) := by decide +kernel
theorem dX11_buys_124 : decode cX11_buys 124 = .ok (.aload_n 0, 1) := by decide +kernel
theorem dX11_buys_125 : decode cX11_buys 125 = .ok (.getfield 78, 3) := by decide +kernel
theorem dX11_buys_128 : decode cX11_buys 128 = .ok (.iload_n 1, 1) := by decide +kernel
theorem dX11_buys_129 : decode cX11_buys 129 = .ok (.iload_n 2, 1) := by decide +kernel
theorem dX11_buys_130 : decode cX11_buys 130 = .ok (.iastore, 1) := by decide +kernel
theorem dX11_buys_131 : decode cX11_buys 131 = .ok (.aload_n 0, 1) := by decide +kernel
theorem dX11_buys_132 : decode cX11_buys 132 = .ok (.dup, 1) := by decide +kernel
theorem dX11_buys_133 : decode cX11_buys 133 = .ok (.getfield 258, 3) := by decide +kernel
theorem dX11_buys_136 : decode cX11_buys 136 = .ok (.iconst 1, 1) := by decide +kernel
theorem dX11_buys_137 : decode cX11_buys 137 = .ok (.iadd, 1) := by decide +kernel
theorem dX11_buys_138 : decode cX11_buys 138 = .ok (.putfield 258, 3) := by decide +kernel
theorem dX11_buys_141 : decode cX11_buys 141 = .ok (.aload_n 0, 1) := by decide +kernel
theorem dX11_buys_142 : decode cX11_buys 142 = .ok (.getfield 65, 3) := by decide +kernel
theorem dX11_buys_145 : decode cX11_buys 145 = .ok (.iload_n 1, 1) := by decide +kernel
theorem dX11_buys_146 : decode cX11_buys 146 = .ok (.aload_n 0, 1) := by decide +kernel
theorem dX11_buys_147 : decode cX11_buys 147 = .ok (.getfield 65, 3) := by decide +kernel
theorem dX11_buys_150 : decode cX11_buys 150 = .ok (.iload_n 1, 1) := by decide +kernel
theorem dX11_buys_151 : decode cX11_buys 151 = .ok (.iaload, 1) := by decide +kernel
theorem dX11_buys_152 : decode cX11_buys 152 = .ok (.iload_n 3, 1) := by decide +kernel
theorem dX11_buys_153 : decode cX11_buys 153 = .ok (.if_icmp .le 14, 3) := by decide +kernel
theorem dX11_buys_156 : decode cX11_buys 156 = .ok (.aload_n 0, 1) := by decide +kernel
theorem dX11_buys_157 : decode cX11_buys 157 = .ok (.getfield 65, 3) := by decide +kernel
theorem dX11_buys_160 : decode cX11_buys 160 = .ok (.iload_n 1, 1) := by decide +kernel
theorem dX11_buys_161 : decode cX11_buys 161 = .ok (.iaload, 1) := by decide +kernel
theorem dX11_buys_162 : decode cX11_buys 162 = .ok (.iload_n 3, 1) := by decide +kernel
theorem dX11_buys_163 : decode cX11_buys 163 = .ok (.isub, 1) := by decide +kernel
theorem dX11_buys_164 : decode cX11_buys 164 = .ok (.goto 4, 3) := by decide +kernel
theorem dX11_buys_167 : decode cX11_buys 167 = .ok (.iconst 0, 1) := by decide +kernel
theorem dX11_buys_168 : decode cX11_buys 168 = .ok (.iastore, 1) := by decide +kernel
theorem dX11_buys_169 : decode cX11_buys 169 = .ok (.aload_n 0, 1) := by decide +kernel
theorem dX11_buys_170 : decode cX11_buys 170 = .ok (.getfield 65, 3) := by decide +kernel
theorem dX11_buys_173 : decode cX11_buys 173 = .ok (.iload_n 2, 1) := by decide +kernel
theorem dX11_buys_174 : decode cX11_buys 174 = .ok (.iload_n 1, 1) := by decide +kernel
theorem dX11_buys_175 : decode cX11_buys 175 = .ok (.invokestatic 178, 3) := by decide +kernel
theorem dX11_buys_178 : decode cX11_buys 178 = .ok (.bipush 9, 2) := by decide +kernel
theorem dX11_buys_180 : decode cX11_buys 180 = .ok (.aload_n 0, 1) := by decide +kernel
theorem dX11_buys_181 : decode cX11_buys 181 = .ok (.getfield 65, 3) := by decide +kernel
theorem dX11_buys_184 : decode cX11_buys 184 = .ok (.iload_n 2, 1) := by decide +kernel
theorem dX11_buys_185 : decode cX11_buys 185 = .ok (.iload_n 1, 1) := by decide +kernel
theorem dX11_buys_186 : decode cX11_buys 186 = .ok (.invokestatic 178, 3) := by decide +kernel
theorem dX11_buys_189 : decode cX11_buys 189 = .ok (.iaload, 1) := by decide +kernel
theorem dX11_buys_190 : decode cX11_buys 190 = .ok (.aload_n 0, 1) := by decide +kernel
theorem dX11_buys_191 : decode cX11_buys 191 = .ok (.getfield 65, 3) := by decide +kernel
theorem dX11_buys_194 : decode cX11_buys 194 = .ok (.bipush 16, 2) := by decide +kernel
theorem dX11_buys_196 : decode cX11_buys 196 = .ok (.iaload, 1) := by decide +kernel
theorem dX11_buys_197 : decode cX11_buys 197 = .ok (.iadd, 1) := by decide +kernel
theorem dX11_buys_198 : decode cX11_buys 198 = .ok (.invokestatic 265, 3) := by decide +kernel
theorem dX11_buys_201 : decode cX11_buys 201 = .ok (.iastore, 1) := by decide +kernel
theorem dX11_buys_202 : decode cX11_buys 202 = .ok (.aload_n 0, 1) := by decide +kernel
theorem dX11_buys_203 : decode cX11_buys 203 = .ok (.getfield 270, 3) := by decide +kernel
theorem dX11_buys_206 : decode cX11_buys 206 = .ok (.ifCond .eq 12, 3) := by decide +kernel
theorem dX11_buys_209 : decode cX11_buys 209 = .ok (.aload_n 0, 1) := by decide +kernel
theorem dX11_buys_210 : decode cX11_buys 210 = .ok (.iload_n 1, 1) := by decide +kernel
theorem dX11_buys_211 : decode cX11_buys 211 = .ok (.iload_n 2, 1) := by decide +kernel
theorem dX11_buys_212 : decode cX11_buys 212 = .ok (.iload 4, 2) := by decide +kernel
theorem dX11_buys_214 : decode cX11_buys 214 = .ok (.iload_n 3, 1) := by decide +kernel
theorem dX11_buys_215 : decode cX11_buys 215 = .ok (.invokevirtual 274, 3) := by decide +kernel
theorem dX11_buys_218 : decode cX11_buys 218 = .ok (.return_, 1) := by decide +kernel
theorem dX11_goesBy_0 : decode cX11_goesBy 0 = .ok (.aload_n 0, 1) := by decide +kernel
theorem dX11_goesBy_1 : decode cX11_goesBy 1 = .ok (.iconst 0, 1) := by decide +kernel
theorem dX11_goesBy_2 : decode cX11_goesBy 2 = .ok (.putfield 258, 3) := by decide +kernel
theorem dX11_goesBy_5 : decode cX11_goesBy 5 = .ok (.iconst 0, 1) := by decide +kernel
theorem dX11_goesBy_6 : decode cX11_goesBy 6 = .ok (.istore_n 1, 1) := by decide +kernel
theorem dX11_goesBy_7 : decode cX11_goesBy 7 = .ok (.iload_n 1, 1) := by decide +kernel
theorem dX11_goesBy_8 : decode cX11_goesBy 8 = .ok (.aload_n 0, 1) := by decide +kernel
theorem dX11_goesBy_9 : decode cX11_goesBy 9 = .ok (.getfield 133, 3) := by decide +kernel
theorem dX11_goesBy_12 : decode cX11_goesBy 12 = .ok (.if_icmp .ge 38, 3) := by decide +kernel
theorem dX11_goesBy_15 : decode cX11_goesBy 15 = .ok (.aload_n 0, 1) := by decide +kernel
theorem dX11_goesBy_16 : decode cX11_goesBy 16 = .ok (.getfield 68, 3) := by decide +kernel
theorem dX11_goesBy_19 : decode cX11_goesBy 19 = .ok (.iload_n 1, 1) := by decide +kernel
theorem dX11_goesBy_20 : decode cX11_goesBy 20 = .ok (.iconst 0, 1) := by decide +kernel
theorem dX11_goesBy_21 : decode cX11_goesBy 21 = .ok (.bastore, 1) := by decide +kernel
theorem dX11_goesBy_22 : decode cX11_goesBy 22 = .ok (.aload_n 0, 1) := by decide +kernel
theorem dX11_goesBy_23 : decode cX11_goesBy 23 = .ok (.getfield 72, 3) := by decide +kernel
theorem dX11_goesBy_26 : decode cX11_goesBy 26 = .ok (.iload_n 1, 1) := by decide +kernel
theorem dX11_goesBy_27 : decode cX11_goesBy 27 = .ok (.iconst 0, 1) := by decide +kernel
theorem dX11_goesBy_28 : decode cX11_goesBy 28 = .ok (.bastore, 1) := by decide +kernel
theorem dX11_goesBy_29 : decode cX11_goesBy 29 = .ok (.aload_n 0, 1) := by decide +kernel
theorem dX11_goesBy_30 : decode cX11_goesBy 30 = .ok (.getfield 75, 3) := by decide +kernel
theorem dX11_goesBy_33 : decode cX11_goesBy 33 = .ok (.iload_n 1, 1) := by decide +kernel
theorem dX11_goesBy_34 : decode cX11_goesBy 34 = .ok (.iconst 0, 1) := by decide +kernel
theorem dX11_goesBy_35 : decode cX11_goesBy 35 = .ok (.bastore, 1) := by decide +kernel
theorem dX11_goesBy_36 : decode cX11_goesBy 36 = .ok (.aload_n 0, 1) := by decide +kernel
theorem dX11_goesBy_37 : decode cX11_goesBy 37 = .ok (.getfield 78, 3) := by decide +kernel
theorem dX11_goesBy_40 : decode cX11_goesBy 40 = .ok (.iload_n 1, 1) := by decide +kernel
theorem dX11_goesBy_41 : decode cX11_goesBy 41 = .ok (.bipush 8, 2) := by decide +kernel
theorem dX11_goesBy_43 : decode cX11_goesBy 43 = .ok (.iastore, 1) := by decide +kernel
theorem dX11_goesBy_44 : decode cX11_goesBy 44 = .ok (.iinc 1 1, 3) := by decide +kernel
theorem dX11_goesBy_47 : decode cX11_goesBy 47 = .ok (.goto (-40), 3) := by decide +kernel
theorem dX11_goesBy_50 : decode cX11_goesBy 50 = .ok (.iconst 0, 1) := by decide +kernel
theorem dX11_goesBy_51 : decode cX11_goesBy 51 = .ok (.istore_n 1, 1) := by decide +kernel
theorem dX11_goesBy_52 : decode cX11_goesBy 52 = .ok (.iload_n 1, 1) := by decide +kernel
theorem dX11_goesBy_53 : decode cX11_goesBy 53 = .ok (.aload_n 0, 1) := by decide +kernel
theorem dX11_goesBy_54 : decode cX11_goesBy 54 = .ok (.getfield 133, 3) := by decide +kernel
theorem dX11_goesBy_57 : decode cX11_goesBy 57 = .ok (.if_icmp .ge 26, 3) := by decide +kernel
theorem dX11_goesBy_60 : decode cX11_goesBy 60 = .ok (.aload_n 0, 1) := by decide +kernel
theorem dX11_goesBy_61 : decode cX11_goesBy 61 = .ok (.invokevirtual 278, 3) := by decide +kernel
theorem dX11_goesBy_64 : decode cX11_goesBy 64 = .ok (.istore_n 2, 1) := by decide +kernel
theorem dX11_goesBy_65 : decode cX11_goesBy 65 = .ok (.aload_n 0, 1) := by decide +kernel
theorem dX11_goesBy_66 : decode cX11_goesBy 66 = .ok (.iload_n 2, 1) := by decide +kernel
theorem dX11_goesBy_67 : decode cX11_goesBy 67 = .ok (.invokevirtual 281, 3) := by decide +kernel
theorem dX11_goesBy_70 : decode cX11_goesBy 70 = .ok (.aload_n 0, 1) := by decide +kernel
theorem dX11_goesBy_71 : decode cX11_goesBy 71 = .ok (.getfield 72, 3) := by decide +kernel
theorem dX11_goesBy_74 : decode cX11_goesBy 74 = .ok (.iload_n 2, 1) := by decide +kernel
theorem dX11_goesBy_75 : decode cX11_goesBy 75 = .ok (.iconst 1, 1) := by decide +kernel
theorem dX11_goesBy_76 : decode cX11_goesBy 76 = .ok (.bastore, 1) := by decide +kernel
theorem dX11_goesBy_77 : decode cX11_goesBy 77 = .ok (.iinc 1 1, 3) := by decide +kernel
theorem dX11_goesBy_80 : decode cX11_goesBy 80 = .ok (.goto (-28), 3) := by decide +kernel
theorem dX11_goesBy_83 : decode cX11_goesBy 83 = .ok (.iconst 0, 1) := by decide +kernel
theorem dX11_goesBy_84 : decode cX11_goesBy 84 = .ok (.istore_n 1, 1) := by decide +kernel
theorem dX11_goesBy_85 : decode cX11_goesBy 85 = .ok (.iload_n 1, 1) := by decide +kernel
theorem dX11_goesBy_86 : decode cX11_goesBy 86 = .ok (.aload_n 0, 1) := by decide +kernel
theorem dX11_goesBy_87 : decode cX11_goesBy 87 = .ok (.getfield 133, 3) := by decide +kernel
theorem dX11_goesBy_90 : decode cX11_goesBy 90 = .ok (.if_icmp .ge 43, 3) := by decide +kernel
theorem dX11_goesBy_93 : decode cX11_goesBy 93 = .ok (.aload_n 0, 1) := by decide +kernel
theorem dX11_goesBy_94 : decode cX11_goesBy 94 = .ok (.getfield 68, 3) := by decide +kernel
theorem dX11_goesBy_97 : decode cX11_goesBy 97 = .ok (.iload_n 1, 1) := by decide +kernel
theorem dX11_goesBy_98 : decode cX11_goesBy 98 = .ok (.baload, 1) := by decide +kernel
theorem dX11_goesBy_99 : decode cX11_goesBy 99 = .ok (.ifCond .ne 28, 3) := by decide +kernel
theorem dX11_goesBy_102 : decode cX11_goesBy 102 = .ok (.aload_n 0, 1) := by decide +kernel
theorem dX11_goesBy_103 : decode cX11_goesBy 103 = .ok (.getfield 65, 3) := by decide +kernel
theorem dX11_goesBy_106 : decode cX11_goesBy 106 = .ok (.iload_n 1, 1) := by decide +kernel
theorem dX11_goesBy_107 : decode cX11_goesBy 107 = .ok (.bipush 99, 2) := by decide +kernel
theorem dX11_goesBy_109 : decode cX11_goesBy 109 = .ok (.aload_n 0, 1) := by decide +kernel
theorem dX11_goesBy_110 : decode cX11_goesBy 110 = .ok (.getfield 65, 3) := by decide +kernel
theorem dX11_goesBy_113 : decode cX11_goesBy 113 = .ok (.iload_n 1, 1) := by decide +kernel
theorem dX11_goesBy_114 : decode cX11_goesBy 114 = .ok (.iaload, 1) := by decide +kernel
theorem dX11_goesBy_115 : decode cX11_goesBy 115 = .ok (.aload_n 0, 1) := by decide +kernel
theorem dX11_goesBy_116 : decode cX11_goesBy 116 = .ok (.getfield 65, 3) := by decide +kernel
theorem dX11_goesBy_119 : decode cX11_goesBy 119 = .ok (.bipush 18, 2) := by decide +kernel
theorem dX11_goesBy_121 : decode cX11_goesBy 121 = .ok (.iaload, 1) := by decide +kernel
theorem dX11_goesBy_122 : decode cX11_goesBy 122 = .ok (.iadd, 1) := by decide +kernel
theorem dX11_goesBy_123 : decode cX11_goesBy 123 = .ok (.invokestatic 265, 3) := by decide +kernel
theorem dX11_goesBy_126 : decode cX11_goesBy 126 = .ok (.iastore, 1) := by decide +kernel
theorem dX11_goesBy_127 : decode cX11_goesBy 127 = .ok (.iinc 1 1, 3) := by decide +kernel
theorem dX11_goesBy_130 : decode cX11_goesBy 130 = .ok (.goto (-45), 3) := by decide +kernel
theorem dX11_goesBy_133 : decode cX11_goesBy 133 = .ok (.aload_n 0, 1) := by decide +kernel
theorem dX11_goesBy_134 : decode cX11_goesBy 134 = .ok (.getfield 65, 3) := by decide +kernel
theorem dX11_goesBy_137 : decode cX11_goesBy 137 = .ok (.bipush 19, 2) := by decide +kernel
theorem dX11_goesBy_139 : decode cX11_goesBy 139 = .ok (.bipush 99, 2) := by decide +kernel
theorem dX11_goesBy_141 : decode cX11_goesBy 141 = .ok (.aload_n 0, 1) := by decide +kernel
theorem dX11_goesBy_142 : decode cX11_goesBy 142 = .ok (.getfield 65, 3) := by decide +kernel
theorem dX11_goesBy_145 : decode cX11_goesBy 145 = .ok (.bipush 19, 2) := by decide +kernel
theorem dX11_goesBy_147 : decode cX11_goesBy 147 = .ok (.iaload, 1) := by decide +kernel
theorem dX11_goesBy_148 : decode cX11_goesBy 148 = .ok (.iconst 1, 1) := by decide +kernel
theorem dX11_goesBy_149 : decode cX11_goesBy 149 = .ok (.iadd, 1) := by decide +kernel
theorem dX11_goesBy_150 : decode cX11_goesBy 150 = .ok (.invokestatic 265, 3) := by decide +kernel
theorem dX11_goesBy_153 : decode cX11_goesBy 153 = .ok (.iastore, 1) := by decide +kernel
theorem dX11_goesBy_154 : decode cX11_goesBy 154 = .ok (.aload_n 0, 1) := by decide +kernel
theorem dX11_goesBy_155 : decode cX11_goesBy 155 = .ok (.getfield 65, 3) := by decide +kernel
theorem dX11_goesBy_158 : decode cX11_goesBy 158 = .ok (.bipush 17, 2) := by decide +kernel
theorem dX11_goesBy_160 : decode cX11_goesBy 160 = .ok (.iaload, 1) := by decide +kernel
theorem dX11_goesBy_161 : decode cX11_goesBy 161 = .ok (.ifCond .eq 72, 3) := by decide +kernel
theorem dX11_goesBy_164 : decode cX11_goesBy 164 = .ok (.aload_n 0, 1) := by decide +kernel
theorem dX11_goesBy_165 : decode cX11_goesBy 165 = .ok (.getfield 65, 3) := by decide +kernel
theorem dX11_goesBy_168 : decode cX11_goesBy 168 = .ok (.bipush 19, 2) := by decide +kernel
theorem dX11_goesBy_170 : decode cX11_goesBy 170 = .ok (.iaload, 1) := by decide +kernel
theorem dX11_goesBy_171 : decode cX11_goesBy 171 = .ok (.aload_n 0, 1) := by decide +kernel
theorem dX11_goesBy_172 : decode cX11_goesBy 172 = .ok (.getfield 65, 3) := by decide +kernel
theorem dX11_goesBy_175 : decode cX11_goesBy 175 = .ok (.bipush 17, 2) := by decide +kernel
theorem dX11_goesBy_177 : decode cX11_goesBy 177 = .ok (.iaload, 1) := by decide +kernel
theorem dX11_goesBy_178 : decode cX11_goesBy 178 = .ok (.irem, 1) := by decide +kernel
theorem dX11_goesBy_179 : decode cX11_goesBy 179 = .ok (.ifCond .ne 54, 3) := by decide +kernel
theorem dX11_goesBy_182 : decode cX11_goesBy 182 = .ok (.bipush 20, 2) := by decide +kernel
theorem dX11_goesBy_184 : decode cX11_goesBy 184 = .ok (.istore_n 1, 1) := by decide +kernel
theorem dX11_goesBy_185 : decode cX11_goesBy 185 = .ok (.iload_n 1, 1) := by decide +kernel
theorem dX11_goesBy_186 : decode cX11_goesBy 186 = .ok (.bipush 84, 2) := by decide +kernel
theorem dX11_goesBy_188 : decode cX11_goesBy 188 = .ok (.if_icmp .ge 45, 3) := by decide +kernel
theorem dX11_goesBy_191 : decode cX11_goesBy 191 = .ok (.aload_n 0, 1) := by decide +kernel
theorem dX11_goesBy_192 : decode cX11_goesBy 192 = .ok (.getfield 65, 3) := by decide +kernel
theorem dX11_goesBy_195 : decode cX11_goesBy 195 = .ok (.iload_n 1, 1) := by decide +kernel
theorem dX11_goesBy_196 : decode cX11_goesBy 196 = .ok (.dup2, 1) := by decide +kernel
theorem dX11_goesBy_197 : decode cX11_goesBy 197 = .ok (.iaload, 1) := by decide +kernel
theorem dX11_goesBy_198 : decode cX11_goesBy 198 = .ok (.aload_n 0, 1) := by decide +kernel
theorem dX11_goesBy_199 : decode cX11_goesBy 199 = .ok (.getfield 65, 3) := by decide +kernel
theorem dX11_goesBy_202 : decode cX11_goesBy 202 = .ok (.iload_n 1, 1) := by decide +kernel
theorem dX11_goesBy_203 : decode cX11_goesBy 203 = .ok (.iaload, 1) := by decide +kernel
theorem dX11_goesBy_204 : decode cX11_goesBy 204 = .ok (.ifCond .le 7, 3) := by decide +kernel
theorem dX11_goesBy_207 : decode cX11_goesBy 207 = .ok (.iconst (-1), 1) := by decide +kernel
theorem dX11_goesBy_208 : decode cX11_goesBy 208 = .ok (.goto 17, 3) := by decide +kernel
theorem dX11_goesBy_211 : decode cX11_goesBy 211 = .ok (.aload_n 0, 1) := by decide +kernel
theorem dX11_goesBy_212 : decode cX11_goesBy 212 = .ok (.getfield 65, 3) := by decide +kernel
theorem dX11_goesBy_215 : decode cX11_goesBy 215 = .ok (.iload_n 1, 1) := by decide +kernel
theorem dX11_goesBy_216 : decode cX11_goesBy 216 = .ok (.iaload, 1) := by decide +kernel
theorem dX11_goesBy_217 : decode cX11_goesBy 217 = .ok (.ifCond .ge 7, 3) := by decide +kernel
theorem dX11_goesBy_220 : decode cX11_goesBy 220 = .ok (.iconst 1, 1) := by decide +kernel
theorem dX11_goesBy_221 : decode cX11_goesBy 221 = .ok (.goto 4, 3) := by decide +kernel
theorem dX11_goesBy_224 : decode cX11_goesBy 224 = .ok (.iconst 0, 1) := by decide +kernel
theorem dX11_goesBy_225 : decode cX11_goesBy 225 = .ok (.iadd, 1) := by decide +kernel
theorem dX11_goesBy_226 : decode cX11_goesBy 226 = .ok (.iastore, 1) := by decide +kernel
theorem dX11_goesBy_227 : decode cX11_goesBy 227 = .ok (.iinc 1 1, 3) := by decide +kernel
theorem dX11_goesBy_230 : decode cX11_goesBy 230 = .ok (.goto (-45), 3) := by decide +kernel
theorem dX11_goesBy_233 : decode cX11_goesBy 233 = .ok (.return_, 1) := by decide +kernel
theorem dX11_price_0 : decode cX11_price 0 = .ok (.iload_n 1, 1) := by decide +kernel
theorem dX11_price_1 : decode cX11_price 1 = .ok (.iload_n 2, 1) := by decide +kernel
theorem dX11_price_2 : decode cX11_price 2 = .ok (.if_icmp .eq 13, 3) := by decide +kernel
theorem dX11_price_5 : decode cX11_price 5 = .ok (.aload_n 0, 1) := by decide +kernel
theorem dX11_price_6 : decode cX11_price 6 = .ok (.iload_n 2, 1) := by decide +kernel
theorem dX11_price_7 : decode cX11_price 7 = .ok (.iload_n 1, 1) := by decide +kernel
theorem dX11_price_8 : decode cX11_price 8 = .ok (.invokevirtual 255, 3) := by decide +kernel
theorem dX11_price_11 : decode cX11_price 11 = .ok (.iconst (-1), 1) := by decide +kernel
theorem dX11_price_12 : decode cX11_price 12 = .ok (.if_icmp .ne 7, 3) := by decide +kernel
theorem dX11_price_15 : decode cX11_price 15 = .ok (.ldc_w 284, 3) := by decide +kernel
theorem dX11_price_18 : decode cX11_price 18 = .ok (.ireturn, 1) := by decide +kernel
theorem dX11_price_19 : decode cX11_price 19 = .ok (.aload_n 0, 1) := by decide +kernel
theorem dX11_price_20 : decode cX11_price 20 = .ok (.getfield 65, 3) := by decide +kernel
theorem dX11_price_23 : decode cX11_price 23 = .ok (.iload_n 1, 1) := by decide +kernel
theorem dX11_price_24 : decode cX11_price 24 = .ok (.iload_n 2, 1) := by decide +kernel
theorem dX11_price_25 : decode cX11_price 25 = .ok (.invokestatic 178, 3) := by decide +kernel
theorem dX11_price_28 : decode cX11_price 28 = .ok (.iaload, 1) := by decide +kernel
theorem dX11_price_29 : decode cX11_price 29 = .ok (.istore 4, 2) := by decide +kernel
theorem dX11_price_31 : decode cX11_price 31 = .ok (.iload 4, 2) := by decide +kernel
theorem dX11_price_33 : decode cX11_price 33 = .ok (.ifCond .ge 7, 3) := by decide +kernel
theorem dX11_price_36 : decode cX11_price 36 = .ok (.iconst 0, 1) := by decide +kernel
theorem dX11_price_37 : decode cX11_price 37 = .ok (.goto 17, 3) := by decide +kernel
theorem dX11_price_40 : decode cX11_price 40 = .ok (.iload_n 3, 1) := by decide +kernel
theorem dX11_price_41 : decode cX11_price 41 = .ok (.ifCond .eq 10, 3) := by decide +kernel
theorem dX11_price_44 : decode cX11_price 44 = .ok (.iload 4, 2) := by decide +kernel
theorem dX11_price_46 : decode cX11_price 46 = .ok (.iconst 1, 1) := by decide +kernel
theorem dX11_price_47 : decode cX11_price 47 = .ok (.iadd, 1) := by decide +kernel
theorem dX11_price_48 : decode cX11_price 48 = .ok (.goto 6, 3) := by decide +kernel
theorem dX11_price_51 : decode cX11_price 51 = .ok (.ldc_w 284, 3) := by decide +kernel
theorem dX11_price_54 : decode cX11_price 54 = .ok (.ireturn, 1) := by decide +kernel
theorem dX11_leastFrom_0 : decode cX11_leastFrom 0 = .ok (.iload_n 1, 1) := by decide +kernel
theorem dX11_leastFrom_1 : decode cX11_leastFrom 1 = .ok (.aload_n 0, 1) := by decide +kernel
theorem dX11_leastFrom_2 : decode cX11_leastFrom 2 = .ok (.getfield 133, 3) := by decide +kernel
theorem dX11_leastFrom_5 : decode cX11_leastFrom 5 = .ok (.if_icmp .ne 5, 3) := by decide +kernel
theorem dX11_leastFrom_8 : decode cX11_leastFrom 8 = .ok (.iconst 0, 1) := by decide +kernel
theorem dX11_leastFrom_9 : decode cX11_leastFrom 9 = .ok (.ireturn, 1) := by decide +kernel
theorem dX11_leastFrom_10 : decode cX11_leastFrom 10 = .ok (.aload_n 0, 1) := by decide +kernel
theorem dX11_leastFrom_11 : decode cX11_leastFrom 11 = .ok (.getfield 81, 3) := by decide +kernel
theorem dX11_leastFrom_14 : decode cX11_leastFrom 14 = .ok (.iload_n 1, 1) := by decide +kernel
theorem dX11_leastFrom_15 : decode cX11_leastFrom 15 = .ok (.bipush 8, 2) := by decide +kernel
theorem dX11_leastFrom_17 : decode cX11_leastFrom 17 = .ok (.ishl, 1) := by decide +kernel
theorem dX11_leastFrom_18 : decode cX11_leastFrom 18 = .ok (.iload_n 2, 1) := by decide +kernel
theorem dX11_leastFrom_19 : decode cX11_leastFrom 19 = .ok (.iadd, 1) := by decide +kernel
theorem dX11_leastFrom_20 : decode cX11_leastFrom 20 = .ok (.iaload, 1) := by decide +kernel
theorem dX11_leastFrom_21 : decode cX11_leastFrom 21 = .ok (.iconst (-1), 1) := by decide +kernel
theorem dX11_leastFrom_22 : decode cX11_leastFrom 22 = .ok (.if_icmp .eq 15, 3) := by decide +kernel
theorem dX11_leastFrom_25 : decode cX11_leastFrom 25 = .ok (.aload_n 0, 1) := by decide +kernel
theorem dX11_leastFrom_26 : decode cX11_leastFrom 26 = .ok (.getfield 81, 3) := by decide +kernel
theorem dX11_leastFrom_29 : decode cX11_leastFrom 29 = .ok (.iload_n 1, 1) := by decide +kernel
theorem dX11_leastFrom_30 : decode cX11_leastFrom 30 = .ok (.bipush 8, 2) := by decide +kernel
theorem dX11_leastFrom_32 : decode cX11_leastFrom 32 = .ok (.ishl, 1) := by decide +kernel
theorem dX11_leastFrom_33 : decode cX11_leastFrom 33 = .ok (.iload_n 2, 1) := by decide +kernel
theorem dX11_leastFrom_34 : decode cX11_leastFrom 34 = .ok (.iadd, 1) := by decide +kernel
theorem dX11_leastFrom_35 : decode cX11_leastFrom 35 = .ok (.iaload, 1) := by decide +kernel
theorem dX11_leastFrom_36 : decode cX11_leastFrom 36 = .ok (.ireturn, 1) := by decide +kernel
theorem dX11_leastFrom_37 : decode cX11_leastFrom 37 = .ok (.iload_n 3, 1) := by decide +kernel
theorem dX11_leastFrom_38 : decode cX11_leastFrom 38 = .ok (.aload_n 0, 1) := by decide +kernel
theorem dX11_leastFrom_39 : decode cX11_leastFrom 39 = .ok (.iload_n 1, 1) := by decide +kernel
theorem dX11_leastFrom_40 : decode cX11_leastFrom 40 = .ok (.iconst 1, 1) := by decide +kernel
theorem dX11_leastFrom_41 : decode cX11_leastFrom 41 = .ok (.iadd, 1) := by decide +kernel
theorem dX11_leastFrom_42 : decode cX11_leastFrom 42 = .ok (.iload_n 2, 1) := by decide +kernel
theorem dX11_leastFrom_43 : decode cX11_leastFrom 43 = .ok (.iload_n 3, 1) := by decide +kernel
theorem dX11_leastFrom_44 : decode cX11_leastFrom 44 = .ok (.iload 4, 2) := by decide +kernel
theorem dX11_leastFrom_46 : decode cX11_leastFrom 46 = .ok (.invokevirtual 285, 3) := by decide +kernel
theorem dX11_leastFrom_49 : decode cX11_leastFrom 49 = .ok (.iadd, 1) := by decide +kernel
theorem dX11_leastFrom_50 : decode cX11_leastFrom 50 = .ok (.istore 5, 2) := by decide +kernel
theorem dX11_leastFrom_52 : decode cX11_leastFrom 52 = .ok (.iconst 0, 1) := by decide +kernel
theorem dX11_leastFrom_53 : decode cX11_leastFrom 53 = .ok (.istore 6, 2) := by decide +kernel
theorem dX11_leastFrom_55 : decode cX11_leastFrom 55 = .ok (.iload 6, 2) := by decide +kernel
theorem dX11_leastFrom_57 : decode cX11_leastFrom 57 = .ok (.aload_n 0, 1) := by decide +kernel
theorem dX11_leastFrom_58 : decode cX11_leastFrom 58 = .ok (.getfield 133, 3) := by decide +kernel
theorem dX11_leastFrom_61 : decode cX11_leastFrom 61 = .ok (.if_icmp .ge 66, 3) := by decide +kernel
theorem dX11_leastFrom_64 : decode cX11_leastFrom 64 = .ok (.aload_n 0, 1) := by decide +kernel
theorem dX11_leastFrom_65 : decode cX11_leastFrom 65 = .ok (.iload 6, 2) := by decide +kernel
theorem dX11_leastFrom_67 : decode cX11_leastFrom 67 = .ok (.iload_n 1, 1) := by decide +kernel
theorem dX11_leastFrom_68 : decode cX11_leastFrom 68 = .ok (.iload 4, 2) := by decide +kernel
theorem dX11_leastFrom_70 : decode cX11_leastFrom 70 = .ok (.invokevirtual 289, 3) := by decide +kernel
theorem dX11_leastFrom_73 : decode cX11_leastFrom 73 = .ok (.istore 7, 2) := by decide +kernel
theorem dX11_leastFrom_75 : decode cX11_leastFrom 75 = .ok (.iload_n 2, 1) := by decide +kernel
theorem dX11_leastFrom_76 : decode cX11_leastFrom 76 = .ok (.iload 6, 2) := by decide +kernel
theorem dX11_leastFrom_78 : decode cX11_leastFrom 78 = .ok (.ishr, 1) := by decide +kernel
theorem dX11_leastFrom_79 : decode cX11_leastFrom 79 = .ok (.iconst 1, 1) := by decide +kernel
theorem dX11_leastFrom_80 : decode cX11_leastFrom 80 = .ok (.iand, 1) := by decide +kernel
theorem dX11_leastFrom_81 : decode cX11_leastFrom 81 = .ok (.iconst 1, 1) := by decide +kernel
theorem dX11_leastFrom_82 : decode cX11_leastFrom 82 = .ok (.if_icmp .ne 39, 3) := by decide +kernel
theorem dX11_leastFrom_85 : decode cX11_leastFrom 85 = .ok (.iload 7, 2) := by decide +kernel
theorem dX11_leastFrom_87 : decode cX11_leastFrom 87 = .ok (.ldc_w 284, 3) := by decide +kernel
theorem dX11_leastFrom_90 : decode cX11_leastFrom 90 = .ok (.if_icmp .ge 31, 3) := by decide +kernel
theorem dX11_leastFrom_93 : decode cX11_leastFrom 93 = .ok (.iload 5, 2) := by decide +kernel
theorem dX11_leastFrom_95 : decode cX11_leastFrom 95 = .ok (.iload 7, 2) := by decide +kernel
theorem dX11_leastFrom_97 : decode cX11_leastFrom 97 = .ok (.aload_n 0, 1) := by decide +kernel
theorem dX11_leastFrom_98 : decode cX11_leastFrom 98 = .ok (.iload_n 1, 1) := by decide +kernel
theorem dX11_leastFrom_99 : decode cX11_leastFrom 99 = .ok (.iconst 1, 1) := by decide +kernel
theorem dX11_leastFrom_100 : decode cX11_leastFrom 100 = .ok (.iadd, 1) := by decide +kernel
theorem dX11_leastFrom_101 : decode cX11_leastFrom 101 = .ok (.iload_n 2, 1) := by decide +kernel
theorem dX11_leastFrom_102 : decode cX11_leastFrom 102 = .ok (.iconst 1, 1) := by decide +kernel
theorem dX11_leastFrom_103 : decode cX11_leastFrom 103 = .ok (.iload 6, 2) := by decide +kernel
theorem dX11_leastFrom_105 : decode cX11_leastFrom 105 = .ok (.ishl, 1) := by decide +kernel
theorem dX11_leastFrom_106 : decode cX11_leastFrom 106 = .ok (.iconst (-1), 1) := by decide +kernel
theorem dX11_leastFrom_107 : decode cX11_leastFrom 107 = .ok (.ixor, 1) := by decide +kernel
theorem dX11_leastFrom_108 : decode cX11_leastFrom 108 = .ok (.iand, 1) := by decide +kernel
theorem dX11_leastFrom_109 : decode cX11_leastFrom 109 = .ok (.iload_n 3, 1) := by decide +kernel
theorem dX11_leastFrom_110 : decode cX11_leastFrom 110 = .ok (.iload 4, 2) := by decide +kernel
theorem dX11_leastFrom_112 : decode cX11_leastFrom 112 = .ok (.invokevirtual 285, 3) := by decide +kernel
theorem dX11_leastFrom_115 : decode cX11_leastFrom 115 = .ok (.iadd, 1) := by decide +kernel
theorem dX11_leastFrom_116 : decode cX11_leastFrom 116 = .ok (.invokestatic 265, 3) := by decide +kernel
theorem dX11_leastFrom_119 : decode cX11_leastFrom 119 = .ok (.istore 5, 2) := by decide +kernel
theorem dX11_leastFrom_121 : decode cX11_leastFrom 121 = .ok (.iinc 6 1, 3) := by decide +kernel
theorem dX11_leastFrom_124 : decode cX11_leastFrom 124 = .ok (.goto (-69), 3) := by decide +kernel
theorem dX11_leastFrom_127 : decode cX11_leastFrom 127 = .ok (.aload_n 0, 1) := by decide +kernel
theorem dX11_leastFrom_128 : decode cX11_leastFrom 128 = .ok (.getfield 81, 3) := by decide +kernel
theorem dX11_leastFrom_131 : decode cX11_leastFrom 131 = .ok (.iload_n 1, 1) := by decide +kernel
theorem dX11_leastFrom_132 : decode cX11_leastFrom 132 = .ok (.bipush 8, 2) := by decide +kernel
theorem dX11_leastFrom_134 : decode cX11_leastFrom 134 = .ok (.ishl, 1) := by decide +kernel
theorem dX11_leastFrom_135 : decode cX11_leastFrom 135 = .ok (.iload_n 2, 1) := by decide +kernel
theorem dX11_leastFrom_136 : decode cX11_leastFrom 136 = .ok (.iadd, 1) := by decide +kernel
theorem dX11_leastFrom_137 : decode cX11_leastFrom 137 = .ok (.iload 5, 2) := by decide +kernel
theorem dX11_leastFrom_139 : decode cX11_leastFrom 139 = .ok (.ldc_w 284, 3) := by decide +kernel
theorem dX11_leastFrom_142 : decode cX11_leastFrom 142 = .ok (.invokestatic 265, 3) := by decide +kernel
theorem dX11_leastFrom_145 : decode cX11_leastFrom 145 = .ok (.iastore, 1) := by decide +kernel
theorem dX11_leastFrom_146 : decode cX11_leastFrom 146 = .ok (.aload_n 0, 1) := by decide +kernel
theorem dX11_leastFrom_147 : decode cX11_leastFrom 147 = .ok (.getfield 81, 3) := by decide +kernel
theorem dX11_leastFrom_150 : decode cX11_leastFrom 150 = .ok (.iload_n 1, 1) := by decide +kernel
theorem dX11_leastFrom_151 : decode cX11_leastFrom 151 = .ok (.bipush 8, 2) := by decide +kernel
theorem dX11_leastFrom_153 : decode cX11_leastFrom 153 = .ok (.ishl, 1) := by decide +kernel
theorem dX11_leastFrom_154 : decode cX11_leastFrom 154 = .ok (.iload_n 2, 1) := by decide +kernel
theorem dX11_leastFrom_155 : decode cX11_leastFrom 155 = .ok (.iadd, 1) := by decide +kernel
theorem dX11_leastFrom_156 : decode cX11_leastFrom 156 = .ok (.iaload, 1) := by decide +kernel
theorem dX11_leastFrom_157 : decode cX11_leastFrom 157 = .ok (.ireturn, 1) := by decide +kernel
theorem dX11_planned_0 : decode cX11_planned 0 = .ok (.iconst 0, 1) := by decide +kernel
theorem dX11_planned_1 : decode cX11_planned 1 = .ok (.istore_n 3, 1) := by decide +kernel
theorem dX11_planned_2 : decode cX11_planned 2 = .ok (.iload_n 3, 1) := by decide +kernel
theorem dX11_planned_3 : decode cX11_planned 3 = .ok (.aload_n 0, 1) := by decide +kernel
theorem dX11_planned_4 : decode cX11_planned 4 = .ok (.getfield 81, 3) := by decide +kernel
theorem dX11_planned_7 : decode cX11_planned 7 = .ok (.arraylength, 1) := by decide +kernel
theorem dX11_planned_8 : decode cX11_planned 8 = .ok (.if_icmp .ge 16, 3) := by decide +kernel
theorem dX11_planned_11 : decode cX11_planned 11 = .ok (.aload_n 0, 1) := by decide +kernel
theorem dX11_planned_12 : decode cX11_planned 12 = .ok (.getfield 81, 3) := by decide +kernel
theorem dX11_planned_15 : decode cX11_planned 15 = .ok (.iload_n 3, 1) := by decide +kernel
theorem dX11_planned_16 : decode cX11_planned 16 = .ok (.iconst (-1), 1) := by decide +kernel
theorem dX11_planned_17 : decode cX11_planned 17 = .ok (.iastore, 1) := by decide +kernel
theorem dX11_planned_18 : decode cX11_planned 18 = .ok (.iinc 3 1, 3) := by decide +kernel
theorem dX11_planned_21 : decode cX11_planned 21 = .ok (.goto (-19), 3) := by decide +kernel
theorem dX11_planned_24 : decode cX11_planned 24 = .ok (.iconst 1, 1) := by decide +kernel
theorem dX11_planned_25 : decode cX11_planned 25 = .ok (.aload_n 0, 1) := by decide +kernel
theorem dX11_planned_26 : decode cX11_planned 26 = .ok (.getfield 133, 3) := by decide +kernel
theorem dX11_planned_29 : decode cX11_planned 29 = .ok (.ishl, 1) := by decide +kernel
theorem dX11_planned_30 : decode cX11_planned 30 = .ok (.iconst 1, 1) := by decide +kernel
theorem dX11_planned_31 : decode cX11_planned 31 = .ok (.isub, 1) := by decide +kernel
theorem dX11_planned_32 : decode cX11_planned 32 = .ok (.istore_n 3, 1) := by decide +kernel
theorem dX11_planned_33 : decode cX11_planned 33 = .ok (.aload_n 0, 1) := by decide +kernel
theorem dX11_planned_34 : decode cX11_planned 34 = .ok (.iconst 0, 1) := by decide +kernel
theorem dX11_planned_35 : decode cX11_planned 35 = .ok (.iload_n 3, 1) := by decide +kernel
theorem dX11_planned_36 : decode cX11_planned 36 = .ok (.iload_n 1, 1) := by decide +kernel
theorem dX11_planned_37 : decode cX11_planned 37 = .ok (.iload_n 2, 1) := by decide +kernel
theorem dX11_planned_38 : decode cX11_planned 38 = .ok (.invokevirtual 285, 3) := by decide +kernel
theorem dX11_planned_41 : decode cX11_planned 41 = .ok (.istore 4, 2) := by decide +kernel
theorem dX11_planned_43 : decode cX11_planned 43 = .ok (.iload 4, 2) := by decide +kernel
theorem dX11_planned_45 : decode cX11_planned 45 = .ok (.istore 5, 2) := by decide +kernel
theorem dX11_planned_47 : decode cX11_planned 47 = .ok (.iconst 0, 1) := by decide +kernel
theorem dX11_planned_48 : decode cX11_planned 48 = .ok (.istore 6, 2) := by decide +kernel
theorem dX11_planned_50 : decode cX11_planned 50 = .ok (.iload 6, 2) := by decide +kernel
theorem dX11_planned_52 : decode cX11_planned 52 = .ok (.aload_n 0, 1) := by decide +kernel
theorem dX11_planned_53 : decode cX11_planned 53 = .ok (.getfield 133, 3) := by decide +kernel
theorem dX11_planned_56 : decode cX11_planned 56 = .ok (.if_icmp .ge 158, 3) := by decide +kernel
theorem dX11_planned_59 : decode cX11_planned 59 = .ok (.iload 4, 2) := by decide +kernel
theorem dX11_planned_61 : decode cX11_planned 61 = .ok (.ldc_w 284, 3) := by decide +kernel
theorem dX11_planned_64 : decode cX11_planned 64 = .ok (.if_icmp .ge 150, 3) := by decide +kernel
theorem dX11_planned_67 : decode cX11_planned 67 = .ok (.aload_n 0, 1) := by decide +kernel
theorem dX11_planned_68 : decode cX11_planned 68 = .ok (.getfield 84, 3) := by decide +kernel
theorem dX11_planned_71 : decode cX11_planned 71 = .ok (.iload 6, 2) := by decide +kernel
theorem dX11_planned_73 : decode cX11_planned 73 = .ok (.bipush 8, 2) := by decide +kernel
theorem dX11_planned_75 : decode cX11_planned 75 = .ok (.iastore, 1) := by decide +kernel
theorem dX11_planned_76 : decode cX11_planned 76 = .ok (.iconst 0, 1) := by decide +kernel
theorem dX11_planned_77 : decode cX11_planned 77 = .ok (.istore 7, 2) := by decide +kernel
theorem dX11_planned_79 : decode cX11_planned 79 = .ok (.iload 7, 2) := by decide +kernel
theorem dX11_planned_81 : decode cX11_planned 81 = .ok (.aload_n 0, 1) := by decide +kernel
theorem dX11_planned_82 : decode cX11_planned 82 = .ok (.getfield 133, 3) := by decide +kernel
theorem dX11_planned_85 : decode cX11_planned 85 = .ok (.if_icmp .ge 101, 3) := by decide +kernel
theorem dX11_planned_88 : decode cX11_planned 88 = .ok (.aload_n 0, 1) := by decide +kernel
theorem dX11_planned_89 : decode cX11_planned 89 = .ok (.getfield 84, 3) := by decide +kernel
theorem dX11_planned_92 : decode cX11_planned 92 = .ok (.iload 6, 2) := by decide +kernel
theorem dX11_planned_94 : decode cX11_planned 94 = .ok (.iaload, 1) := by decide +kernel
theorem dX11_planned_95 : decode cX11_planned 95 = .ok (.bipush 8, 2) := by decide +kernel
theorem dX11_planned_97 : decode cX11_planned 97 = .ok (.if_icmp .ne 89, 3) := by decide +kernel
theorem dX11_planned_100 : decode cX11_planned 100 = .ok (.aload_n 0, 1) := by decide +kernel
theorem dX11_planned_101 : decode cX11_planned 101 = .ok (.iload 7, 2) := by decide +kernel
theorem dX11_planned_103 : decode cX11_planned 103 = .ok (.iload 6, 2) := by decide +kernel
theorem dX11_planned_105 : decode cX11_planned 105 = .ok (.iload_n 2, 1) := by decide +kernel
theorem dX11_planned_106 : decode cX11_planned 106 = .ok (.invokevirtual 289, 3) := by decide +kernel
theorem dX11_planned_109 : decode cX11_planned 109 = .ok (.istore 8, 2) := by decide +kernel
theorem dX11_planned_111 : decode cX11_planned 111 = .ok (.iload_n 3, 1) := by decide +kernel
theorem dX11_planned_112 : decode cX11_planned 112 = .ok (.iload 7, 2) := by decide +kernel
theorem dX11_planned_114 : decode cX11_planned 114 = .ok (.ishr, 1) := by decide +kernel
theorem dX11_planned_115 : decode cX11_planned 115 = .ok (.iconst 1, 1) := by decide +kernel
theorem dX11_planned_116 : decode cX11_planned 116 = .ok (.iand, 1) := by decide +kernel
theorem dX11_planned_117 : decode cX11_planned 117 = .ok (.iconst 1, 1) := by decide +kernel
theorem dX11_planned_118 : decode cX11_planned 118 = .ok (.if_icmp .ne 62, 3) := by decide +kernel
theorem dX11_planned_121 : decode cX11_planned 121 = .ok (.iload 8, 2) := by decide +kernel
theorem dX11_planned_123 : decode cX11_planned 123 = .ok (.ldc_w 284, 3) := by decide +kernel
theorem dX11_planned_126 : decode cX11_planned 126 = .ok (.if_icmp .ge 54, 3) := by decide +kernel
theorem dX11_planned_129 : decode cX11_planned 129 = .ok (.iload 8, 2) := by decide +kernel
theorem dX11_planned_131 : decode cX11_planned 131 = .ok (.aload_n 0, 1) := by decide +kernel
theorem dX11_planned_132 : decode cX11_planned 132 = .ok (.iload 6, 2) := by decide +kernel
theorem dX11_planned_134 : decode cX11_planned 134 = .ok (.iconst 1, 1) := by decide +kernel
theorem dX11_planned_135 : decode cX11_planned 135 = .ok (.iadd, 1) := by decide +kernel
theorem dX11_planned_136 : decode cX11_planned 136 = .ok (.iload_n 3, 1) := by decide +kernel
theorem dX11_planned_137 : decode cX11_planned 137 = .ok (.iconst 1, 1) := by decide +kernel
theorem dX11_planned_138 : decode cX11_planned 138 = .ok (.iload 7, 2) := by decide +kernel
theorem dX11_planned_140 : decode cX11_planned 140 = .ok (.ishl, 1) := by decide +kernel
theorem dX11_planned_141 : decode cX11_planned 141 = .ok (.iconst (-1), 1) := by decide +kernel
theorem dX11_planned_142 : decode cX11_planned 142 = .ok (.ixor, 1) := by decide +kernel
theorem dX11_planned_143 : decode cX11_planned 143 = .ok (.iand, 1) := by decide +kernel
theorem dX11_planned_144 : decode cX11_planned 144 = .ok (.iload_n 1, 1) := by decide +kernel
theorem dX11_planned_145 : decode cX11_planned 145 = .ok (.iload_n 2, 1) := by decide +kernel
theorem dX11_planned_146 : decode cX11_planned 146 = .ok (.invokevirtual 285, 3) := by decide +kernel
theorem dX11_planned_149 : decode cX11_planned 149 = .ok (.iadd, 1) := by decide +kernel
theorem dX11_planned_150 : decode cX11_planned 150 = .ok (.iload 5, 2) := by decide +kernel
theorem dX11_planned_152 : decode cX11_planned 152 = .ok (.if_icmp .ne 28, 3) := by decide +kernel
theorem dX11_planned_155 : decode cX11_planned 155 = .ok (.aload_n 0, 1) := by decide +kernel
theorem dX11_planned_156 : decode cX11_planned 156 = .ok (.getfield 84, 3) := by decide +kernel
theorem dX11_planned_159 : decode cX11_planned 159 = .ok (.iload 6, 2) := by decide +kernel
theorem dX11_planned_161 : decode cX11_planned 161 = .ok (.iload 7, 2) := by decide +kernel
theorem dX11_planned_163 : decode cX11_planned 163 = .ok (.iastore, 1) := by decide +kernel
theorem dX11_planned_164 : decode cX11_planned 164 = .ok (.iload 5, 2) := by decide +kernel
theorem dX11_planned_166 : decode cX11_planned 166 = .ok (.iload 8, 2) := by decide +kernel
theorem dX11_planned_168 : decode cX11_planned 168 = .ok (.isub, 1) := by decide +kernel
theorem dX11_planned_169 : decode cX11_planned 169 = .ok (.istore 5, 2) := by decide +kernel
theorem dX11_planned_171 : decode cX11_planned 171 = .ok (.iload_n 3, 1) := by decide +kernel
theorem dX11_planned_172 : decode cX11_planned 172 = .ok (.iconst 1, 1) := by decide +kernel
theorem dX11_planned_173 : decode cX11_planned 173 = .ok (.iload 7, 2) := by decide +kernel
theorem dX11_planned_175 : decode cX11_planned 175 = .ok (.ishl, 1) := by decide +kernel
theorem dX11_planned_176 : decode cX11_planned 176 = .ok (.iconst (-1), 1) := by decide +kernel
theorem dX11_planned_177 : decode cX11_planned 177 = .ok (.ixor, 1) := by decide +kernel
theorem dX11_planned_178 : decode cX11_planned 178 = .ok (.iand, 1) := by decide +kernel
theorem dX11_planned_179 : decode cX11_planned 179 = .ok (.istore_n 3, 1) := by decide +kernel
theorem dX11_planned_180 : decode cX11_planned 180 = .ok (.iinc 7 1, 3) := by decide +kernel
theorem dX11_planned_183 : decode cX11_planned 183 = .ok (.goto (-104), 3) := by decide +kernel
theorem dX11_planned_186 : decode cX11_planned 186 = .ok (.iload 5, 2) := by decide +kernel
theorem dX11_planned_188 : decode cX11_planned 188 = .ok (.aload_n 0, 1) := by decide +kernel
theorem dX11_planned_189 : decode cX11_planned 189 = .ok (.getfield 84, 3) := by decide +kernel
theorem dX11_planned_192 : decode cX11_planned 192 = .ok (.iload 6, 2) := by decide +kernel
theorem dX11_planned_194 : decode cX11_planned 194 = .ok (.iaload, 1) := by decide +kernel
theorem dX11_planned_195 : decode cX11_planned 195 = .ok (.bipush 8, 2) := by decide +kernel
theorem dX11_planned_197 : decode cX11_planned 197 = .ok (.if_icmp .ne 7, 3) := by decide +kernel
theorem dX11_planned_200 : decode cX11_planned 200 = .ok (.iload_n 1, 1) := by decide +kernel
theorem dX11_planned_201 : decode cX11_planned 201 = .ok (.goto 4, 3) := by decide +kernel
theorem dX11_planned_204 : decode cX11_planned 204 = .ok (.iconst 0, 1) := by decide +kernel
theorem dX11_planned_205 : decode cX11_planned 205 = .ok (.isub, 1) := by decide +kernel
theorem dX11_planned_206 : decode cX11_planned 206 = .ok (.istore 5, 2) := by decide +kernel
theorem dX11_planned_208 : decode cX11_planned 208 = .ok (.iinc 6 1, 3) := by decide +kernel
theorem dX11_planned_211 : decode cX11_planned 211 = .ok (.goto (-161), 3) := by decide +kernel
theorem dX11_planned_214 : decode cX11_planned 214 = .ok (.iload 4, 2) := by decide +kernel
theorem dX11_planned_216 : decode cX11_planned 216 = .ok (.ireturn, 1) := by decide +kernel
theorem dX11_paired_0 : decode cX11_paired 0 = .ok (.iload_n 1, 1) := by decide +kernel
theorem dX11_paired_1 : decode cX11_paired 1 = .ok (.iconst (-1), 1) := by decide +kernel
theorem dX11_paired_2 : decode cX11_paired 2 = .ok (.if_icmp .eq 14, 3) := by decide +kernel
theorem dX11_paired_5 : decode cX11_paired 5 = .ok (.aload_n 0, 1) := by decide +kernel
theorem dX11_paired_6 : decode cX11_paired 6 = .ok (.iload_n 1, 1) := by decide +kernel
theorem dX11_paired_7 : decode cX11_paired 7 = .ok (.i2l, 1) := by decide +kernel
theorem dX11_paired_8 : decode cX11_paired 8 = .ok (.invokevirtual 140, 3) := by decide +kernel
theorem dX11_paired_11 : decode cX11_paired 11 = .ok (.ifCond .ne 5, 3) := by decide +kernel
theorem dX11_paired_14 : decode cX11_paired 14 = .ok (.iconst (-1), 1) := by decide +kernel
theorem dX11_paired_15 : decode cX11_paired 15 = .ok (.ireturn, 1) := by decide +kernel
theorem dX11_paired_16 : decode cX11_paired 16 = .ok (.aload_n 0, 1) := by decide +kernel
theorem dX11_paired_17 : decode cX11_paired 17 = .ok (.invokevirtual 293, 3) := by decide +kernel
theorem dX11_paired_20 : decode cX11_paired 20 = .ok (.aload_n 0, 1) := by decide +kernel
theorem dX11_paired_21 : decode cX11_paired 21 = .ok (.iconst 1, 1) := by decide +kernel
theorem dX11_paired_22 : decode cX11_paired 22 = .ok (.iconst 0, 1) := by decide +kernel
theorem dX11_paired_23 : decode cX11_paired 23 = .ok (.invokevirtual 296, 3) := by decide +kernel
theorem dX11_paired_26 : decode cX11_paired 26 = .ok (.istore_n 2, 1) := by decide +kernel
theorem dX11_paired_27 : decode cX11_paired 27 = .ok (.iload_n 1, 1) := by decide +kernel
theorem dX11_paired_28 : decode cX11_paired 28 = .ok (.iconst (-1), 1) := by decide +kernel
theorem dX11_paired_29 : decode cX11_paired 29 = .ok (.if_icmp .ne 12, 3) := by decide +kernel
theorem dX11_paired_32 : decode cX11_paired 32 = .ok (.aload_n 0, 1) := by decide +kernel
theorem dX11_paired_33 : decode cX11_paired 33 = .ok (.getfield 133, 3) := by decide +kernel
theorem dX11_paired_36 : decode cX11_paired 36 = .ok (.iload_n 2, 1) := by decide +kernel
theorem dX11_paired_37 : decode cX11_paired 37 = .ok (.isub, 1) := by decide +kernel
theorem dX11_paired_38 : decode cX11_paired 38 = .ok (.goto 9, 3) := by decide +kernel
theorem dX11_paired_41 : decode cX11_paired 41 = .ok (.aload_n 0, 1) := by decide +kernel
theorem dX11_paired_42 : decode cX11_paired 42 = .ok (.getfield 84, 3) := by decide +kernel
theorem dX11_paired_45 : decode cX11_paired 45 = .ok (.iload_n 1, 1) := by decide +kernel
theorem dX11_paired_46 : decode cX11_paired 46 = .ok (.iaload, 1) := by decide +kernel
theorem dX11_paired_47 : decode cX11_paired 47 = .ok (.ireturn, 1) := by decide +kernel
theorem dX11_harm_0 : decode cX11_harm 0 = .ok (.iload_n 1, 1) := by decide +kernel
theorem dX11_harm_1 : decode cX11_harm 1 = .ok (.iconst (-1), 1) := by decide +kernel
theorem dX11_harm_2 : decode cX11_harm 2 = .ok (.if_icmp .eq 14, 3) := by decide +kernel
theorem dX11_harm_5 : decode cX11_harm 5 = .ok (.aload_n 0, 1) := by decide +kernel
theorem dX11_harm_6 : decode cX11_harm 6 = .ok (.iload_n 1, 1) := by decide +kernel
theorem dX11_harm_7 : decode cX11_harm 7 = .ok (.i2l, 1) := by decide +kernel
theorem dX11_harm_8 : decode cX11_harm 8 = .ok (.invokevirtual 140, 3) := by decide +kernel
theorem dX11_harm_11 : decode cX11_harm 11 = .ok (.ifCond .ne 5, 3) := by decide +kernel
theorem dX11_harm_14 : decode cX11_harm 14 = .ok (.iconst (-1), 1) := by decide +kernel
theorem dX11_harm_15 : decode cX11_harm 15 = .ok (.ireturn, 1) := by decide +kernel
theorem dX11_harm_16 : decode cX11_harm 16 = .ok (.aload_n 0, 1) := by decide +kernel
theorem dX11_harm_17 : decode cX11_harm 17 = .ok (.invokevirtual 293, 3) := by decide +kernel
theorem dX11_harm_20 : decode cX11_harm 20 = .ok (.aload_n 0, 1) := by decide +kernel
theorem dX11_harm_21 : decode cX11_harm 21 = .ok (.ldc_w 284, 3) := by decide +kernel
theorem dX11_harm_24 : decode cX11_harm 24 = .ok (.iconst 1, 1) := by decide +kernel
theorem dX11_harm_25 : decode cX11_harm 25 = .ok (.invokevirtual 296, 3) := by decide +kernel
theorem dX11_harm_28 : decode cX11_harm 28 = .ok (.istore_n 2, 1) := by decide +kernel
theorem dX11_harm_29 : decode cX11_harm 29 = .ok (.iload_n 2, 1) := by decide +kernel
theorem dX11_harm_30 : decode cX11_harm 30 = .ok (.ldc_w 284, 3) := by decide +kernel
theorem dX11_harm_33 : decode cX11_harm 33 = .ok (.if_icmp .lt 6, 3) := by decide +kernel
theorem dX11_harm_36 : decode cX11_harm 36 = .ok (.bipush (-2), 2) := by decide +kernel
theorem dX11_harm_38 : decode cX11_harm 38 = .ok (.ireturn, 1) := by decide +kernel
theorem dX11_harm_39 : decode cX11_harm 39 = .ok (.iload_n 1, 1) := by decide +kernel
theorem dX11_harm_40 : decode cX11_harm 40 = .ok (.iconst (-1), 1) := by decide +kernel
theorem dX11_harm_41 : decode cX11_harm 41 = .ok (.if_icmp .ne 7, 3) := by decide +kernel
theorem dX11_harm_44 : decode cX11_harm 44 = .ok (.iload_n 2, 1) := by decide +kernel
theorem dX11_harm_45 : decode cX11_harm 45 = .ok (.goto 9, 3) := by decide +kernel
theorem dX11_harm_48 : decode cX11_harm 48 = .ok (.aload_n 0, 1) := by decide +kernel
theorem dX11_harm_49 : decode cX11_harm 49 = .ok (.getfield 84, 3) := by decide +kernel
theorem dX11_harm_52 : decode cX11_harm 52 = .ok (.iload_n 1, 1) := by decide +kernel
theorem dX11_harm_53 : decode cX11_harm 53 = .ok (.iaload, 1) := by decide +kernel
theorem dX11_harm_54 : decode cX11_harm 54 = .ok (.ireturn, 1) := by decide +kernel
theorem dX11_manyFor_0 : decode cX11_manyFor 0 = .ok (.iconst 0, 1) := by decide +kernel
theorem dX11_manyFor_1 : decode cX11_manyFor 1 = .ok (.istore_n 3, 1) := by decide +kernel
theorem dX11_manyFor_2 : decode cX11_manyFor 2 = .ok (.iconst 0, 1) := by decide +kernel
theorem dX11_manyFor_3 : decode cX11_manyFor 3 = .ok (.istore 4, 2) := by decide +kernel
theorem dX11_manyFor_5 : decode cX11_manyFor 5 = .ok (.iload 4, 2) := by decide +kernel
theorem dX11_manyFor_7 : decode cX11_manyFor 7 = .ok (.aload_n 0, 1) := by decide +kernel
theorem dX11_manyFor_8 : decode cX11_manyFor 8 = .ok (.getfield 133, 3) := by decide +kernel
theorem dX11_manyFor_11 : decode cX11_manyFor 11 = .ok (.if_icmp .ge 33, 3) := by decide +kernel
theorem dX11_manyFor_14 : decode cX11_manyFor 14 = .ok (.iload_n 3, 1) := by decide +kernel
theorem dX11_manyFor_15 : decode cX11_manyFor 15 = .ok (.iload_n 2, 1) := by decide +kernel
theorem dX11_manyFor_16 : decode cX11_manyFor 16 = .ok (.aload_n 0, 1) := by decide +kernel
theorem dX11_manyFor_17 : decode cX11_manyFor 17 = .ok (.getfield 9, 3) := by decide +kernel
theorem dX11_manyFor_20 : decode cX11_manyFor 20 = .ok (.iload 4, 2) := by decide +kernel
theorem dX11_manyFor_22 : decode cX11_manyFor 22 = .ok (.iload_n 1, 1) := by decide +kernel
theorem dX11_manyFor_23 : decode cX11_manyFor 23 = .ok (.invokestatic 178, 3) := by decide +kernel
theorem dX11_manyFor_26 : decode cX11_manyFor 26 = .ok (.iaload, 1) := by decide +kernel
theorem dX11_manyFor_27 : decode cX11_manyFor 27 = .ok (.imul, 1) := by decide +kernel
theorem dX11_manyFor_28 : decode cX11_manyFor 28 = .ok (.ifCond .le 7, 3) := by decide +kernel
theorem dX11_manyFor_31 : decode cX11_manyFor 31 = .ok (.iconst 1, 1) := by decide +kernel
theorem dX11_manyFor_32 : decode cX11_manyFor 32 = .ok (.goto 4, 3) := by decide +kernel
theorem dX11_manyFor_35 : decode cX11_manyFor 35 = .ok (.iconst 0, 1) := by decide +kernel
theorem dX11_manyFor_36 : decode cX11_manyFor 36 = .ok (.iadd, 1) := by decide +kernel
theorem dX11_manyFor_37 : decode cX11_manyFor 37 = .ok (.istore_n 3, 1) := by decide +kernel
theorem dX11_manyFor_38 : decode cX11_manyFor 38 = .ok (.iinc 4 1, 3) := by decide +kernel
theorem dX11_manyFor_41 : decode cX11_manyFor 41 = .ok (.goto (-36), 3) := by decide +kernel
theorem dX11_manyFor_44 : decode cX11_manyFor 44 = .ok (.iload_n 3, 1) := by decide +kernel
theorem dX11_manyFor_45 : decode cX11_manyFor 45 = .ok (.ireturn, 1) := by decide +kernel
theorem dX11_lacks_0 : decode cX11_lacks 0 = .ok (.iload_n 2, 1) := by decide +kernel
theorem dX11_lacks_1 : decode cX11_lacks 1 = .ok (.ifCond .ne 50, 3) := by decide +kernel
theorem dX11_lacks_4 : decode cX11_lacks 4 = .ok (.iload_n 1, 1) := by decide +kernel
theorem dX11_lacks_5 : decode cX11_lacks 5 = .ok (.ifCond .ne 46, 3) := by decide +kernel
theorem dX11_lacks_8 : decode cX11_lacks 8 = .ok (.iconst 0, 1) := by decide +kernel
theorem dX11_lacks_9 : decode cX11_lacks 9 = .ok (.istore_n 3, 1) := by decide +kernel
theorem dX11_lacks_10 : decode cX11_lacks 10 = .ok (.iconst 0, 1) := by decide +kernel
theorem dX11_lacks_11 : decode cX11_lacks 11 = .ok (.istore 4, 2) := by decide +kernel
theorem dX11_lacks_13 : decode cX11_lacks 13 = .ok (.iload 4, 2) := by decide +kernel
theorem dX11_lacks_15 : decode cX11_lacks 15 = .ok (.aload_n 0, 1) := by decide +kernel
theorem dX11_lacks_16 : decode cX11_lacks 16 = .ok (.getfield 133, 3) := by decide +kernel
theorem dX11_lacks_19 : decode cX11_lacks 19 = .ok (.if_icmp .ge 30, 3) := by decide +kernel
theorem dX11_lacks_22 : decode cX11_lacks 22 = .ok (.iload_n 3, 1) := by decide +kernel
theorem dX11_lacks_23 : decode cX11_lacks 23 = .ok (.aload_n 0, 1) := by decide +kernel
theorem dX11_lacks_24 : decode cX11_lacks 24 = .ok (.iload 4, 2) := by decide +kernel
theorem dX11_lacks_26 : decode cX11_lacks 26 = .ok (.iconst 1, 1) := by decide +kernel
theorem dX11_lacks_27 : decode cX11_lacks 27 = .ok (.invokevirtual 300, 3) := by decide +kernel
theorem dX11_lacks_30 : decode cX11_lacks 30 = .ok (.ifCond .ne 10, 3) := by decide +kernel
theorem dX11_lacks_33 : decode cX11_lacks 33 = .ok (.iconst 1, 1) := by decide +kernel
theorem dX11_lacks_34 : decode cX11_lacks 34 = .ok (.iload 4, 2) := by decide +kernel
theorem dX11_lacks_36 : decode cX11_lacks 36 = .ok (.ishl, 1) := by decide +kernel
theorem dX11_lacks_37 : decode cX11_lacks 37 = .ok (.goto 4, 3) := by decide +kernel
theorem dX11_lacks_40 : decode cX11_lacks 40 = .ok (.iconst 0, 1) := by decide +kernel
theorem dX11_lacks_41 : decode cX11_lacks 41 = .ok (.ior, 1) := by decide +kernel
theorem dX11_lacks_42 : decode cX11_lacks 42 = .ok (.istore_n 3, 1) := by decide +kernel
theorem dX11_lacks_43 : decode cX11_lacks 43 = .ok (.iinc 4 1, 3) := by decide +kernel
theorem dX11_lacks_46 : decode cX11_lacks 46 = .ok (.goto (-33), 3) := by decide +kernel
theorem dX11_lacks_49 : decode cX11_lacks 49 = .ok (.iload_n 3, 1) := by decide +kernel
theorem dX11_lacks_50 : decode cX11_lacks 50 = .ok (.ireturn, 1) := by decide +kernel
theorem dX11_lacks_51 : decode cX11_lacks 51 = .ok (.iload_n 2, 1) := by decide +kernel
theorem dX11_lacks_52 : decode cX11_lacks 52 = .ok (.i2l, 1) := by decide +kernel
theorem dX11_lacks_53 : decode cX11_lacks 53 = .ok (.lconst 1, 1) := by decide +kernel
theorem dX11_lacks_54 : decode cX11_lacks 54 = .ok (.ldc2_w 158, 3) := by decide +kernel
theorem dX11_lacks_57 : decode cX11_lacks 57 = .ok (.invokestatic 136, 3) := by decide +kernel
theorem dX11_lacks_60 : decode cX11_lacks 60 = .ok (.ifCond .eq 30, 3) := by decide +kernel
theorem dX11_lacks_63 : decode cX11_lacks 63 = .ok (.aload_n 0, 1) := by decide +kernel
theorem dX11_lacks_64 : decode cX11_lacks 64 = .ok (.iload_n 1, 1) := by decide +kernel
theorem dX11_lacks_65 : decode cX11_lacks 65 = .ok (.i2l, 1) := by decide +kernel
theorem dX11_lacks_66 : decode cX11_lacks 66 = .ok (.invokevirtual 140, 3) := by decide +kernel
theorem dX11_lacks_69 : decode cX11_lacks 69 = .ok (.ifCond .eq 21, 3) := by decide +kernel
theorem dX11_lacks_72 : decode cX11_lacks 72 = .ok (.aload_n 0, 1) := by decide +kernel
theorem dX11_lacks_73 : decode cX11_lacks 73 = .ok (.iload_n 1, 1) := by decide +kernel
theorem dX11_lacks_74 : decode cX11_lacks 74 = .ok (.iload_n 2, 1) := by decide +kernel
theorem dX11_lacks_75 : decode cX11_lacks 75 = .ok (.iconst 1, 1) := by decide +kernel
theorem dX11_lacks_76 : decode cX11_lacks 76 = .ok (.if_icmp .ne 7, 3) := by decide +kernel
theorem dX11_lacks_79 : decode cX11_lacks 79 = .ok (.iconst 1, 1) := by decide +kernel
theorem dX11_lacks_80 : decode cX11_lacks 80 = .ok (.goto 4, 3) := by decide +kernel
theorem dX11_lacks_83 : decode cX11_lacks 83 = .ok (.iconst (-1), 1) := by decide +kernel
theorem dX11_lacks_84 : decode cX11_lacks 84 = .ok (.invokevirtual 300, 3) := by decide +kernel
theorem dX11_lacks_87 : decode cX11_lacks 87 = .ok (.goto 4, 3) := by decide +kernel
theorem dX11_lacks_90 : decode cX11_lacks 90 = .ok (.iconst (-1), 1) := by decide +kernel
theorem dX11_lacks_91 : decode cX11_lacks 91 = .ok (.ireturn, 1) := by decide +kernel
theorem dX11_fedBehind_0 : decode cX11_fedBehind 0 = .ok (.iconst 0, 1) := by decide +kernel
theorem dX11_fedBehind_1 : decode cX11_fedBehind 1 = .ok (.istore_n 2, 1) := by decide +kernel
theorem dX11_fedBehind_2 : decode cX11_fedBehind 2 = .ok (.iconst 0, 1) := by decide +kernel
theorem dX11_fedBehind_3 : decode cX11_fedBehind 3 = .ok (.istore_n 3, 1) := by decide +kernel
theorem dX11_fedBehind_4 : decode cX11_fedBehind 4 = .ok (.iload_n 3, 1) := by decide +kernel
theorem dX11_fedBehind_5 : decode cX11_fedBehind 5 = .ok (.iload_n 1, 1) := by decide +kernel
theorem dX11_fedBehind_6 : decode cX11_fedBehind 6 = .ok (.if_icmp .ge 20, 3) := by decide +kernel
theorem dX11_fedBehind_9 : decode cX11_fedBehind 9 = .ok (.aload_n 0, 1) := by decide +kernel
theorem dX11_fedBehind_10 : decode cX11_fedBehind 10 = .ok (.invokevirtual 303, 3) := by decide +kernel
theorem dX11_fedBehind_13 : decode cX11_fedBehind 13 = .ok (.iload_n 2, 1) := by decide +kernel
theorem dX11_fedBehind_14 : decode cX11_fedBehind 14 = .ok (.aload_n 0, 1) := by decide +kernel
theorem dX11_fedBehind_15 : decode cX11_fedBehind 15 = .ok (.getfield 258, 3) := by decide +kernel
theorem dX11_fedBehind_18 : decode cX11_fedBehind 18 = .ok (.iadd, 1) := by decide +kernel
theorem dX11_fedBehind_19 : decode cX11_fedBehind 19 = .ok (.istore_n 2, 1) := by decide +kernel
theorem dX11_fedBehind_20 : decode cX11_fedBehind 20 = .ok (.iinc 3 1, 3) := by decide +kernel
theorem dX11_fedBehind_23 : decode cX11_fedBehind 23 = .ok (.goto (-19), 3) := by decide +kernel
theorem dX11_fedBehind_26 : decode cX11_fedBehind 26 = .ok (.iload_n 2, 1) := by decide +kernel
theorem dX11_fedBehind_27 : decode cX11_fedBehind 27 = .ok (.ireturn, 1) := by decide +kernel
theorem dX11_later_0 : decode cX11_later 0 = .ok (.iload_n 1, 1) := by decide +kernel
theorem dX11_later_1 : decode cX11_later 1 = .ok (.i2l, 1) := by decide +kernel
theorem dX11_later_2 : decode cX11_later 2 = .ok (.lconst 0, 1) := by decide +kernel
theorem dX11_later_3 : decode cX11_later 3 = .ok (.ldc2_w 306, 3) := by decide +kernel
theorem dX11_later_6 : decode cX11_later 6 = .ok (.invokestatic 136, 3) := by decide +kernel
theorem dX11_later_9 : decode cX11_later 9 = .ok (.ifCond .eq 17, 3) := by decide +kernel
theorem dX11_later_12 : decode cX11_later 12 = .ok (.iload_n 2, 1) := by decide +kernel
theorem dX11_later_13 : decode cX11_later 13 = .ok (.iconst (-1), 1) := by decide +kernel
theorem dX11_later_14 : decode cX11_later 14 = .ok (.if_icmp .eq 14, 3) := by decide +kernel
theorem dX11_later_17 : decode cX11_later 17 = .ok (.aload_n 0, 1) := by decide +kernel
theorem dX11_later_18 : decode cX11_later 18 = .ok (.iload_n 2, 1) := by decide +kernel
theorem dX11_later_19 : decode cX11_later 19 = .ok (.i2l, 1) := by decide +kernel
theorem dX11_later_20 : decode cX11_later 20 = .ok (.invokevirtual 140, 3) := by decide +kernel
theorem dX11_later_23 : decode cX11_later 23 = .ok (.ifCond .ne 5, 3) := by decide +kernel
theorem dX11_later_26 : decode cX11_later 26 = .ok (.iconst (-1), 1) := by decide +kernel
theorem dX11_later_27 : decode cX11_later 27 = .ok (.ireturn, 1) := by decide +kernel
theorem dX11_later_28 : decode cX11_later 28 = .ok (.aload_n 0, 1) := by decide +kernel
theorem dX11_later_29 : decode cX11_later 29 = .ok (.invokevirtual 293, 3) := by decide +kernel
theorem dX11_later_32 : decode cX11_later 32 = .ok (.aload_n 0, 1) := by decide +kernel
theorem dX11_later_33 : decode cX11_later 33 = .ok (.iload_n 1, 1) := by decide +kernel
theorem dX11_later_34 : decode cX11_later 34 = .ok (.invokevirtual 308, 3) := by decide +kernel
theorem dX11_later_37 : decode cX11_later 37 = .ok (.istore_n 3, 1) := by decide +kernel
theorem dX11_later_38 : decode cX11_later 38 = .ok (.iload_n 2, 1) := by decide +kernel
theorem dX11_later_39 : decode cX11_later 39 = .ok (.iconst (-1), 1) := by decide +kernel
theorem dX11_later_40 : decode cX11_later 40 = .ok (.if_icmp .ne 7, 3) := by decide +kernel
theorem dX11_later_43 : decode cX11_later 43 = .ok (.iload_n 3, 1) := by decide +kernel
theorem dX11_later_44 : decode cX11_later 44 = .ok (.goto 9, 3) := by decide +kernel
theorem dX11_later_47 : decode cX11_later 47 = .ok (.aload_n 0, 1) := by decide +kernel
theorem dX11_later_48 : decode cX11_later 48 = .ok (.getfield 65, 3) := by decide +kernel
theorem dX11_later_51 : decode cX11_later 51 = .ok (.iload_n 2, 1) := by decide +kernel
theorem dX11_later_52 : decode cX11_later 52 = .ok (.iaload, 1) := by decide +kernel
theorem dX11_later_53 : decode cX11_later 53 = .ok (.ireturn, 1) := by decide +kernel
theorem dX11_feltLater_0 : decode cX11_feltLater 0 = .ok (.iload_n 1, 1) := by decide +kernel
theorem dX11_feltLater_1 : decode cX11_feltLater 1 = .ok (.i2l, 1) := by decide +kernel
theorem dX11_feltLater_2 : decode cX11_feltLater 2 = .ok (.lconst 0, 1) := by decide +kernel
theorem dX11_feltLater_3 : decode cX11_feltLater 3 = .ok (.ldc2_w 306, 3) := by decide +kernel
theorem dX11_feltLater_6 : decode cX11_feltLater 6 = .ok (.invokestatic 136, 3) := by decide +kernel
theorem dX11_feltLater_9 : decode cX11_feltLater 9 = .ok (.ifCond .eq 11, 3) := by decide +kernel
theorem dX11_feltLater_12 : decode cX11_feltLater 12 = .ok (.aload_n 0, 1) := by decide +kernel
theorem dX11_feltLater_13 : decode cX11_feltLater 13 = .ok (.iload_n 2, 1) := by decide +kernel
theorem dX11_feltLater_14 : decode cX11_feltLater 14 = .ok (.invokevirtual 173, 3) := by decide +kernel
theorem dX11_feltLater_17 : decode cX11_feltLater 17 = .ok (.ifCond .ne 5, 3) := by decide +kernel
theorem dX11_feltLater_20 : decode cX11_feltLater 20 = .ok (.iconst (-1), 1) := by decide +kernel
theorem dX11_feltLater_21 : decode cX11_feltLater 21 = .ok (.ireturn, 1) := by decide +kernel
theorem dX11_feltLater_22 : decode cX11_feltLater 22 = .ok (.aload_n 0, 1) := by decide +kernel
theorem dX11_feltLater_23 : decode cX11_feltLater 23 = .ok (.invokevirtual 293, 3) := by decide +kernel
theorem dX11_feltLater_26 : decode cX11_feltLater 26 = .ok (.aload_n 0, 1) := by decide +kernel
theorem dX11_feltLater_27 : decode cX11_feltLater 27 = .ok (.iload_n 1, 1) := by decide +kernel
theorem dX11_feltLater_28 : decode cX11_feltLater 28 = .ok (.invokevirtual 308, 3) := by decide +kernel
theorem dX11_feltLater_31 : decode cX11_feltLater 31 = .ok (.pop, 1) := by decide +kernel
theorem dX11_feltLater_32 : decode cX11_feltLater 32 = .ok (.aload_n 0, 1) := by decide +kernel
theorem dX11_feltLater_33 : decode cX11_feltLater 33 = .ok (.getfield 65, 3) := by decide +kernel
theorem dX11_feltLater_36 : decode cX11_feltLater 36 = .ok (.iload_n 2, 1) := by decide +kernel
theorem dX11_feltLater_37 : decode cX11_feltLater 37 = .ok (.bipush 10, 2) := by decide +kernel
theorem dX11_feltLater_39 : decode cX11_feltLater 39 = .ok (.idiv, 1) := by decide +kernel
theorem dX11_feltLater_40 : decode cX11_feltLater 40 = .ok (.iload_n 2, 1) := by decide +kernel
theorem dX11_feltLater_41 : decode cX11_feltLater 41 = .ok (.bipush 10, 2) := by decide +kernel
theorem dX11_feltLater_43 : decode cX11_feltLater 43 = .ok (.irem, 1) := by decide +kernel
theorem dX11_feltLater_44 : decode cX11_feltLater 44 = .ok (.invokestatic 178, 3) := by decide +kernel
theorem dX11_feltLater_47 : decode cX11_feltLater 47 = .ok (.iaload, 1) := by decide +kernel
theorem dX11_feltLater_48 : decode cX11_feltLater 48 = .ok (.bipush 100, 2) := by decide +kernel
theorem dX11_feltLater_50 : decode cX11_feltLater 50 = .ok (.iadd, 1) := by decide +kernel
theorem dX11_feltLater_51 : decode cX11_feltLater 51 = .ok (.ireturn, 1) := by decide +kernel
theorem dX11_lastsThen_0 : decode cX11_lastsThen 0 = .ok (.iconst 0, 1) := by decide +kernel
theorem dX11_lastsThen_1 : decode cX11_lastsThen 1 = .ok (.istore_n 2, 1) := by decide +kernel
theorem dX11_lastsThen_2 : decode cX11_lastsThen 2 = .ok (.iload_n 2, 1) := by decide +kernel
theorem dX11_lastsThen_3 : decode cX11_lastsThen 3 = .ok (.bipush 40, 2) := by decide +kernel
theorem dX11_lastsThen_5 : decode cX11_lastsThen 5 = .ok (.if_icmp .ge 24, 3) := by decide +kernel
theorem dX11_lastsThen_8 : decode cX11_lastsThen 8 = .ok (.aload_n 0, 1) := by decide +kernel
theorem dX11_lastsThen_9 : decode cX11_lastsThen 9 = .ok (.invokevirtual 303, 3) := by decide +kernel
theorem dX11_lastsThen_12 : decode cX11_lastsThen 12 = .ok (.aload_n 0, 1) := by decide +kernel
theorem dX11_lastsThen_13 : decode cX11_lastsThen 13 = .ok (.getfield 68, 3) := by decide +kernel
theorem dX11_lastsThen_16 : decode cX11_lastsThen 16 = .ok (.iload_n 1, 1) := by decide +kernel
theorem dX11_lastsThen_17 : decode cX11_lastsThen 17 = .ok (.baload, 1) := by decide +kernel
theorem dX11_lastsThen_18 : decode cX11_lastsThen 18 = .ok (.ifCond .ne 5, 3) := by decide +kernel
theorem dX11_lastsThen_21 : decode cX11_lastsThen 21 = .ok (.iload_n 2, 1) := by decide +kernel
theorem dX11_lastsThen_22 : decode cX11_lastsThen 22 = .ok (.ireturn, 1) := by decide +kernel
theorem dX11_lastsThen_23 : decode cX11_lastsThen 23 = .ok (.iinc 2 1, 3) := by decide +kernel
theorem dX11_lastsThen_26 : decode cX11_lastsThen 26 = .ok (.goto (-24), 3) := by decide +kernel
theorem dX11_lastsThen_29 : decode cX11_lastsThen 29 = .ok (.bipush 40, 2) := by decide +kernel
theorem dX11_lastsThen_31 : decode cX11_lastsThen 31 = .ok (.ireturn, 1) := by decide +kernel
theorem dX11_lasts_0 : decode cX11_lasts 0 = .ok (.aload_n 0, 1) := by decide +kernel
theorem dX11_lasts_1 : decode cX11_lasts 1 = .ok (.iload_n 1, 1) := by decide +kernel
theorem dX11_lasts_2 : decode cX11_lasts 2 = .ok (.i2l, 1) := by decide +kernel
theorem dX11_lasts_3 : decode cX11_lasts 3 = .ok (.invokevirtual 140, 3) := by decide +kernel
theorem dX11_lasts_6 : decode cX11_lasts 6 = .ok (.ifCond .ne 5, 3) := by decide +kernel
theorem dX11_lasts_9 : decode cX11_lasts 9 = .ok (.iconst (-1), 1) := by decide +kernel
theorem dX11_lasts_10 : decode cX11_lasts 10 = .ok (.ireturn, 1) := by decide +kernel
theorem dX11_lasts_11 : decode cX11_lasts 11 = .ok (.aload_n 0, 1) := by decide +kernel
theorem dX11_lasts_12 : decode cX11_lasts 12 = .ok (.invokevirtual 293, 3) := by decide +kernel
theorem dX11_lasts_15 : decode cX11_lasts 15 = .ok (.aload_n 0, 1) := by decide +kernel
theorem dX11_lasts_16 : decode cX11_lasts 16 = .ok (.iload_n 1, 1) := by decide +kernel
theorem dX11_lasts_17 : decode cX11_lasts 17 = .ok (.invokevirtual 311, 3) := by decide +kernel
theorem dX11_lasts_20 : decode cX11_lasts 20 = .ok (.ireturn, 1) := by decide +kernel
theorem dX11_renewed_0 : decode cX11_renewed 0 = .ok (.aload_n 0, 1) := by decide +kernel
theorem dX11_renewed_1 : decode cX11_renewed 1 = .ok (.iload_n 1, 1) := by decide +kernel
theorem dX11_renewed_2 : decode cX11_renewed 2 = .ok (.invokevirtual 173, 3) := by decide +kernel
theorem dX11_renewed_5 : decode cX11_renewed 5 = .ok (.ifCond .eq 17, 3) := by decide +kernel
theorem dX11_renewed_8 : decode cX11_renewed 8 = .ok (.iload_n 2, 1) := by decide +kernel
theorem dX11_renewed_9 : decode cX11_renewed 9 = .ok (.i2l, 1) := by decide +kernel
theorem dX11_renewed_10 : decode cX11_renewed 10 = .ok (.ldc2_w 176, 3) := by decide +kernel
theorem dX11_renewed_13 : decode cX11_renewed 13 = .ok (.ldc2_w 146, 3) := by decide +kernel
theorem dX11_renewed_16 : decode cX11_renewed 16 = .ok (.invokestatic 136, 3) := by decide +kernel
theorem dX11_renewed_19 : decode cX11_renewed 19 = .ok (.ifCond .ne 5, 3) := by decide +kernel
theorem dX11_renewed_22 : decode cX11_renewed 22 = .ok (.iconst (-1), 1) := by decide +kernel
theorem dX11_renewed_23 : decode cX11_renewed 23 = .ok (.ireturn, 1) := by decide +kernel
theorem dX11_renewed_24 : decode cX11_renewed 24 = .ok (.aload_n 0, 1) := by decide +kernel
theorem dX11_renewed_25 : decode cX11_renewed 25 = .ok (.invokevirtual 293, 3) := by decide +kernel
theorem dX11_renewed_28 : decode cX11_renewed 28 = .ok (.aload_n 0, 1) := by decide +kernel
theorem dX11_renewed_29 : decode cX11_renewed 29 = .ok (.getfield 65, 3) := by decide +kernel
theorem dX11_renewed_32 : decode cX11_renewed 32 = .ok (.iload_n 1, 1) := by decide +kernel
theorem dX11_renewed_33 : decode cX11_renewed 33 = .ok (.bipush 10, 2) := by decide +kernel
theorem dX11_renewed_35 : decode cX11_renewed 35 = .ok (.idiv, 1) := by decide +kernel
theorem dX11_renewed_36 : decode cX11_renewed 36 = .ok (.iload_n 1, 1) := by decide +kernel
theorem dX11_renewed_37 : decode cX11_renewed 37 = .ok (.bipush 10, 2) := by decide +kernel
theorem dX11_renewed_39 : decode cX11_renewed 39 = .ok (.irem, 1) := by decide +kernel
theorem dX11_renewed_40 : decode cX11_renewed 40 = .ok (.invokestatic 178, 3) := by decide +kernel
theorem dX11_renewed_43 : decode cX11_renewed 43 = .ok (.iload_n 2, 1) := by decide +kernel
theorem dX11_renewed_44 : decode cX11_renewed 44 = .ok (.iastore, 1) := by decide +kernel
theorem dX11_renewed_45 : decode cX11_renewed 45 = .ok (.aload_n 0, 1) := by decide +kernel
theorem dX11_renewed_46 : decode cX11_renewed 46 = .ok (.iload_n 1, 1) := by decide +kernel
theorem dX11_renewed_47 : decode cX11_renewed 47 = .ok (.bipush 10, 2) := by decide +kernel
theorem dX11_renewed_49 : decode cX11_renewed 49 = .ok (.irem, 1) := by decide +kernel
theorem dX11_renewed_50 : decode cX11_renewed 50 = .ok (.invokevirtual 311, 3) := by decide +kernel
theorem dX11_renewed_53 : decode cX11_renewed 53 = .ok (.ireturn, 1) := by decide +kernel
theorem dX11_worth_0 : decode cX11_worth 0 = .ok (.aload_n 0, 1) := by decide +kernel
theorem dX11_worth_1 : decode cX11_worth 1 = .ok (.iload_n 1, 1) := by decide +kernel
theorem dX11_worth_2 : decode cX11_worth 2 = .ok (.i2l, 1) := by decide +kernel
theorem dX11_worth_3 : decode cX11_worth 3 = .ok (.invokevirtual 140, 3) := by decide +kernel
theorem dX11_worth_6 : decode cX11_worth 6 = .ok (.ifCond .eq 25, 3) := by decide +kernel
theorem dX11_worth_9 : decode cX11_worth 9 = .ok (.iload_n 2, 1) := by decide +kernel
theorem dX11_worth_10 : decode cX11_worth 10 = .ok (.i2l, 1) := by decide +kernel
theorem dX11_worth_11 : decode cX11_worth 11 = .ok (.lconst 0, 1) := by decide +kernel
theorem dX11_worth_12 : decode cX11_worth 12 = .ok (.ldc2_w 306, 3) := by decide +kernel
theorem dX11_worth_15 : decode cX11_worth 15 = .ok (.invokestatic 136, 3) := by decide +kernel
theorem dX11_worth_18 : decode cX11_worth 18 = .ok (.ifCond .eq 13, 3) := by decide +kernel
theorem dX11_worth_21 : decode cX11_worth 21 = .ok (.iload_n 3, 1) := by decide +kernel
theorem dX11_worth_22 : decode cX11_worth 22 = .ok (.i2l, 1) := by decide +kernel
theorem dX11_worth_23 : decode cX11_worth 23 = .ok (.lconst 0, 1) := by decide +kernel
theorem dX11_worth_24 : decode cX11_worth 24 = .ok (.lconst 1, 1) := by decide +kernel
theorem dX11_worth_25 : decode cX11_worth 25 = .ok (.invokestatic 136, 3) := by decide +kernel
theorem dX11_worth_28 : decode cX11_worth 28 = .ok (.ifCond .ne 5, 3) := by decide +kernel
theorem dX11_worth_31 : decode cX11_worth 31 = .ok (.iconst (-1), 1) := by decide +kernel
theorem dX11_worth_32 : decode cX11_worth 32 = .ok (.ireturn, 1) := by decide +kernel
theorem dX11_worth_33 : decode cX11_worth 33 = .ok (.bipush (-2), 2) := by decide +kernel
theorem dX11_worth_35 : decode cX11_worth 35 = .ok (.istore 4, 2) := by decide +kernel
theorem dX11_worth_37 : decode cX11_worth 37 = .ok (.bipush (-2), 2) := by decide +kernel
theorem dX11_worth_39 : decode cX11_worth 39 = .ok (.istore 5, 2) := by decide +kernel
theorem dX11_worth_41 : decode cX11_worth 41 = .ok (.iconst 0, 1) := by decide +kernel
theorem dX11_worth_42 : decode cX11_worth 42 = .ok (.istore 6, 2) := by decide +kernel
theorem dX11_worth_44 : decode cX11_worth 44 = .ok (.iload 6, 2) := by decide +kernel
theorem dX11_worth_46 : decode cX11_worth 46 = .ok (.aload_n 0, 1) := by decide +kernel
theorem dX11_worth_47 : decode cX11_worth 47 = .ok (.getfield 133, 3) := by decide +kernel
theorem dX11_worth_50 : decode cX11_worth 50 = .ok (.if_icmp .ge 71, 3) := by decide +kernel
theorem dX11_worth_53 : decode cX11_worth 53 = .ok (.iload 6, 2) := by decide +kernel
theorem dX11_worth_55 : decode cX11_worth 55 = .ok (.iload_n 1, 1) := by decide +kernel
theorem dX11_worth_56 : decode cX11_worth 56 = .ok (.if_icmp .ne 6, 3) := by decide +kernel
theorem dX11_worth_59 : decode cX11_worth 59 = .ok (.goto 56, 3) := by decide +kernel
theorem dX11_worth_62 : decode cX11_worth 62 = .ok (.aload_n 0, 1) := by decide +kernel
theorem dX11_worth_63 : decode cX11_worth 63 = .ok (.invokevirtual 293, 3) := by decide +kernel
theorem dX11_worth_66 : decode cX11_worth 66 = .ok (.aload_n 0, 1) := by decide +kernel
theorem dX11_worth_67 : decode cX11_worth 67 = .ok (.getfield 65, 3) := by decide +kernel
theorem dX11_worth_70 : decode cX11_worth 70 = .ok (.iload 6, 2) := by decide +kernel
theorem dX11_worth_72 : decode cX11_worth 72 = .ok (.iload_n 1, 1) := by decide +kernel
theorem dX11_worth_73 : decode cX11_worth 73 = .ok (.invokestatic 178, 3) := by decide +kernel
theorem dX11_worth_76 : decode cX11_worth 76 = .ok (.bipush (-9), 2) := by decide +kernel
theorem dX11_worth_78 : decode cX11_worth 78 = .ok (.iastore, 1) := by decide +kernel
theorem dX11_worth_79 : decode cX11_worth 79 = .ok (.aload_n 0, 1) := by decide +kernel
theorem dX11_worth_80 : decode cX11_worth 80 = .ok (.iload_n 2, 1) := by decide +kernel
theorem dX11_worth_81 : decode cX11_worth 81 = .ok (.invokevirtual 308, 3) := by decide +kernel
theorem dX11_worth_84 : decode cX11_worth 84 = .ok (.pop, 1) := by decide +kernel
theorem dX11_worth_85 : decode cX11_worth 85 = .ok (.iload 4, 2) := by decide +kernel
theorem dX11_worth_87 : decode cX11_worth 87 = .ok (.bipush (-2), 2) := by decide +kernel
theorem dX11_worth_89 : decode cX11_worth 89 = .ok (.if_icmp .eq 14, 3) := by decide +kernel
theorem dX11_worth_92 : decode cX11_worth 92 = .ok (.aload_n 0, 1) := by decide +kernel
theorem dX11_worth_93 : decode cX11_worth 93 = .ok (.getfield 65, 3) := by decide +kernel
theorem dX11_worth_96 : decode cX11_worth 96 = .ok (.iload_n 1, 1) := by decide +kernel
theorem dX11_worth_97 : decode cX11_worth 97 = .ok (.iaload, 1) := by decide +kernel
theorem dX11_worth_98 : decode cX11_worth 98 = .ok (.iload 5, 2) := by decide +kernel
theorem dX11_worth_100 : decode cX11_worth 100 = .ok (.if_icmp .ge 15, 3) := by decide +kernel
theorem dX11_worth_103 : decode cX11_worth 103 = .ok (.iload 6, 2) := by decide +kernel
theorem dX11_worth_105 : decode cX11_worth 105 = .ok (.istore 4, 2) := by decide +kernel
theorem dX11_worth_107 : decode cX11_worth 107 = .ok (.aload_n 0, 1) := by decide +kernel
theorem dX11_worth_108 : decode cX11_worth 108 = .ok (.getfield 65, 3) := by decide +kernel
theorem dX11_worth_111 : decode cX11_worth 111 = .ok (.iload_n 1, 1) := by decide +kernel
theorem dX11_worth_112 : decode cX11_worth 112 = .ok (.iaload, 1) := by decide +kernel
theorem dX11_worth_113 : decode cX11_worth 113 = .ok (.istore 5, 2) := by decide +kernel
theorem dX11_worth_115 : decode cX11_worth 115 = .ok (.iinc 6 1, 3) := by decide +kernel
theorem dX11_worth_118 : decode cX11_worth 118 = .ok (.goto (-74), 3) := by decide +kernel
theorem dX11_worth_121 : decode cX11_worth 121 = .ok (.iload_n 3, 1) := by decide +kernel
theorem dX11_worth_122 : decode cX11_worth 122 = .ok (.ifCond .ne 8, 3) := by decide +kernel
theorem dX11_worth_125 : decode cX11_worth 125 = .ok (.iload 4, 2) := by decide +kernel
theorem dX11_worth_127 : decode cX11_worth 127 = .ok (.goto 5, 3) := by decide +kernel
theorem dX11_worth_130 : decode cX11_worth 130 = .ok (.iload 5, 2) := by decide +kernel
theorem dX11_worth_132 : decode cX11_worth 132 = .ok (.ireturn, 1) := by decide +kernel
theorem dX11_ring_0 : decode cX11_ring 0 = .ok (.bipush (-2), 2) := by decide +kernel
theorem dX11_ring_2 : decode cX11_ring 2 = .ok (.istore_n 1, 1) := by decide +kernel
theorem dX11_ring_3 : decode cX11_ring 3 = .ok (.iconst 0, 1) := by decide +kernel
theorem dX11_ring_4 : decode cX11_ring 4 = .ok (.istore_n 2, 1) := by decide +kernel
theorem dX11_ring_5 : decode cX11_ring 5 = .ok (.iload_n 2, 1) := by decide +kernel
theorem dX11_ring_6 : decode cX11_ring 6 = .ok (.aload_n 0, 1) := by decide +kernel
theorem dX11_ring_7 : decode cX11_ring 7 = .ok (.getfield 133, 3) := by decide +kernel
theorem dX11_ring_10 : decode cX11_ring 10 = .ok (.if_icmp .ge 202, 3) := by decide +kernel
theorem dX11_ring_13 : decode cX11_ring 13 = .ok (.iconst 0, 1) := by decide +kernel
theorem dX11_ring_14 : decode cX11_ring 14 = .ok (.istore_n 3, 1) := by decide +kernel
theorem dX11_ring_15 : decode cX11_ring 15 = .ok (.iload_n 3, 1) := by decide +kernel
theorem dX11_ring_16 : decode cX11_ring 16 = .ok (.aload_n 0, 1) := by decide +kernel
theorem dX11_ring_17 : decode cX11_ring 17 = .ok (.getfield 133, 3) := by decide +kernel
theorem dX11_ring_20 : decode cX11_ring 20 = .ok (.if_icmp .ge 25, 3) := by decide +kernel
theorem dX11_ring_23 : decode cX11_ring 23 = .ok (.aload_n 0, 1) := by decide +kernel
theorem dX11_ring_24 : decode cX11_ring 24 = .ok (.getfield 87, 3) := by decide +kernel
theorem dX11_ring_27 : decode cX11_ring 27 = .ok (.iload_n 3, 1) := by decide +kernel
theorem dX11_ring_28 : decode cX11_ring 28 = .ok (.iload_n 3, 1) := by decide +kernel
theorem dX11_ring_29 : decode cX11_ring 29 = .ok (.iload_n 2, 1) := by decide +kernel
theorem dX11_ring_30 : decode cX11_ring 30 = .ok (.if_icmp .ne 7, 3) := by decide +kernel
theorem dX11_ring_33 : decode cX11_ring 33 = .ok (.iconst 1, 1) := by decide +kernel
theorem dX11_ring_34 : decode cX11_ring 34 = .ok (.goto 4, 3) := by decide +kernel
theorem dX11_ring_37 : decode cX11_ring 37 = .ok (.iconst 0, 1) := by decide +kernel
theorem dX11_ring_38 : decode cX11_ring 38 = .ok (.bastore, 1) := by decide +kernel
theorem dX11_ring_39 : decode cX11_ring 39 = .ok (.iinc 3 1, 3) := by decide +kernel
theorem dX11_ring_42 : decode cX11_ring 42 = .ok (.goto (-27), 3) := by decide +kernel
theorem dX11_ring_45 : decode cX11_ring 45 = .ok (.iconst 1, 1) := by decide +kernel
theorem dX11_ring_46 : decode cX11_ring 46 = .ok (.istore_n 3, 1) := by decide +kernel
theorem dX11_ring_47 : decode cX11_ring 47 = .ok (.iload_n 3, 1) := by decide +kernel
theorem dX11_ring_48 : decode cX11_ring 48 = .ok (.aload_n 0, 1) := by decide +kernel
theorem dX11_ring_49 : decode cX11_ring 49 = .ok (.getfield 133, 3) := by decide +kernel
theorem dX11_ring_52 : decode cX11_ring 52 = .ok (.if_icmp .gt 154, 3) := by decide +kernel
theorem dX11_ring_55 : decode cX11_ring 55 = .ok (.iconst 0, 1) := by decide +kernel
theorem dX11_ring_56 : decode cX11_ring 56 = .ok (.istore 4, 2) := by decide +kernel
theorem dX11_ring_58 : decode cX11_ring 58 = .ok (.iload 4, 2) := by decide +kernel
theorem dX11_ring_60 : decode cX11_ring 60 = .ok (.aload_n 0, 1) := by decide +kernel
theorem dX11_ring_61 : decode cX11_ring 61 = .ok (.getfield 133, 3) := by decide +kernel
theorem dX11_ring_64 : decode cX11_ring 64 = .ok (.if_icmp .ge 82, 3) := by decide +kernel
theorem dX11_ring_67 : decode cX11_ring 67 = .ok (.aload_n 0, 1) := by decide +kernel
theorem dX11_ring_68 : decode cX11_ring 68 = .ok (.getfield 90, 3) := by decide +kernel
theorem dX11_ring_71 : decode cX11_ring 71 = .ok (.iload 4, 2) := by decide +kernel
theorem dX11_ring_73 : decode cX11_ring 73 = .ok (.iconst 0, 1) := by decide +kernel
theorem dX11_ring_74 : decode cX11_ring 74 = .ok (.bastore, 1) := by decide +kernel
theorem dX11_ring_75 : decode cX11_ring 75 = .ok (.iconst 0, 1) := by decide +kernel
theorem dX11_ring_76 : decode cX11_ring 76 = .ok (.istore 5, 2) := by decide +kernel
theorem dX11_ring_78 : decode cX11_ring 78 = .ok (.iload 5, 2) := by decide +kernel
theorem dX11_ring_80 : decode cX11_ring 80 = .ok (.aload_n 0, 1) := by decide +kernel
theorem dX11_ring_81 : decode cX11_ring 81 = .ok (.getfield 133, 3) := by decide +kernel
theorem dX11_ring_84 : decode cX11_ring 84 = .ok (.if_icmp .ge 56, 3) := by decide +kernel
theorem dX11_ring_87 : decode cX11_ring 87 = .ok (.aload_n 0, 1) := by decide +kernel
theorem dX11_ring_88 : decode cX11_ring 88 = .ok (.getfield 90, 3) := by decide +kernel
theorem dX11_ring_91 : decode cX11_ring 91 = .ok (.iload 4, 2) := by decide +kernel
theorem dX11_ring_93 : decode cX11_ring 93 = .ok (.aload_n 0, 1) := by decide +kernel
theorem dX11_ring_94 : decode cX11_ring 94 = .ok (.getfield 90, 3) := by decide +kernel
theorem dX11_ring_97 : decode cX11_ring 97 = .ok (.iload 4, 2) := by decide +kernel
theorem dX11_ring_99 : decode cX11_ring 99 = .ok (.baload, 1) := by decide +kernel
theorem dX11_ring_100 : decode cX11_ring 100 = .ok (.ifCond .ne 28, 3) := by decide +kernel
theorem dX11_ring_103 : decode cX11_ring 103 = .ok (.aload_n 0, 1) := by decide +kernel
theorem dX11_ring_104 : decode cX11_ring 104 = .ok (.getfield 87, 3) := by decide +kernel
theorem dX11_ring_107 : decode cX11_ring 107 = .ok (.iload 5, 2) := by decide +kernel
theorem dX11_ring_109 : decode cX11_ring 109 = .ok (.baload, 1) := by decide +kernel
theorem dX11_ring_110 : decode cX11_ring 110 = .ok (.ifCond .eq 22, 3) := by decide +kernel
theorem dX11_ring_113 : decode cX11_ring 113 = .ok (.aload_n 0, 1) := by decide +kernel
theorem dX11_ring_114 : decode cX11_ring 114 = .ok (.getfield 9, 3) := by decide +kernel
theorem dX11_ring_117 : decode cX11_ring 117 = .ok (.iload 5, 2) := by decide +kernel
theorem dX11_ring_119 : decode cX11_ring 119 = .ok (.iload 4, 2) := by decide +kernel
theorem dX11_ring_121 : decode cX11_ring 121 = .ok (.invokestatic 178, 3) := by decide +kernel
theorem dX11_ring_124 : decode cX11_ring 124 = .ok (.iaload, 1) := by decide +kernel
theorem dX11_ring_125 : decode cX11_ring 125 = .ok (.ifCond .ge 7, 3) := by decide +kernel
theorem dX11_ring_128 : decode cX11_ring 128 = .ok (.iconst 1, 1) := by decide +kernel
theorem dX11_ring_129 : decode cX11_ring 129 = .ok (.goto 4, 3) := by decide +kernel
theorem dX11_ring_132 : decode cX11_ring 132 = .ok (.iconst 0, 1) := by decide +kernel
theorem dX11_ring_133 : decode cX11_ring 133 = .ok (.bastore, 1) := by decide +kernel
theorem dX11_ring_134 : decode cX11_ring 134 = .ok (.iinc 5 1, 3) := by decide +kernel
theorem dX11_ring_137 : decode cX11_ring 137 = .ok (.goto (-59), 3) := by decide +kernel
theorem dX11_ring_140 : decode cX11_ring 140 = .ok (.iinc 4 1, 3) := by decide +kernel
theorem dX11_ring_143 : decode cX11_ring 143 = .ok (.goto (-85), 3) := by decide +kernel
theorem dX11_ring_146 : decode cX11_ring 146 = .ok (.iconst 0, 1) := by decide +kernel
theorem dX11_ring_147 : decode cX11_ring 147 = .ok (.istore 4, 2) := by decide +kernel
theorem dX11_ring_149 : decode cX11_ring 149 = .ok (.iload 4, 2) := by decide +kernel
theorem dX11_ring_151 : decode cX11_ring 151 = .ok (.aload_n 0, 1) := by decide +kernel
theorem dX11_ring_152 : decode cX11_ring 152 = .ok (.getfield 133, 3) := by decide +kernel
theorem dX11_ring_155 : decode cX11_ring 155 = .ok (.if_icmp .ge 23, 3) := by decide +kernel
theorem dX11_ring_158 : decode cX11_ring 158 = .ok (.aload_n 0, 1) := by decide +kernel
theorem dX11_ring_159 : decode cX11_ring 159 = .ok (.getfield 87, 3) := by decide +kernel
theorem dX11_ring_162 : decode cX11_ring 162 = .ok (.iload 4, 2) := by decide +kernel
theorem dX11_ring_164 : decode cX11_ring 164 = .ok (.aload_n 0, 1) := by decide +kernel
theorem dX11_ring_165 : decode cX11_ring 165 = .ok (.getfield 90, 3) := by decide +kernel
theorem dX11_ring_168 : decode cX11_ring 168 = .ok (.iload 4, 2) := by decide +kernel
theorem dX11_ring_170 : decode cX11_ring 170 = .ok (.baload, 1) := by decide +kernel
theorem dX11_ring_171 : decode cX11_ring 171 = .ok (.bastore, 1) := by decide +kernel
theorem dX11_ring_172 : decode cX11_ring 172 = .ok (.iinc 4 1, 3) := by decide +kernel
theorem dX11_ring_175 : decode cX11_ring 175 = .ok (.goto (-26), 3) := by decide +kernel
theorem dX11_ring_178 : decode cX11_ring 178 = .ok (.aload_n 0, 1) := by decide +kernel
theorem dX11_ring_179 : decode cX11_ring 179 = .ok (.getfield 87, 3) := by decide +kernel
theorem dX11_ring_182 : decode cX11_ring 182 = .ok (.iload_n 2, 1) := by decide +kernel
theorem dX11_ring_183 : decode cX11_ring 183 = .ok (.baload, 1) := by decide +kernel
theorem dX11_ring_184 : decode cX11_ring 184 = .ok (.ifCond .eq 16, 3) := by decide +kernel
theorem dX11_ring_187 : decode cX11_ring 187 = .ok (.iload_n 1, 1) := by decide +kernel
theorem dX11_ring_188 : decode cX11_ring 188 = .ok (.bipush (-2), 2) := by decide +kernel
theorem dX11_ring_190 : decode cX11_ring 190 = .ok (.if_icmp .eq 8, 3) := by decide +kernel
theorem dX11_ring_193 : decode cX11_ring 193 = .ok (.iload_n 3, 1) := by decide +kernel
theorem dX11_ring_194 : decode cX11_ring 194 = .ok (.iload_n 1, 1) := by decide +kernel
theorem dX11_ring_195 : decode cX11_ring 195 = .ok (.if_icmp .ge 5, 3) := by decide +kernel
theorem dX11_ring_198 : decode cX11_ring 198 = .ok (.iload_n 3, 1) := by decide +kernel
theorem dX11_ring_199 : decode cX11_ring 199 = .ok (.istore_n 1, 1) := by decide +kernel
theorem dX11_ring_200 : decode cX11_ring 200 = .ok (.iinc 3 1, 3) := by decide +kernel
theorem dX11_ring_203 : decode cX11_ring 203 = .ok (.goto (-156), 3) := by decide +kernel
theorem dX11_ring_206 : decode cX11_ring 206 = .ok (.iinc 2 1, 3) := by decide +kernel
theorem dX11_ring_209 : decode cX11_ring 209 = .ok (.goto (-204), 3) := by decide +kernel
theorem dX11_ring_212 : decode cX11_ring 212 = .ok (.iload_n 1, 1) := by decide +kernel
theorem dX11_ring_213 : decode cX11_ring 213 = .ok (.ireturn, 1) := by decide +kernel
theorem dX11_lookAt_0 : decode cX11_lookAt 0 = .ok (.iload_n 1, 1) := by decide +kernel
theorem dX11_lookAt_1 : decode cX11_lookAt 1 = .ok (.invokestatic 152, 3) := by decide +kernel
theorem dX11_lookAt_4 : decode cX11_lookAt 4 = .ok (.ifCond .ne 7, 3) := by decide +kernel
theorem dX11_lookAt_7 : decode cX11_lookAt 7 = .ok (.iconst (-1), 1) := by decide +kernel
theorem dX11_lookAt_8 : decode cX11_lookAt 8 = .ok (.goto 34, 3) := by decide +kernel
theorem dX11_lookAt_11 : decode cX11_lookAt 11 = .ok (.aload_n 0, 1) := by decide +kernel
theorem dX11_lookAt_12 : decode cX11_lookAt 12 = .ok (.getfield 115, 3) := by decide +kernel
theorem dX11_lookAt_15 : decode cX11_lookAt 15 = .ok (.iload_n 1, 1) := by decide +kernel
theorem dX11_lookAt_16 : decode cX11_lookAt 16 = .ok (.iaload, 1) := by decide +kernel
theorem dX11_lookAt_17 : decode cX11_lookAt 17 = .ok (.ifCond .ge 8, 3) := by decide +kernel
theorem dX11_lookAt_20 : decode cX11_lookAt 20 = .ok (.bipush (-11), 2) := by decide +kernel
theorem dX11_lookAt_22 : decode cX11_lookAt 22 = .ok (.goto 20, 3) := by decide +kernel
theorem dX11_lookAt_25 : decode cX11_lookAt 25 = .ok (.aload_n 0, 1) := by decide +kernel
theorem dX11_lookAt_26 : decode cX11_lookAt 26 = .ok (.getfield 115, 3) := by decide +kernel
theorem dX11_lookAt_29 : decode cX11_lookAt 29 = .ok (.iload_n 1, 1) := by decide +kernel
theorem dX11_lookAt_30 : decode cX11_lookAt 30 = .ok (.iaload, 1) := by decide +kernel
theorem dX11_lookAt_31 : decode cX11_lookAt 31 = .ok (.bipush 50, 2) := by decide +kernel
theorem dX11_lookAt_33 : decode cX11_lookAt 33 = .ok (.if_icmp .ne 7, 3) := by decide +kernel
theorem dX11_lookAt_36 : decode cX11_lookAt 36 = .ok (.iconst 0, 1) := by decide +kernel
theorem dX11_lookAt_37 : decode cX11_lookAt 37 = .ok (.goto 5, 3) := by decide +kernel
theorem dX11_lookAt_40 : decode cX11_lookAt 40 = .ok (.bipush (-12), 2) := by decide +kernel
theorem dX11_lookAt_42 : decode cX11_lookAt 42 = .ok (.ireturn, 1) := by decide +kernel
theorem dX11_wrongDay_0 : decode cX11_wrongDay 0 = .ok (.iconst 0, 1) := by decide +kernel
theorem dX11_wrongDay_1 : decode cX11_wrongDay 1 = .ok (.istore_n 3, 1) := by decide +kernel
theorem dX11_wrongDay_2 : decode cX11_wrongDay 2 = .ok (.iload_n 3, 1) := by decide +kernel
theorem dX11_wrongDay_3 : decode cX11_wrongDay 3 = .ok (.aload_n 0, 1) := by decide +kernel
theorem dX11_wrongDay_4 : decode cX11_wrongDay 4 = .ok (.getfield 118, 3) := by decide +kernel
theorem dX11_wrongDay_7 : decode cX11_wrongDay 7 = .ok (.iload_n 1, 1) := by decide +kernel
theorem dX11_wrongDay_8 : decode cX11_wrongDay 8 = .ok (.iaload, 1) := by decide +kernel
theorem dX11_wrongDay_9 : decode cX11_wrongDay 9 = .ok (.if_icmp .ge 56, 3) := by decide +kernel
theorem dX11_wrongDay_12 : decode cX11_wrongDay 12 = .ok (.iload_n 3, 1) := by decide +kernel
theorem dX11_wrongDay_13 : decode cX11_wrongDay 13 = .ok (.bipush 40, 2) := by decide +kernel
theorem dX11_wrongDay_15 : decode cX11_wrongDay 15 = .ok (.if_icmp .ge 50, 3) := by decide +kernel
theorem dX11_wrongDay_18 : decode cX11_wrongDay 18 = .ok (.aload_n 0, 1) := by decide +kernel
theorem dX11_wrongDay_19 : decode cX11_wrongDay 19 = .ok (.invokevirtual 303, 3) := by decide +kernel
theorem dX11_wrongDay_22 : decode cX11_wrongDay 22 = .ok (.aload_n 0, 1) := by decide +kernel
theorem dX11_wrongDay_23 : decode cX11_wrongDay 23 = .ok (.getfield 121, 3) := by decide +kernel
theorem dX11_wrongDay_26 : decode cX11_wrongDay 26 = .ok (.bipush 60, 2) := by decide +kernel
theorem dX11_wrongDay_28 : decode cX11_wrongDay 28 = .ok (.iload_n 1, 1) := by decide +kernel
theorem dX11_wrongDay_29 : decode cX11_wrongDay 29 = .ok (.imul, 1) := by decide +kernel
theorem dX11_wrongDay_30 : decode cX11_wrongDay 30 = .ok (.iload_n 3, 1) := by decide +kernel
theorem dX11_wrongDay_31 : decode cX11_wrongDay 31 = .ok (.iadd, 1) := by decide +kernel
theorem dX11_wrongDay_32 : decode cX11_wrongDay 32 = .ok (.laload, 1) := by decide +kernel
theorem dX11_wrongDay_33 : decode cX11_wrongDay 33 = .ok (.lstore 4, 2) := by decide +kernel
theorem dX11_wrongDay_35 : decode cX11_wrongDay 35 = .ok (.lload 4, 2) := by decide +kernel
theorem dX11_wrongDay_37 : decode cX11_wrongDay 37 = .ok (.ldc2_w 146, 3) := by decide +kernel
theorem dX11_wrongDay_40 : decode cX11_wrongDay 40 = .ok (.lcmp, 1) := by decide +kernel
theorem dX11_wrongDay_41 : decode cX11_wrongDay 41 = .ok (.ifCond .eq 18, 3) := by decide +kernel
theorem dX11_wrongDay_44 : decode cX11_wrongDay 44 = .ok (.lload 4, 2) := by decide +kernel
theorem dX11_wrongDay_46 : decode cX11_wrongDay 46 = .ok (.aload_n 0, 1) := by decide +kernel
theorem dX11_wrongDay_47 : decode cX11_wrongDay 47 = .ok (.getfield 78, 3) := by decide +kernel
theorem dX11_wrongDay_50 : decode cX11_wrongDay 50 = .ok (.iload_n 2, 1) := by decide +kernel
theorem dX11_wrongDay_51 : decode cX11_wrongDay 51 = .ok (.iaload, 1) := by decide +kernel
theorem dX11_wrongDay_52 : decode cX11_wrongDay 52 = .ok (.i2l, 1) := by decide +kernel
theorem dX11_wrongDay_53 : decode cX11_wrongDay 53 = .ok (.lcmp, 1) := by decide +kernel
theorem dX11_wrongDay_54 : decode cX11_wrongDay 54 = .ok (.ifCond .eq 5, 3) := by decide +kernel
theorem dX11_wrongDay_57 : decode cX11_wrongDay 57 = .ok (.iload_n 3, 1) := by decide +kernel
theorem dX11_wrongDay_58 : decode cX11_wrongDay 58 = .ok (.ireturn, 1) := by decide +kernel
theorem dX11_wrongDay_59 : decode cX11_wrongDay 59 = .ok (.iinc 3 1, 3) := by decide +kernel
theorem dX11_wrongDay_62 : decode cX11_wrongDay 62 = .ok (.goto (-60), 3) := by decide +kernel
theorem dX11_wrongDay_65 : decode cX11_wrongDay 65 = .ok (.bipush (-2), 2) := by decide +kernel
theorem dX11_wrongDay_67 : decode cX11_wrongDay 67 = .ok (.ireturn, 1) := by decide +kernel
theorem dX11_judge_0 : decode cX11_judge 0 = .ok (.iload_n 1, 1) := by decide +kernel
theorem dX11_judge_1 : decode cX11_judge 1 = .ok (.invokestatic 152, 3) := by decide +kernel
theorem dX11_judge_4 : decode cX11_judge 4 = .ok (.ifCond .eq 12, 3) := by decide +kernel
theorem dX11_judge_7 : decode cX11_judge 7 = .ok (.aload_n 0, 1) := by decide +kernel
theorem dX11_judge_8 : decode cX11_judge 8 = .ok (.iload_n 2, 1) := by decide +kernel
theorem dX11_judge_9 : decode cX11_judge 9 = .ok (.i2l, 1) := by decide +kernel
theorem dX11_judge_10 : decode cX11_judge 10 = .ok (.invokevirtual 140, 3) := by decide +kernel
theorem dX11_judge_13 : decode cX11_judge 13 = .ok (.ifCond .ne 5, 3) := by decide +kernel
theorem dX11_judge_16 : decode cX11_judge 16 = .ok (.iconst (-1), 1) := by decide +kernel
theorem dX11_judge_17 : decode cX11_judge 17 = .ok (.ireturn, 1) := by decide +kernel
theorem dX11_judge_18 : decode cX11_judge 18 = .ok (.aload_n 0, 1) := by decide +kernel
theorem dX11_judge_19 : decode cX11_judge 19 = .ok (.iload_n 1, 1) := by decide +kernel
theorem dX11_judge_20 : decode cX11_judge 20 = .ok (.invokevirtual 314, 3) := by decide +kernel
theorem dX11_judge_23 : decode cX11_judge 23 = .ok (.ifCond .ge 9, 3) := by decide +kernel
theorem dX11_judge_26 : decode cX11_judge 26 = .ok (.aload_n 0, 1) := by decide +kernel
theorem dX11_judge_27 : decode cX11_judge 27 = .ok (.iload_n 1, 1) := by decide +kernel
theorem dX11_judge_28 : decode cX11_judge 28 = .ok (.invokevirtual 314, 3) := by decide +kernel
theorem dX11_judge_31 : decode cX11_judge 31 = .ok (.ireturn, 1) := by decide +kernel
theorem dX11_judge_32 : decode cX11_judge 32 = .ok (.aload_n 0, 1) := by decide +kernel
theorem dX11_judge_33 : decode cX11_judge 33 = .ok (.invokevirtual 293, 3) := by decide +kernel
theorem dX11_judge_36 : decode cX11_judge 36 = .ok (.aload_n 0, 1) := by decide +kernel
theorem dX11_judge_37 : decode cX11_judge 37 = .ok (.iload_n 1, 1) := by decide +kernel
theorem dX11_judge_38 : decode cX11_judge 38 = .ok (.iload_n 2, 1) := by decide +kernel
theorem dX11_judge_39 : decode cX11_judge 39 = .ok (.invokevirtual 317, 3) := by decide +kernel
theorem dX11_judge_42 : decode cX11_judge 42 = .ok (.ireturn, 1) := by decide +kernel
theorem dX11_fits_0 : decode cX11_fits 0 = .ok (.iload_n 1, 1) := by decide +kernel
theorem dX11_fits_1 : decode cX11_fits 1 = .ok (.invokestatic 152, 3) := by decide +kernel
theorem dX11_fits_4 : decode cX11_fits 4 = .ok (.ifCond .eq 23, 3) := by decide +kernel
theorem dX11_fits_7 : decode cX11_fits 7 = .ok (.aload_n 0, 1) := by decide +kernel
theorem dX11_fits_8 : decode cX11_fits 8 = .ok (.iload_n 2, 1) := by decide +kernel
theorem dX11_fits_9 : decode cX11_fits 9 = .ok (.invokevirtual 173, 3) := by decide +kernel
theorem dX11_fits_12 : decode cX11_fits 12 = .ok (.ifCond .eq 15, 3) := by decide +kernel
theorem dX11_fits_15 : decode cX11_fits 15 = .ok (.iload_n 3, 1) := by decide +kernel
theorem dX11_fits_16 : decode cX11_fits 16 = .ok (.i2l, 1) := by decide +kernel
theorem dX11_fits_17 : decode cX11_fits 17 = .ok (.lconst 0, 1) := by decide +kernel
theorem dX11_fits_18 : decode cX11_fits 18 = .ok (.ldc2_w 158, 3) := by decide +kernel
theorem dX11_fits_21 : decode cX11_fits 21 = .ok (.invokestatic 136, 3) := by decide +kernel
theorem dX11_fits_24 : decode cX11_fits 24 = .ok (.ifCond .ne 5, 3) := by decide +kernel
theorem dX11_fits_27 : decode cX11_fits 27 = .ok (.iconst (-1), 1) := by decide +kernel
theorem dX11_fits_28 : decode cX11_fits 28 = .ok (.ireturn, 1) := by decide +kernel
theorem dX11_fits_29 : decode cX11_fits 29 = .ok (.aload_n 0, 1) := by decide +kernel
theorem dX11_fits_30 : decode cX11_fits 30 = .ok (.iload_n 1, 1) := by decide +kernel
theorem dX11_fits_31 : decode cX11_fits 31 = .ok (.invokevirtual 314, 3) := by decide +kernel
theorem dX11_fits_34 : decode cX11_fits 34 = .ok (.ifCond .ge 9, 3) := by decide +kernel
theorem dX11_fits_37 : decode cX11_fits 37 = .ok (.aload_n 0, 1) := by decide +kernel
theorem dX11_fits_38 : decode cX11_fits 38 = .ok (.iload_n 1, 1) := by decide +kernel
theorem dX11_fits_39 : decode cX11_fits 39 = .ok (.invokevirtual 314, 3) := by decide +kernel
theorem dX11_fits_42 : decode cX11_fits 42 = .ok (.ireturn, 1) := by decide +kernel
theorem dX11_fits_43 : decode cX11_fits 43 = .ok (.iload_n 2, 1) := by decide +kernel
theorem dX11_fits_44 : decode cX11_fits 44 = .ok (.bipush 10, 2) := by decide +kernel
theorem dX11_fits_46 : decode cX11_fits 46 = .ok (.irem, 1) := by decide +kernel
theorem dX11_fits_47 : decode cX11_fits 47 = .ok (.istore 4, 2) := by decide +kernel
theorem dX11_fits_49 : decode cX11_fits 49 = .ok (.iconst 0, 1) := by decide +kernel
theorem dX11_fits_50 : decode cX11_fits 50 = .ok (.istore 5, 2) := by decide +kernel
theorem dX11_fits_52 : decode cX11_fits 52 = .ok (.bipush (-2), 2) := by decide +kernel
theorem dX11_fits_54 : decode cX11_fits 54 = .ok (.istore 6, 2) := by decide +kernel
theorem dX11_fits_56 : decode cX11_fits 56 = .ok (.iload_n 3, 1) := by decide +kernel
theorem dX11_fits_57 : decode cX11_fits 57 = .ok (.iconst 2, 1) := by decide +kernel
theorem dX11_fits_58 : decode cX11_fits 58 = .ok (.if_icmp .ne 7, 3) := by decide +kernel
theorem dX11_fits_61 : decode cX11_fits 61 = .ok (.iconst 0, 1) := by decide +kernel
theorem dX11_fits_62 : decode cX11_fits 62 = .ok (.goto 5, 3) := by decide +kernel
theorem dX11_fits_65 : decode cX11_fits 65 = .ok (.bipush (-9), 2) := by decide +kernel
theorem dX11_fits_67 : decode cX11_fits 67 = .ok (.istore 7, 2) := by decide +kernel
theorem dX11_fits_69 : decode cX11_fits 69 = .ok (.iload_n 3, 1) := by decide +kernel
theorem dX11_fits_70 : decode cX11_fits 70 = .ok (.iconst 2, 1) := by decide +kernel
theorem dX11_fits_71 : decode cX11_fits 71 = .ok (.if_icmp .ne 8, 3) := by decide +kernel
theorem dX11_fits_74 : decode cX11_fits 74 = .ok (.bipush 99, 2) := by decide +kernel
theorem dX11_fits_76 : decode cX11_fits 76 = .ok (.goto 5, 3) := by decide +kernel
theorem dX11_fits_79 : decode cX11_fits 79 = .ok (.bipush 9, 2) := by decide +kernel
theorem dX11_fits_81 : decode cX11_fits 81 = .ok (.istore 8, 2) := by decide +kernel
theorem dX11_fits_83 : decode cX11_fits 83 = .ok (.iload 7, 2) := by decide +kernel
theorem dX11_fits_85 : decode cX11_fits 85 = .ok (.istore 9, 2) := by decide +kernel
theorem dX11_fits_87 : decode cX11_fits 87 = .ok (.iload 9, 2) := by decide +kernel
theorem dX11_fits_89 : decode cX11_fits 89 = .ok (.iload 8, 2) := by decide +kernel
theorem dX11_fits_91 : decode cX11_fits 91 = .ok (.if_icmp .gt 73, 3) := by decide +kernel
theorem dX11_fits_94 : decode cX11_fits 94 = .ok (.aload_n 0, 1) := by decide +kernel
theorem dX11_fits_95 : decode cX11_fits 95 = .ok (.invokevirtual 293, 3) := by decide +kernel
theorem dX11_fits_98 : decode cX11_fits 98 = .ok (.aload_n 0, 1) := by decide +kernel
theorem dX11_fits_99 : decode cX11_fits 99 = .ok (.getfield 65, 3) := by decide +kernel
theorem dX11_fits_102 : decode cX11_fits 102 = .ok (.iload_n 3, 1) := by decide +kernel
theorem dX11_fits_103 : decode cX11_fits 103 = .ok (.iconst 2, 1) := by decide +kernel
theorem dX11_fits_104 : decode cX11_fits 104 = .ok (.if_icmp .ne 8, 3) := by decide +kernel
theorem dX11_fits_107 : decode cX11_fits 107 = .ok (.iload 4, 2) := by decide +kernel
theorem dX11_fits_109 : decode cX11_fits 109 = .ok (.goto 12, 3) := by decide +kernel
theorem dX11_fits_112 : decode cX11_fits 112 = .ok (.iload_n 2, 1) := by decide +kernel
theorem dX11_fits_113 : decode cX11_fits 113 = .ok (.bipush 10, 2) := by decide +kernel
theorem dX11_fits_115 : decode cX11_fits 115 = .ok (.idiv, 1) := by decide +kernel
theorem dX11_fits_116 : decode cX11_fits 116 = .ok (.iload 4, 2) := by decide +kernel
theorem dX11_fits_118 : decode cX11_fits 118 = .ok (.invokestatic 178, 3) := by decide +kernel
theorem dX11_fits_121 : decode cX11_fits 121 = .ok (.iload 9, 2) := by decide +kernel
theorem dX11_fits_123 : decode cX11_fits 123 = .ok (.iastore, 1) := by decide +kernel
theorem dX11_fits_124 : decode cX11_fits 124 = .ok (.aload_n 0, 1) := by decide +kernel
theorem dX11_fits_125 : decode cX11_fits 125 = .ok (.iload_n 1, 1) := by decide +kernel
theorem dX11_fits_126 : decode cX11_fits 126 = .ok (.iload 4, 2) := by decide +kernel
theorem dX11_fits_128 : decode cX11_fits 128 = .ok (.invokevirtual 317, 3) := by decide +kernel
theorem dX11_fits_131 : decode cX11_fits 131 = .ok (.bipush (-2), 2) := by decide +kernel
theorem dX11_fits_133 : decode cX11_fits 133 = .ok (.if_icmp .ne 25, 3) := by decide +kernel
theorem dX11_fits_136 : decode cX11_fits 136 = .ok (.iinc 5 1, 3) := by decide +kernel
theorem dX11_fits_139 : decode cX11_fits 139 = .ok (.iload 6, 2) := by decide +kernel
theorem dX11_fits_141 : decode cX11_fits 141 = .ok (.bipush (-2), 2) := by decide +kernel
theorem dX11_fits_143 : decode cX11_fits 143 = .ok (.if_icmp .ne 11, 3) := by decide +kernel
theorem dX11_fits_146 : decode cX11_fits 146 = .ok (.iload 9, 2) := by decide +kernel
theorem dX11_fits_148 : decode cX11_fits 148 = .ok (.bipush 100, 2) := by decide +kernel
theorem dX11_fits_150 : decode cX11_fits 150 = .ok (.iadd, 1) := by decide +kernel
theorem dX11_fits_151 : decode cX11_fits 151 = .ok (.goto 5, 3) := by decide +kernel
theorem dX11_fits_154 : decode cX11_fits 154 = .ok (.iload 6, 2) := by decide +kernel
theorem dX11_fits_156 : decode cX11_fits 156 = .ok (.istore 6, 2) := by decide +kernel
theorem dX11_fits_158 : decode cX11_fits 158 = .ok (.iinc 9 1, 3) := by decide +kernel
theorem dX11_fits_161 : decode cX11_fits 161 = .ok (.goto (-74), 3) := by decide +kernel
theorem dX11_fits_164 : decode cX11_fits 164 = .ok (.iload_n 3, 1) := by decide +kernel
theorem dX11_fits_165 : decode cX11_fits 165 = .ok (.iconst 1, 1) := by decide +kernel
theorem dX11_fits_166 : decode cX11_fits 166 = .ok (.if_icmp .ne 8, 3) := by decide +kernel
theorem dX11_fits_169 : decode cX11_fits 169 = .ok (.iload 6, 2) := by decide +kernel
theorem dX11_fits_171 : decode cX11_fits 171 = .ok (.goto 5, 3) := by decide +kernel
theorem dX11_fits_174 : decode cX11_fits 174 = .ok (.iload 5, 2) := by decide +kernel
theorem dX11_fits_176 : decode cX11_fits 176 = .ok (.ireturn, 1) := by decide +kernel
theorem dX11_playedFrom_0 : decode cX11_playedFrom 0 = .ok (.iload_n 3, 1) := by decide +kernel
theorem dX11_playedFrom_1 : decode cX11_playedFrom 1 = .ok (.iload 4, 2) := by decide +kernel
theorem dX11_playedFrom_3 : decode cX11_playedFrom 3 = .ok (.if_icmp .ne 30, 3) := by decide +kernel
theorem dX11_playedFrom_6 : decode cX11_playedFrom 6 = .ok (.aload_n 0, 1) := by decide +kernel
theorem dX11_playedFrom_7 : decode cX11_playedFrom 7 = .ok (.invokevirtual 293, 3) := by decide +kernel
theorem dX11_playedFrom_10 : decode cX11_playedFrom 10 = .ok (.aload_n 0, 1) := by decide +kernel
theorem dX11_playedFrom_11 : decode cX11_playedFrom 11 = .ok (.getfield 65, 3) := by decide +kernel
theorem dX11_playedFrom_14 : decode cX11_playedFrom 14 = .ok (.iload_n 2, 1) := by decide +kernel
theorem dX11_playedFrom_15 : decode cX11_playedFrom 15 = .ok (.iload_n 1, 1) := by decide +kernel
theorem dX11_playedFrom_16 : decode cX11_playedFrom 16 = .ok (.invokestatic 178, 3) := by decide +kernel
theorem dX11_playedFrom_19 : decode cX11_playedFrom 19 = .ok (.iload 5, 2) := by decide +kernel
theorem dX11_playedFrom_21 : decode cX11_playedFrom 21 = .ok (.iastore, 1) := by decide +kernel
theorem dX11_playedFrom_22 : decode cX11_playedFrom 22 = .ok (.aload_n 0, 1) := by decide +kernel
theorem dX11_playedFrom_23 : decode cX11_playedFrom 23 = .ok (.invokevirtual 303, 3) := by decide +kernel
theorem dX11_playedFrom_26 : decode cX11_playedFrom 26 = .ok (.aload_n 0, 1) := by decide +kernel
theorem dX11_playedFrom_27 : decode cX11_playedFrom 27 = .ok (.getfield 65, 3) := by decide +kernel
theorem dX11_playedFrom_30 : decode cX11_playedFrom 30 = .ok (.iload_n 1, 1) := by decide +kernel
theorem dX11_playedFrom_31 : decode cX11_playedFrom 31 = .ok (.iaload, 1) := by decide +kernel
theorem dX11_playedFrom_32 : decode cX11_playedFrom 32 = .ok (.ireturn, 1) := by decide +kernel
theorem dX11_playedFrom_33 : decode cX11_playedFrom 33 = .ok (.aload_n 0, 1) := by decide +kernel
theorem dX11_playedFrom_34 : decode cX11_playedFrom 34 = .ok (.iload_n 1, 1) := by decide +kernel
theorem dX11_playedFrom_35 : decode cX11_playedFrom 35 = .ok (.iload_n 2, 1) := by decide +kernel
theorem dX11_playedFrom_36 : decode cX11_playedFrom 36 = .ok (.iload_n 3, 1) := by decide +kernel
theorem dX11_playedFrom_37 : decode cX11_playedFrom 37 = .ok (.iconst 1, 1) := by decide +kernel
theorem dX11_playedFrom_38 : decode cX11_playedFrom 38 = .ok (.iadd, 1) := by decide +kernel
theorem dX11_playedFrom_39 : decode cX11_playedFrom 39 = .ok (.iload 4, 2) := by decide +kernel
theorem dX11_playedFrom_41 : decode cX11_playedFrom 41 = .ok (.iload 5, 2) := by decide +kernel
theorem dX11_playedFrom_43 : decode cX11_playedFrom 43 = .ok (.invokevirtual 320, 3) := by decide +kernel
theorem dX11_playedFrom_46 : decode cX11_playedFrom 46 = .ok (.istore 6, 2) := by decide +kernel
theorem dX11_playedFrom_48 : decode cX11_playedFrom 48 = .ok (.aload_n 0, 1) := by decide +kernel
theorem dX11_playedFrom_49 : decode cX11_playedFrom 49 = .ok (.iload_n 1, 1) := by decide +kernel
theorem dX11_playedFrom_50 : decode cX11_playedFrom 50 = .ok (.iload_n 2, 1) := by decide +kernel
theorem dX11_playedFrom_51 : decode cX11_playedFrom 51 = .ok (.iload_n 3, 1) := by decide +kernel
theorem dX11_playedFrom_52 : decode cX11_playedFrom 52 = .ok (.iconst 1, 1) := by decide +kernel
theorem dX11_playedFrom_53 : decode cX11_playedFrom 53 = .ok (.iadd, 1) := by decide +kernel
theorem dX11_playedFrom_54 : decode cX11_playedFrom 54 = .ok (.iload 4, 2) := by decide +kernel
theorem dX11_playedFrom_56 : decode cX11_playedFrom 56 = .ok (.iload_n 3, 1) := by decide +kernel
theorem dX11_playedFrom_57 : decode cX11_playedFrom 57 = .ok (.iconst 2, 1) := by decide +kernel
theorem dX11_playedFrom_58 : decode cX11_playedFrom 58 = .ok (.irem, 1) := by decide +kernel
theorem dX11_playedFrom_59 : decode cX11_playedFrom 59 = .ok (.ifCond .ne 15, 3) := by decide +kernel
theorem dX11_playedFrom_62 : decode cX11_playedFrom 62 = .ok (.bipush (-9), 2) := by decide +kernel
theorem dX11_playedFrom_64 : decode cX11_playedFrom 64 = .ok (.iload 5, 2) := by decide +kernel
theorem dX11_playedFrom_66 : decode cX11_playedFrom 66 = .ok (.iconst 2, 1) := by decide +kernel
theorem dX11_playedFrom_67 : decode cX11_playedFrom 67 = .ok (.isub, 1) := by decide +kernel
theorem dX11_playedFrom_68 : decode cX11_playedFrom 68 = .ok (.invokestatic 324, 3) := by decide +kernel
theorem dX11_playedFrom_71 : decode cX11_playedFrom 71 = .ok (.goto 12, 3) := by decide +kernel
theorem dX11_playedFrom_74 : decode cX11_playedFrom 74 = .ok (.bipush 9, 2) := by decide +kernel
theorem dX11_playedFrom_76 : decode cX11_playedFrom 76 = .ok (.iload 5, 2) := by decide +kernel
theorem dX11_playedFrom_78 : decode cX11_playedFrom 78 = .ok (.iconst 2, 1) := by decide +kernel
theorem dX11_playedFrom_79 : decode cX11_playedFrom 79 = .ok (.iadd, 1) := by decide +kernel
theorem dX11_playedFrom_80 : decode cX11_playedFrom 80 = .ok (.invokestatic 265, 3) := by decide +kernel
theorem dX11_playedFrom_83 : decode cX11_playedFrom 83 = .ok (.invokevirtual 320, 3) := by decide +kernel
theorem dX11_playedFrom_86 : decode cX11_playedFrom 86 = .ok (.istore 7, 2) := by decide +kernel
theorem dX11_playedFrom_88 : decode cX11_playedFrom 88 = .ok (.iload_n 3, 1) := by decide +kernel
theorem dX11_playedFrom_89 : decode cX11_playedFrom 89 = .ok (.iconst 2, 1) := by decide +kernel
theorem dX11_playedFrom_90 : decode cX11_playedFrom 90 = .ok (.irem, 1) := by decide +kernel
theorem dX11_playedFrom_91 : decode cX11_playedFrom 91 = .ok (.ifCond .ne 13, 3) := by decide +kernel
theorem dX11_playedFrom_94 : decode cX11_playedFrom 94 = .ok (.iload 6, 2) := by decide +kernel
theorem dX11_playedFrom_96 : decode cX11_playedFrom 96 = .ok (.iload 7, 2) := by decide +kernel
theorem dX11_playedFrom_98 : decode cX11_playedFrom 98 = .ok (.invokestatic 265, 3) := by decide +kernel
theorem dX11_playedFrom_101 : decode cX11_playedFrom 101 = .ok (.goto 10, 3) := by decide +kernel
theorem dX11_playedFrom_104 : decode cX11_playedFrom 104 = .ok (.iload 6, 2) := by decide +kernel
theorem dX11_playedFrom_106 : decode cX11_playedFrom 106 = .ok (.iload 7, 2) := by decide +kernel
theorem dX11_playedFrom_108 : decode cX11_playedFrom 108 = .ok (.invokestatic 324, 3) := by decide +kernel
theorem dX11_playedFrom_111 : decode cX11_playedFrom 111 = .ok (.ireturn, 1) := by decide +kernel
theorem dX11_byTurns_0 : decode cX11_byTurns 0 = .ok (.aload_n 0, 1) := by decide +kernel
theorem dX11_byTurns_1 : decode cX11_byTurns 1 = .ok (.iload_n 1, 1) := by decide +kernel
theorem dX11_byTurns_2 : decode cX11_byTurns 2 = .ok (.invokevirtual 173, 3) := by decide +kernel
theorem dX11_byTurns_5 : decode cX11_byTurns 5 = .ok (.ifCond .eq 25, 3) := by decide +kernel
theorem dX11_byTurns_8 : decode cX11_byTurns 8 = .ok (.iload_n 2, 1) := by decide +kernel
theorem dX11_byTurns_9 : decode cX11_byTurns 9 = .ok (.i2l, 1) := by decide +kernel
theorem dX11_byTurns_10 : decode cX11_byTurns 10 = .ok (.lconst 1, 1) := by decide +kernel
theorem dX11_byTurns_11 : decode cX11_byTurns 11 = .ok (.ldc2_w 160, 3) := by decide +kernel
theorem dX11_byTurns_14 : decode cX11_byTurns 14 = .ok (.invokestatic 136, 3) := by decide +kernel
theorem dX11_byTurns_17 : decode cX11_byTurns 17 = .ok (.ifCond .eq 13, 3) := by decide +kernel
theorem dX11_byTurns_20 : decode cX11_byTurns 20 = .ok (.iload_n 3, 1) := by decide +kernel
theorem dX11_byTurns_21 : decode cX11_byTurns 21 = .ok (.i2l, 1) := by decide +kernel
theorem dX11_byTurns_22 : decode cX11_byTurns 22 = .ok (.lconst 0, 1) := by decide +kernel
theorem dX11_byTurns_23 : decode cX11_byTurns 23 = .ok (.lconst 1, 1) := by decide +kernel
theorem dX11_byTurns_24 : decode cX11_byTurns 24 = .ok (.invokestatic 136, 3) := by decide +kernel
theorem dX11_byTurns_27 : decode cX11_byTurns 27 = .ok (.ifCond .ne 5, 3) := by decide +kernel
theorem dX11_byTurns_30 : decode cX11_byTurns 30 = .ok (.iconst (-1), 1) := by decide +kernel
theorem dX11_byTurns_31 : decode cX11_byTurns 31 = .ok (.ireturn, 1) := by decide +kernel
theorem dX11_byTurns_32 : decode cX11_byTurns 32 = .ok (.iload_n 1, 1) := by decide +kernel
theorem dX11_byTurns_33 : decode cX11_byTurns 33 = .ok (.bipush 10, 2) := by decide +kernel
theorem dX11_byTurns_35 : decode cX11_byTurns 35 = .ok (.idiv, 1) := by decide +kernel
theorem dX11_byTurns_36 : decode cX11_byTurns 36 = .ok (.istore 4, 2) := by decide +kernel
theorem dX11_byTurns_38 : decode cX11_byTurns 38 = .ok (.iload_n 1, 1) := by decide +kernel
theorem dX11_byTurns_39 : decode cX11_byTurns 39 = .ok (.bipush 10, 2) := by decide +kernel
theorem dX11_byTurns_41 : decode cX11_byTurns 41 = .ok (.irem, 1) := by decide +kernel
theorem dX11_byTurns_42 : decode cX11_byTurns 42 = .ok (.istore 5, 2) := by decide +kernel
theorem dX11_byTurns_44 : decode cX11_byTurns 44 = .ok (.aload_n 0, 1) := by decide +kernel
theorem dX11_byTurns_45 : decode cX11_byTurns 45 = .ok (.getfield 9, 3) := by decide +kernel
theorem dX11_byTurns_48 : decode cX11_byTurns 48 = .ok (.iload 5, 2) := by decide +kernel
theorem dX11_byTurns_50 : decode cX11_byTurns 50 = .ok (.iload 4, 2) := by decide +kernel
theorem dX11_byTurns_52 : decode cX11_byTurns 52 = .ok (.invokestatic 178, 3) := by decide +kernel
theorem dX11_byTurns_55 : decode cX11_byTurns 55 = .ok (.iaload, 1) := by decide +kernel
theorem dX11_byTurns_56 : decode cX11_byTurns 56 = .ok (.istore 6, 2) := by decide +kernel
theorem dX11_byTurns_58 : decode cX11_byTurns 58 = .ok (.aload_n 0, 1) := by decide +kernel
theorem dX11_byTurns_59 : decode cX11_byTurns 59 = .ok (.iload 4, 2) := by decide +kernel
theorem dX11_byTurns_61 : decode cX11_byTurns 61 = .ok (.iload 5, 2) := by decide +kernel
theorem dX11_byTurns_63 : decode cX11_byTurns 63 = .ok (.iconst 0, 1) := by decide +kernel
theorem dX11_byTurns_64 : decode cX11_byTurns 64 = .ok (.iload_n 2, 1) := by decide +kernel
theorem dX11_byTurns_65 : decode cX11_byTurns 65 = .ok (.iload 6, 2) := by decide +kernel
theorem dX11_byTurns_67 : decode cX11_byTurns 67 = .ok (.invokevirtual 320, 3) := by decide +kernel
theorem dX11_byTurns_70 : decode cX11_byTurns 70 = .ok (.istore 7, 2) := by decide +kernel
theorem dX11_byTurns_72 : decode cX11_byTurns 72 = .ok (.iload_n 3, 1) := by decide +kernel
theorem dX11_byTurns_73 : decode cX11_byTurns 73 = .ok (.ifCond .ne 8, 3) := by decide +kernel
theorem dX11_byTurns_76 : decode cX11_byTurns 76 = .ok (.iload 7, 2) := by decide +kernel
theorem dX11_byTurns_78 : decode cX11_byTurns 78 = .ok (.goto 25, 3) := by decide +kernel
theorem dX11_byTurns_81 : decode cX11_byTurns 81 = .ok (.aload_n 0, 1) := by decide +kernel
theorem dX11_byTurns_82 : decode cX11_byTurns 82 = .ok (.iload 4, 2) := by decide +kernel
theorem dX11_byTurns_84 : decode cX11_byTurns 84 = .ok (.iload 5, 2) := by decide +kernel
theorem dX11_byTurns_86 : decode cX11_byTurns 86 = .ok (.iconst 1, 1) := by decide +kernel
theorem dX11_byTurns_87 : decode cX11_byTurns 87 = .ok (.iload_n 2, 1) := by decide +kernel
theorem dX11_byTurns_88 : decode cX11_byTurns 88 = .ok (.iload 6, 2) := by decide +kernel
theorem dX11_byTurns_90 : decode cX11_byTurns 90 = .ok (.invokevirtual 320, 3) := by decide +kernel
theorem dX11_byTurns_93 : decode cX11_byTurns 93 = .ok (.iload 7, 2) := by decide +kernel
theorem dX11_byTurns_95 : decode cX11_byTurns 95 = .ok (.if_icmp .ne 7, 3) := by decide +kernel
theorem dX11_byTurns_98 : decode cX11_byTurns 98 = .ok (.iconst 0, 1) := by decide +kernel
theorem dX11_byTurns_99 : decode cX11_byTurns 99 = .ok (.goto 4, 3) := by decide +kernel
theorem dX11_byTurns_102 : decode cX11_byTurns 102 = .ok (.iconst 1, 1) := by decide +kernel
theorem dX11_byTurns_103 : decode cX11_byTurns 103 = .ok (.ireturn, 1) := by decide +kernel
theorem dX11_drawn_0 : decode cX11_drawn 0 = .ok (.iload_n 2, 1) := by decide +kernel
theorem dX11_drawn_1 : decode cX11_drawn 1 = .ok (.sipush 10000, 3) := by decide +kernel
theorem dX11_drawn_4 : decode cX11_drawn 4 = .ok (.idiv, 1) := by decide +kernel
theorem dX11_drawn_5 : decode cX11_drawn 5 = .ok (.istore 4, 2) := by decide +kernel
theorem dX11_drawn_7 : decode cX11_drawn 7 = .ok (.iload_n 2, 1) := by decide +kernel
theorem dX11_drawn_8 : decode cX11_drawn 8 = .ok (.bipush 100, 2) := by decide +kernel
theorem dX11_drawn_10 : decode cX11_drawn 10 = .ok (.idiv, 1) := by decide +kernel
theorem dX11_drawn_11 : decode cX11_drawn 11 = .ok (.bipush 100, 2) := by decide +kernel
theorem dX11_drawn_13 : decode cX11_drawn 13 = .ok (.irem, 1) := by decide +kernel
theorem dX11_drawn_14 : decode cX11_drawn 14 = .ok (.istore 5, 2) := by decide +kernel
theorem dX11_drawn_16 : decode cX11_drawn 16 = .ok (.iload_n 2, 1) := by decide +kernel
theorem dX11_drawn_17 : decode cX11_drawn 17 = .ok (.bipush 100, 2) := by decide +kernel
theorem dX11_drawn_19 : decode cX11_drawn 19 = .ok (.irem, 1) := by decide +kernel
theorem dX11_drawn_20 : decode cX11_drawn 20 = .ok (.istore 6, 2) := by decide +kernel
theorem dX11_drawn_22 : decode cX11_drawn 22 = .ok (.iload_n 2, 1) := by decide +kernel
theorem dX11_drawn_23 : decode cX11_drawn 23 = .ok (.ifCond .lt 56, 3) := by decide +kernel
theorem dX11_drawn_26 : decode cX11_drawn 26 = .ok (.iload 4, 2) := by decide +kernel
theorem dX11_drawn_28 : decode cX11_drawn 28 = .ok (.i2l, 1) := by decide +kernel
theorem dX11_drawn_29 : decode cX11_drawn 29 = .ok (.lconst 1, 1) := by decide +kernel
theorem dX11_drawn_30 : decode cX11_drawn 30 = .ok (.ldc2_w 327, 3) := by decide +kernel
theorem dX11_drawn_33 : decode cX11_drawn 33 = .ok (.invokestatic 136, 3) := by decide +kernel
theorem dX11_drawn_36 : decode cX11_drawn 36 = .ok (.ifCond .eq 43, 3) := by decide +kernel
theorem dX11_drawn_39 : decode cX11_drawn 39 = .ok (.iload 5, 2) := by decide +kernel
theorem dX11_drawn_41 : decode cX11_drawn 41 = .ok (.i2l, 1) := by decide +kernel
theorem dX11_drawn_42 : decode cX11_drawn 42 = .ok (.lconst 1, 1) := by decide +kernel
theorem dX11_drawn_43 : decode cX11_drawn 43 = .ok (.ldc2_w 327, 3) := by decide +kernel
theorem dX11_drawn_46 : decode cX11_drawn 46 = .ok (.invokestatic 136, 3) := by decide +kernel
theorem dX11_drawn_49 : decode cX11_drawn 49 = .ok (.ifCond .eq 30, 3) := by decide +kernel
theorem dX11_drawn_52 : decode cX11_drawn 52 = .ok (.iload 6, 2) := by decide +kernel
theorem dX11_drawn_54 : decode cX11_drawn 54 = .ok (.i2l, 1) := by decide +kernel
theorem dX11_drawn_55 : decode cX11_drawn 55 = .ok (.lconst 0, 1) := by decide +kernel
theorem dX11_drawn_56 : decode cX11_drawn 56 = .ok (.ldc2_w 329, 3) := by decide +kernel
theorem dX11_drawn_59 : decode cX11_drawn 59 = .ok (.invokestatic 136, 3) := by decide +kernel
theorem dX11_drawn_62 : decode cX11_drawn 62 = .ok (.ifCond .eq 17, 3) := by decide +kernel
theorem dX11_drawn_65 : decode cX11_drawn 65 = .ok (.iload_n 3, 1) := by decide +kernel
theorem dX11_drawn_66 : decode cX11_drawn 66 = .ok (.iconst (-1), 1) := by decide +kernel
theorem dX11_drawn_67 : decode cX11_drawn 67 = .ok (.if_icmp .eq 14, 3) := by decide +kernel
theorem dX11_drawn_70 : decode cX11_drawn 70 = .ok (.aload_n 0, 1) := by decide +kernel
theorem dX11_drawn_71 : decode cX11_drawn 71 = .ok (.iload_n 3, 1) := by decide +kernel
theorem dX11_drawn_72 : decode cX11_drawn 72 = .ok (.i2l, 1) := by decide +kernel
theorem dX11_drawn_73 : decode cX11_drawn 73 = .ok (.invokevirtual 140, 3) := by decide +kernel
theorem dX11_drawn_76 : decode cX11_drawn 76 = .ok (.ifCond .ne 5, 3) := by decide +kernel
theorem dX11_drawn_79 : decode cX11_drawn 79 = .ok (.iconst (-1), 1) := by decide +kernel
theorem dX11_drawn_80 : decode cX11_drawn 80 = .ok (.ireturn, 1) := by decide +kernel
theorem dX11_drawn_81 : decode cX11_drawn 81 = .ok (.iload_n 1, 1) := by decide +kernel
theorem dX11_drawn_82 : decode cX11_drawn 82 = .ok (.istore 7, 2) := by decide +kernel
theorem dX11_drawn_84 : decode cX11_drawn 84 = .ok (.iconst 0, 1) := by decide +kernel
theorem dX11_drawn_85 : decode cX11_drawn 85 = .ok (.istore 8, 2) := by decide +kernel
theorem dX11_drawn_87 : decode cX11_drawn 87 = .ok (.iconst 0, 1) := by decide +kernel
theorem dX11_drawn_88 : decode cX11_drawn 88 = .ok (.istore 9, 2) := by decide +kernel
theorem dX11_drawn_90 : decode cX11_drawn 90 = .ok (.iconst 0, 1) := by decide +kernel
theorem dX11_drawn_91 : decode cX11_drawn 91 = .ok (.istore 10, 2) := by decide +kernel
theorem dX11_drawn_93 : decode cX11_drawn 93 = .ok (.iload 10, 2) := by decide +kernel
theorem dX11_drawn_95 : decode cX11_drawn 95 = .ok (.iload 4, 2) := by decide +kernel
theorem dX11_drawn_97 : decode cX11_drawn 97 = .ok (.if_icmp .ge 144, 3) := by decide +kernel
theorem dX11_drawn_100 : decode cX11_drawn 100 = .ok (.aload_n 0, 1) := by decide +kernel
theorem dX11_drawn_101 : decode cX11_drawn 101 = .ok (.invokevirtual 293, 3) := by decide +kernel
theorem dX11_drawn_104 : decode cX11_drawn 104 = .ok (.iconst 0, 1) := by decide +kernel
theorem dX11_drawn_105 : decode cX11_drawn 105 = .ok (.istore 11, 2) := by decide +kernel
theorem dX11_drawn_107 : decode cX11_drawn 107 = .ok (.iload 11, 2) := by decide +kernel
theorem dX11_drawn_109 : decode cX11_drawn 109 = .ok (.iload 5, 2) := by decide +kernel
theorem dX11_drawn_111 : decode cX11_drawn 111 = .ok (.if_icmp .ge 104, 3) := by decide +kernel
theorem dX11_drawn_114 : decode cX11_drawn 114 = .ok (.iload 7, 2) := by decide +kernel
theorem dX11_drawn_116 : decode cX11_drawn 116 = .ok (.ldc_w 331, 3) := by decide +kernel
theorem dX11_drawn_119 : decode cX11_drawn 119 = .ok (.imul, 1) := by decide +kernel
theorem dX11_drawn_120 : decode cX11_drawn 120 = .ok (.sipush 12345, 3) := by decide +kernel
theorem dX11_drawn_123 : decode cX11_drawn 123 = .ok (.iadd, 1) := by decide +kernel
theorem dX11_drawn_124 : decode cX11_drawn 124 = .ok (.istore 7, 2) := by decide +kernel
theorem dX11_drawn_126 : decode cX11_drawn 126 = .ok (.aload_n 0, 1) := by decide +kernel
theorem dX11_drawn_127 : decode cX11_drawn 127 = .ok (.getfield 133, 3) := by decide +kernel
theorem dX11_drawn_130 : decode cX11_drawn 130 = .ok (.iconst 1, 1) := by decide +kernel
theorem dX11_drawn_131 : decode cX11_drawn 131 = .ok (.if_icmp .le 65, 3) := by decide +kernel
theorem dX11_drawn_134 : decode cX11_drawn 134 = .ok (.iload 7, 2) := by decide +kernel
theorem dX11_drawn_136 : decode cX11_drawn 136 = .ok (.bipush 16, 2) := by decide +kernel
theorem dX11_drawn_138 : decode cX11_drawn 138 = .ok (.iushr, 1) := by decide +kernel
theorem dX11_drawn_139 : decode cX11_drawn 139 = .ok (.bipush 12, 2) := by decide +kernel
theorem dX11_drawn_141 : decode cX11_drawn 141 = .ok (.irem, 1) := by decide +kernel
theorem dX11_drawn_142 : decode cX11_drawn 142 = .ok (.iload 6, 2) := by decide +kernel
theorem dX11_drawn_144 : decode cX11_drawn 144 = .ok (.if_icmp .ge 52, 3) := by decide +kernel
theorem dX11_drawn_147 : decode cX11_drawn 147 = .ok (.iload 7, 2) := by decide +kernel
theorem dX11_drawn_149 : decode cX11_drawn 149 = .ok (.bipush 8, 2) := by decide +kernel
theorem dX11_drawn_151 : decode cX11_drawn 151 = .ok (.iushr, 1) := by decide +kernel
theorem dX11_drawn_152 : decode cX11_drawn 152 = .ok (.aload_n 0, 1) := by decide +kernel
theorem dX11_drawn_153 : decode cX11_drawn 153 = .ok (.getfield 133, 3) := by decide +kernel
theorem dX11_drawn_156 : decode cX11_drawn 156 = .ok (.irem, 1) := by decide +kernel
theorem dX11_drawn_157 : decode cX11_drawn 157 = .ok (.istore 12, 2) := by decide +kernel
theorem dX11_drawn_159 : decode cX11_drawn 159 = .ok (.iload 12, 2) := by decide +kernel
theorem dX11_drawn_161 : decode cX11_drawn 161 = .ok (.iconst 1, 1) := by decide +kernel
theorem dX11_drawn_162 : decode cX11_drawn 162 = .ok (.iadd, 1) := by decide +kernel
theorem dX11_drawn_163 : decode cX11_drawn 163 = .ok (.iload 7, 2) := by decide +kernel
theorem dX11_drawn_165 : decode cX11_drawn 165 = .ok (.iconst 4, 1) := by decide +kernel
theorem dX11_drawn_166 : decode cX11_drawn 166 = .ok (.iushr, 1) := by decide +kernel
theorem dX11_drawn_167 : decode cX11_drawn 167 = .ok (.aload_n 0, 1) := by decide +kernel
theorem dX11_drawn_168 : decode cX11_drawn 168 = .ok (.getfield 133, 3) := by decide +kernel
theorem dX11_drawn_171 : decode cX11_drawn 171 = .ok (.iconst 1, 1) := by decide +kernel
theorem dX11_drawn_172 : decode cX11_drawn 172 = .ok (.isub, 1) := by decide +kernel
theorem dX11_drawn_173 : decode cX11_drawn 173 = .ok (.irem, 1) := by decide +kernel
theorem dX11_drawn_174 : decode cX11_drawn 174 = .ok (.iadd, 1) := by decide +kernel
theorem dX11_drawn_175 : decode cX11_drawn 175 = .ok (.aload_n 0, 1) := by decide +kernel
theorem dX11_drawn_176 : decode cX11_drawn 176 = .ok (.getfield 133, 3) := by decide +kernel
theorem dX11_drawn_179 : decode cX11_drawn 179 = .ok (.irem, 1) := by decide +kernel
theorem dX11_drawn_180 : decode cX11_drawn 180 = .ok (.istore 13, 2) := by decide +kernel
theorem dX11_drawn_182 : decode cX11_drawn 182 = .ok (.aload_n 0, 1) := by decide +kernel
theorem dX11_drawn_183 : decode cX11_drawn 183 = .ok (.getfield 65, 3) := by decide +kernel
theorem dX11_drawn_186 : decode cX11_drawn 186 = .ok (.iload 12, 2) := by decide +kernel
theorem dX11_drawn_188 : decode cX11_drawn 188 = .ok (.iload 13, 2) := by decide +kernel
theorem dX11_drawn_190 : decode cX11_drawn 190 = .ok (.invokestatic 178, 3) := by decide +kernel
theorem dX11_drawn_193 : decode cX11_drawn 193 = .ok (.bipush (-5), 2) := by decide +kernel
theorem dX11_drawn_195 : decode cX11_drawn 195 = .ok (.iastore, 1) := by decide +kernel
theorem dX11_drawn_196 : decode cX11_drawn 196 = .ok (.aload_n 0, 1) := by decide +kernel
theorem dX11_drawn_197 : decode cX11_drawn 197 = .ok (.invokevirtual 303, 3) := by decide +kernel
theorem dX11_drawn_200 : decode cX11_drawn 200 = .ok (.iload 9, 2) := by decide +kernel
theorem dX11_drawn_202 : decode cX11_drawn 202 = .ok (.aload_n 0, 1) := by decide +kernel
theorem dX11_drawn_203 : decode cX11_drawn 203 = .ok (.getfield 258, 3) := by decide +kernel
theorem dX11_drawn_206 : decode cX11_drawn 206 = .ok (.iadd, 1) := by decide +kernel
theorem dX11_drawn_207 : decode cX11_drawn 207 = .ok (.istore 9, 2) := by decide +kernel
theorem dX11_drawn_209 : decode cX11_drawn 209 = .ok (.iinc 11 1, 3) := by decide +kernel
theorem dX11_drawn_212 : decode cX11_drawn 212 = .ok (.goto (-105), 3) := by decide +kernel
theorem dX11_drawn_215 : decode cX11_drawn 215 = .ok (.iload 8, 2) := by decide +kernel
theorem dX11_drawn_217 : decode cX11_drawn 217 = .ok (.iload_n 3, 1) := by decide +kernel
theorem dX11_drawn_218 : decode cX11_drawn 218 = .ok (.iconst (-1), 1) := by decide +kernel
theorem dX11_drawn_219 : decode cX11_drawn 219 = .ok (.if_icmp .ne 7, 3) := by decide +kernel
theorem dX11_drawn_222 : decode cX11_drawn 222 = .ok (.iconst 0, 1) := by decide +kernel
theorem dX11_drawn_223 : decode cX11_drawn 223 = .ok (.goto 9, 3) := by decide +kernel
theorem dX11_drawn_226 : decode cX11_drawn 226 = .ok (.aload_n 0, 1) := by decide +kernel
theorem dX11_drawn_227 : decode cX11_drawn 227 = .ok (.getfield 65, 3) := by decide +kernel
theorem dX11_drawn_230 : decode cX11_drawn 230 = .ok (.iload_n 3, 1) := by decide +kernel
theorem dX11_drawn_231 : decode cX11_drawn 231 = .ok (.iaload, 1) := by decide +kernel
theorem dX11_drawn_232 : decode cX11_drawn 232 = .ok (.iadd, 1) := by decide +kernel
theorem dX11_drawn_233 : decode cX11_drawn 233 = .ok (.istore 8, 2) := by decide +kernel
theorem dX11_drawn_235 : decode cX11_drawn 235 = .ok (.iinc 10 1, 3) := by decide +kernel
theorem dX11_drawn_238 : decode cX11_drawn 238 = .ok (.goto (-145), 3) := by decide +kernel
theorem dX11_drawn_241 : decode cX11_drawn 241 = .ok (.iload_n 3, 1) := by decide +kernel
theorem dX11_drawn_242 : decode cX11_drawn 242 = .ok (.iconst (-1), 1) := by decide +kernel
theorem dX11_drawn_243 : decode cX11_drawn 243 = .ok (.if_icmp .ne 8, 3) := by decide +kernel
theorem dX11_drawn_246 : decode cX11_drawn 246 = .ok (.iload 9, 2) := by decide +kernel
theorem dX11_drawn_248 : decode cX11_drawn 248 = .ok (.goto 5, 3) := by decide +kernel
theorem dX11_drawn_251 : decode cX11_drawn 251 = .ok (.iload 8, 2) := by decide +kernel
theorem dX11_drawn_253 : decode cX11_drawn 253 = .ok (.ireturn, 1) := by decide +kernel
theorem dX11_writesTale_0 : decode cX11_writesTale 0 = .ok (.aload_n 0, 1) := by decide +kernel
theorem dX11_writesTale_1 : decode cX11_writesTale 1 = .ok (.getfield 96, 3) := by decide +kernel
theorem dX11_writesTale_4 : decode cX11_writesTale 4 = .ok (.aload_n 0, 1) := by decide +kernel
theorem dX11_writesTale_5 : decode cX11_writesTale 5 = .ok (.getfield 332, 3) := by decide +kernel
theorem dX11_writesTale_8 : decode cX11_writesTale 8 = .ok (.iload_n 1, 1) := by decide +kernel
theorem dX11_writesTale_9 : decode cX11_writesTale 9 = .ok (.iastore, 1) := by decide +kernel
theorem dX11_writesTale_10 : decode cX11_writesTale 10 = .ok (.aload_n 0, 1) := by decide +kernel
theorem dX11_writesTale_11 : decode cX11_writesTale 11 = .ok (.dup, 1) := by decide +kernel
theorem dX11_writesTale_12 : decode cX11_writesTale 12 = .ok (.getfield 332, 3) := by decide +kernel
theorem dX11_writesTale_15 : decode cX11_writesTale 15 = .ok (.iconst 1, 1) := by decide +kernel
theorem dX11_writesTale_16 : decode cX11_writesTale 16 = .ok (.iadd, 1) := by decide +kernel
theorem dX11_writesTale_17 : decode cX11_writesTale 17 = .ok (.putfield 332, 3) := by decide +kernel
theorem dX11_writesTale_20 : decode cX11_writesTale 20 = .ok (.return_, 1) := by decide +kernel
theorem dX11_tells_0 : decode cX11_tells 0 = .ok (.aload_n 0, 1) := by decide +kernel
theorem dX11_tells_1 : decode cX11_tells 1 = .ok (.bipush 48, 2) := by decide +kernel
theorem dX11_tells_3 : decode cX11_tells 3 = .ok (.iload_n 1, 1) := by decide +kernel
theorem dX11_tells_4 : decode cX11_tells 4 = .ok (.iadd, 1) := by decide +kernel
theorem dX11_tells_5 : decode cX11_tells 5 = .ok (.invokevirtual 335, 3) := by decide +kernel
theorem dX11_tells_8 : decode cX11_tells 8 = .ok (.aload_n 0, 1) := by decide +kernel
theorem dX11_tells_9 : decode cX11_tells 9 = .ok (.bipush 60, 2) := by decide +kernel
theorem dX11_tells_11 : decode cX11_tells 11 = .ok (.invokevirtual 335, 3) := by decide +kernel
theorem dX11_tells_14 : decode cX11_tells 14 = .ok (.aload_n 0, 1) := by decide +kernel
theorem dX11_tells_15 : decode cX11_tells 15 = .ok (.bipush 48, 2) := by decide +kernel
theorem dX11_tells_17 : decode cX11_tells 17 = .ok (.iload_n 2, 1) := by decide +kernel
theorem dX11_tells_18 : decode cX11_tells 18 = .ok (.iadd, 1) := by decide +kernel
theorem dX11_tells_19 : decode cX11_tells 19 = .ok (.invokevirtual 335, 3) := by decide +kernel
theorem dX11_tells_22 : decode cX11_tells 22 = .ok (.aload_n 0, 1) := by decide +kernel
theorem dX11_tells_23 : decode cX11_tells 23 = .ok (.bipush 124, 2) := by decide +kernel
theorem dX11_tells_25 : decode cX11_tells 25 = .ok (.invokevirtual 335, 3) := by decide +kernel
theorem dX11_tells_28 : decode cX11_tells 28 = .ok (.aload_n 0, 1) := by decide +kernel
theorem dX11_tells_29 : decode cX11_tells 29 = .ok (.bipush 48, 2) := by decide +kernel
theorem dX11_tells_31 : decode cX11_tells 31 = .ok (.iload_n 3, 1) := by decide +kernel
theorem dX11_tells_32 : decode cX11_tells 32 = .ok (.iadd, 1) := by decide +kernel
theorem dX11_tells_33 : decode cX11_tells 33 = .ok (.invokevirtual 335, 3) := by decide +kernel
theorem dX11_tells_36 : decode cX11_tells 36 = .ok (.aload_n 0, 1) := by decide +kernel
theorem dX11_tells_37 : decode cX11_tells 37 = .ok (.bipush 58, 2) := by decide +kernel
theorem dX11_tells_39 : decode cX11_tells 39 = .ok (.invokevirtual 335, 3) := by decide +kernel
theorem dX11_tells_42 : decode cX11_tells 42 = .ok (.iload 4, 2) := by decide +kernel
theorem dX11_tells_44 : decode cX11_tells 44 = .ok (.bipush 9, 2) := by decide +kernel
theorem dX11_tells_46 : decode cX11_tells 46 = .ok (.if_icmp .le 15, 3) := by decide +kernel
theorem dX11_tells_49 : decode cX11_tells 49 = .ok (.aload_n 0, 1) := by decide +kernel
theorem dX11_tells_50 : decode cX11_tells 50 = .ok (.bipush 48, 2) := by decide +kernel
theorem dX11_tells_52 : decode cX11_tells 52 = .ok (.iload 4, 2) := by decide +kernel
theorem dX11_tells_54 : decode cX11_tells 54 = .ok (.bipush 10, 2) := by decide +kernel
theorem dX11_tells_56 : decode cX11_tells 56 = .ok (.idiv, 1) := by decide +kernel
theorem dX11_tells_57 : decode cX11_tells 57 = .ok (.iadd, 1) := by decide +kernel
theorem dX11_tells_58 : decode cX11_tells 58 = .ok (.invokevirtual 335, 3) := by decide +kernel
