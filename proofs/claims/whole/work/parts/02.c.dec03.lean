theorem dX12_isNear_5 : decode cX12_isNear 5 = .ok (.iaload, 1) := by decide +kernel
theorem dX12_isNear_6 : decode cX12_isNear 6 = .ok (.aload_n 0, 1) := by decide +kernel
theorem dX12_isNear_7 : decode cX12_isNear 7 = .ok (.getfield 7, 3) := by decide +kernel
theorem dX12_isNear_10 : decode cX12_isNear 10 = .ok (.iload_n 1, 1) := by decide +kernel
theorem dX12_isNear_11 : decode cX12_isNear 11 = .ok (.iaload, 1) := by decide +kernel
theorem dX12_isNear_12 : decode cX12_isNear 12 = .ok (.isub, 1) := by decide +kernel
theorem dX12_isNear_13 : decode cX12_isNear 13 = .ok (.i2l, 1) := by decide +kernel
theorem dX12_isNear_14 : decode cX12_isNear 14 = .ok (.lstore 5, 2) := by decide +kernel
theorem dX12_isNear_16 : decode cX12_isNear 16 = .ok (.aload_n 0, 1) := by decide +kernel
theorem dX12_isNear_17 : decode cX12_isNear 17 = .ok (.getfield 13, 3) := by decide +kernel
theorem dX12_isNear_20 : decode cX12_isNear 20 = .ok (.iload_n 2, 1) := by decide +kernel
theorem dX12_isNear_21 : decode cX12_isNear 21 = .ok (.iaload, 1) := by decide +kernel
theorem dX12_isNear_22 : decode cX12_isNear 22 = .ok (.aload_n 0, 1) := by decide +kernel
theorem dX12_isNear_23 : decode cX12_isNear 23 = .ok (.getfield 13, 3) := by decide +kernel
theorem dX12_isNear_26 : decode cX12_isNear 26 = .ok (.iload_n 1, 1) := by decide +kernel
theorem dX12_isNear_27 : decode cX12_isNear 27 = .ok (.iaload, 1) := by decide +kernel
theorem dX12_isNear_28 : decode cX12_isNear 28 = .ok (.isub, 1) := by decide +kernel
theorem dX12_isNear_29 : decode cX12_isNear 29 = .ok (.i2l, 1) := by decide +kernel
theorem dX12_isNear_30 : decode cX12_isNear 30 = .ok (.lstore 7, 2) := by decide +kernel
theorem dX12_isNear_32 : decode cX12_isNear 32 = .ok (.lload 5, 2) := by decide +kernel
theorem dX12_isNear_34 : decode cX12_isNear 34 = .ok (.aload_n 0, 1) := by decide +kernel
theorem dX12_isNear_35 : decode cX12_isNear 35 = .ok (.getfield 13, 3) := by decide +kernel
theorem dX12_isNear_38 : decode cX12_isNear 38 = .ok (.iload_n 3, 1) := by decide +kernel
theorem dX12_isNear_39 : decode cX12_isNear 39 = .ok (.iaload, 1) := by decide +kernel
theorem dX12_isNear_40 : decode cX12_isNear 40 = .ok (.aload_n 0, 1) := by decide +kernel
theorem dX12_isNear_41 : decode cX12_isNear 41 = .ok (.getfield 13, 3) := by decide +kernel
theorem dX12_isNear_44 : decode cX12_isNear 44 = .ok (.iload_n 1, 1) := by decide +kernel
theorem dX12_isNear_45 : decode cX12_isNear 45 = .ok (.iaload, 1) := by decide +kernel
theorem dX12_isNear_46 : decode cX12_isNear 46 = .ok (.isub, 1) := by decide +kernel
theorem dX12_isNear_47 : decode cX12_isNear 47 = .ok (.i2l, 1) := by decide +kernel
theorem dX12_isNear_48 : decode cX12_isNear 48 = .ok (.lmul, 1) := by decide +kernel
theorem dX12_isNear_49 : decode cX12_isNear 49 = .ok (.lload 7, 2) := by decide +kernel
theorem dX12_isNear_51 : decode cX12_isNear 51 = .ok (.aload_n 0, 1) := by decide +kernel
theorem dX12_isNear_52 : decode cX12_isNear 52 = .ok (.getfield 7, 3) := by decide +kernel
theorem dX12_isNear_55 : decode cX12_isNear 55 = .ok (.iload_n 3, 1) := by decide +kernel
theorem dX12_isNear_56 : decode cX12_isNear 56 = .ok (.iaload, 1) := by decide +kernel
theorem dX12_isNear_57 : decode cX12_isNear 57 = .ok (.aload_n 0, 1) := by decide +kernel
theorem dX12_isNear_58 : decode cX12_isNear 58 = .ok (.getfield 7, 3) := by decide +kernel
theorem dX12_isNear_61 : decode cX12_isNear 61 = .ok (.iload_n 1, 1) := by decide +kernel
theorem dX12_isNear_62 : decode cX12_isNear 62 = .ok (.iaload, 1) := by decide +kernel
theorem dX12_isNear_63 : decode cX12_isNear 63 = .ok (.isub, 1) := by decide +kernel
theorem dX12_isNear_64 : decode cX12_isNear 64 = .ok (.i2l, 1) := by decide +kernel
theorem dX12_isNear_65 : decode cX12_isNear 65 = .ok (.lmul, 1) := by decide +kernel
theorem dX12_isNear_66 : decode cX12_isNear 66 = .ok (.lsub, 1) := by decide +kernel
theorem dX12_isNear_67 : decode cX12_isNear 67 = .ok (.lstore 9, 2) := by decide +kernel
theorem dX12_isNear_69 : decode cX12_isNear 69 = .ok (.lload 9, 2) := by decide +kernel
theorem dX12_isNear_71 : decode cX12_isNear 71 = .ok (.lload 9, 2) := by decide +kernel
theorem dX12_isNear_73 : decode cX12_isNear 73 = .ok (.lmul, 1) := by decide +kernel
theorem dX12_isNear_74 : decode cX12_isNear 74 = .ok (.iload 4, 2) := by decide +kernel
theorem dX12_isNear_76 : decode cX12_isNear 76 = .ok (.i2l, 1) := by decide +kernel
theorem dX12_isNear_77 : decode cX12_isNear 77 = .ok (.iload 4, 2) := by decide +kernel
theorem dX12_isNear_79 : decode cX12_isNear 79 = .ok (.i2l, 1) := by decide +kernel
theorem dX12_isNear_80 : decode cX12_isNear 80 = .ok (.lmul, 1) := by decide +kernel
theorem dX12_isNear_81 : decode cX12_isNear 81 = .ok (.lload 5, 2) := by decide +kernel
theorem dX12_isNear_83 : decode cX12_isNear 83 = .ok (.lload 5, 2) := by decide +kernel
theorem dX12_isNear_85 : decode cX12_isNear 85 = .ok (.lmul, 1) := by decide +kernel
theorem dX12_isNear_86 : decode cX12_isNear 86 = .ok (.lload 7, 2) := by decide +kernel
theorem dX12_isNear_88 : decode cX12_isNear 88 = .ok (.lload 7, 2) := by decide +kernel
theorem dX12_isNear_90 : decode cX12_isNear 90 = .ok (.lmul, 1) := by decide +kernel
theorem dX12_isNear_91 : decode cX12_isNear 91 = .ok (.ladd, 1) := by decide +kernel
theorem dX12_isNear_92 : decode cX12_isNear 92 = .ok (.lmul, 1) := by decide +kernel
theorem dX12_isNear_93 : decode cX12_isNear 93 = .ok (.lcmp, 1) := by decide +kernel
theorem dX12_isNear_94 : decode cX12_isNear 94 = .ok (.ifCond .gt 7, 3) := by decide +kernel
theorem dX12_isNear_97 : decode cX12_isNear 97 = .ok (.iconst 1, 1) := by decide +kernel
theorem dX12_isNear_98 : decode cX12_isNear 98 = .ok (.goto 4, 3) := by decide +kernel
theorem dX12_isNear_101 : decode cX12_isNear 101 = .ok (.iconst 0, 1) := by decide +kernel
theorem dX12_isNear_102 : decode cX12_isNear 102 = .ok (.ireturn, 1) := by decide +kernel
theorem dX12_track_0 : decode cX12_track 0 = .ok (.aload_n 0, 1) := by decide +kernel
theorem dX12_track_1 : decode cX12_track 1 = .ok (.iconst 0, 1) := by decide +kernel
theorem dX12_track_2 : decode cX12_track 2 = .ok (.putfield 108, 3) := by decide +kernel
theorem dX12_track_5 : decode cX12_track 5 = .ok (.iload_n 1, 1) := by decide +kernel
theorem dX12_track_6 : decode cX12_track 6 = .ok (.i2l, 1) := by decide +kernel
theorem dX12_track_7 : decode cX12_track 7 = .ok (.lconst 0, 1) := by decide +kernel
theorem dX12_track_8 : decode cX12_track 8 = .ok (.ldc2_w 148, 3) := by decide +kernel
theorem dX12_track_11 : decode cX12_track 11 = .ok (.invokestatic 116, 3) := by decide +kernel
theorem dX12_track_14 : decode cX12_track 14 = .ok (.ifCond .eq 22, 3) := by decide +kernel
theorem dX12_track_17 : decode cX12_track 17 = .ok (.iload_n 2, 1) := by decide +kernel
theorem dX12_track_18 : decode cX12_track 18 = .ok (.i2l, 1) := by decide +kernel
theorem dX12_track_19 : decode cX12_track 19 = .ok (.lconst 0, 1) := by decide +kernel
theorem dX12_track_20 : decode cX12_track 20 = .ok (.ldc2_w 167, 3) := by decide +kernel
theorem dX12_track_23 : decode cX12_track 23 = .ok (.invokestatic 116, 3) := by decide +kernel
theorem dX12_track_26 : decode cX12_track 26 = .ok (.ifCond .eq 10, 3) := by decide +kernel
theorem dX12_track_29 : decode cX12_track 29 = .ok (.iload_n 3, 1) := by decide +kernel
theorem dX12_track_30 : decode cX12_track 30 = .ok (.invokestatic 139, 3) := by decide +kernel
theorem dX12_track_33 : decode cX12_track 33 = .ok (.ifCond .ne 5, 3) := by decide +kernel
theorem dX12_track_36 : decode cX12_track 36 = .ok (.iconst (-1), 1) := by decide +kernel
theorem dX12_track_37 : decode cX12_track 37 = .ok (.ireturn, 1) := by decide +kernel
theorem dX12_track_38 : decode cX12_track 38 = .ok (.aload_n 0, 1) := by decide +kernel
theorem dX12_track_39 : decode cX12_track 39 = .ok (.iload_n 3, 1) := by decide +kernel
theorem dX12_track_40 : decode cX12_track 40 = .ok (.invokevirtual 164, 3) := by decide +kernel
theorem dX12_track_43 : decode cX12_track 43 = .ok (.iconst 0, 1) := by decide +kernel
theorem dX12_track_44 : decode cX12_track 44 = .ok (.istore 4, 2) := by decide +kernel
theorem dX12_track_46 : decode cX12_track 46 = .ok (.aload_n 0, 1) := by decide +kernel
theorem dX12_track_47 : decode cX12_track 47 = .ok (.iconst (-1), 1) := by decide +kernel
theorem dX12_track_48 : decode cX12_track 48 = .ok (.putfield 62, 3) := by decide +kernel
theorem dX12_track_51 : decode cX12_track 51 = .ok (.aload_n 0, 1) := by decide +kernel
theorem dX12_track_52 : decode cX12_track 52 = .ok (.iconst (-1), 1) := by decide +kernel
theorem dX12_track_53 : decode cX12_track 53 = .ok (.putfield 66, 3) := by decide +kernel
theorem dX12_track_56 : decode cX12_track 56 = .ok (.aload_n 0, 1) := by decide +kernel
theorem dX12_track_57 : decode cX12_track 57 = .ok (.iload_n 2, 1) := by decide +kernel
theorem dX12_track_58 : decode cX12_track 58 = .ok (.putfield 169, 3) := by decide +kernel
theorem dX12_track_61 : decode cX12_track 61 = .ok (.iconst 0, 1) := by decide +kernel
theorem dX12_track_62 : decode cX12_track 62 = .ok (.istore 5, 2) := by decide +kernel
theorem dX12_track_64 : decode cX12_track 64 = .ok (.iload 5, 2) := by decide +kernel
theorem dX12_track_66 : decode cX12_track 66 = .ok (.aload_n 0, 1) := by decide +kernel
theorem dX12_track_67 : decode cX12_track 67 = .ok (.getfield 122, 3) := by decide +kernel
theorem dX12_track_70 : decode cX12_track 70 = .ok (.if_icmp .ge 174, 3) := by decide +kernel
theorem dX12_track_73 : decode cX12_track 73 = .ok (.iload 5, 2) := by decide +kernel
theorem dX12_track_75 : decode cX12_track 75 = .ok (.iconst 1, 1) := by decide +kernel
theorem dX12_track_76 : decode cX12_track 76 = .ok (.iadd, 1) := by decide +kernel
theorem dX12_track_77 : decode cX12_track 77 = .ok (.istore 6, 2) := by decide +kernel
theorem dX12_track_79 : decode cX12_track 79 = .ok (.iload 6, 2) := by decide +kernel
theorem dX12_track_81 : decode cX12_track 81 = .ok (.aload_n 0, 1) := by decide +kernel
theorem dX12_track_82 : decode cX12_track 82 = .ok (.getfield 122, 3) := by decide +kernel
theorem dX12_track_85 : decode cX12_track 85 = .ok (.if_icmp .ge 153, 3) := by decide +kernel
theorem dX12_track_88 : decode cX12_track 88 = .ok (.aload_n 0, 1) := by decide +kernel
theorem dX12_track_89 : decode cX12_track 89 = .ok (.iload 5, 2) := by decide +kernel
theorem dX12_track_91 : decode cX12_track 91 = .ok (.iload_n 1, 1) := by decide +kernel
theorem dX12_track_92 : decode cX12_track 92 = .ok (.invokevirtual 172, 3) := by decide +kernel
theorem dX12_track_95 : decode cX12_track 95 = .ok (.ifCond .eq 51, 3) := by decide +kernel
theorem dX12_track_98 : decode cX12_track 98 = .ok (.aload_n 0, 1) := by decide +kernel
theorem dX12_track_99 : decode cX12_track 99 = .ok (.iload 6, 2) := by decide +kernel
theorem dX12_track_101 : decode cX12_track 101 = .ok (.iload_n 1, 1) := by decide +kernel
theorem dX12_track_102 : decode cX12_track 102 = .ok (.invokevirtual 172, 3) := by decide +kernel
theorem dX12_track_105 : decode cX12_track 105 = .ok (.ifCond .eq 41, 3) := by decide +kernel
theorem dX12_track_108 : decode cX12_track 108 = .ok (.aload_n 0, 1) := by decide +kernel
theorem dX12_track_109 : decode cX12_track 109 = .ok (.getfield 7, 3) := by decide +kernel
theorem dX12_track_112 : decode cX12_track 112 = .ok (.iload 5, 2) := by decide +kernel
theorem dX12_track_114 : decode cX12_track 114 = .ok (.iaload, 1) := by decide +kernel
theorem dX12_track_115 : decode cX12_track 115 = .ok (.aload_n 0, 1) := by decide +kernel
theorem dX12_track_116 : decode cX12_track 116 = .ok (.getfield 7, 3) := by decide +kernel
theorem dX12_track_119 : decode cX12_track 119 = .ok (.iload 6, 2) := by decide +kernel
theorem dX12_track_121 : decode cX12_track 121 = .ok (.iaload, 1) := by decide +kernel
theorem dX12_track_122 : decode cX12_track 122 = .ok (.if_icmp .ne 20, 3) := by decide +kernel
theorem dX12_track_125 : decode cX12_track 125 = .ok (.aload_n 0, 1) := by decide +kernel
theorem dX12_track_126 : decode cX12_track 126 = .ok (.getfield 13, 3) := by decide +kernel
theorem dX12_track_129 : decode cX12_track 129 = .ok (.iload 5, 2) := by decide +kernel
theorem dX12_track_131 : decode cX12_track 131 = .ok (.iaload, 1) := by decide +kernel
theorem dX12_track_132 : decode cX12_track 132 = .ok (.aload_n 0, 1) := by decide +kernel
theorem dX12_track_133 : decode cX12_track 133 = .ok (.getfield 13, 3) := by decide +kernel
theorem dX12_track_136 : decode cX12_track 136 = .ok (.iload 6, 2) := by decide +kernel
theorem dX12_track_138 : decode cX12_track 138 = .ok (.iaload, 1) := by decide +kernel
theorem dX12_track_139 : decode cX12_track 139 = .ok (.if_icmp .eq 7, 3) := by decide +kernel
theorem dX12_track_142 : decode cX12_track 142 = .ok (.iconst 1, 1) := by decide +kernel
theorem dX12_track_143 : decode cX12_track 143 = .ok (.goto 4, 3) := by decide +kernel
theorem dX12_track_146 : decode cX12_track 146 = .ok (.iconst 0, 1) := by decide +kernel
theorem dX12_track_147 : decode cX12_track 147 = .ok (.istore 7, 2) := by decide +kernel
theorem dX12_track_149 : decode cX12_track 149 = .ok (.iconst 0, 1) := by decide +kernel
theorem dX12_track_150 : decode cX12_track 150 = .ok (.istore 8, 2) := by decide +kernel
theorem dX12_track_152 : decode cX12_track 152 = .ok (.iconst 0, 1) := by decide +kernel
theorem dX12_track_153 : decode cX12_track 153 = .ok (.istore 9, 2) := by decide +kernel
theorem dX12_track_155 : decode cX12_track 155 = .ok (.iload 9, 2) := by decide +kernel
theorem dX12_track_157 : decode cX12_track 157 = .ok (.aload_n 0, 1) := by decide +kernel
theorem dX12_track_158 : decode cX12_track 158 = .ok (.getfield 122, 3) := by decide +kernel
theorem dX12_track_161 : decode cX12_track 161 = .ok (.if_icmp .ge 48, 3) := by decide +kernel
theorem dX12_track_164 : decode cX12_track 164 = .ok (.iload 7, 2) := by decide +kernel
theorem dX12_track_166 : decode cX12_track 166 = .ok (.ifCond .eq 43, 3) := by decide +kernel
theorem dX12_track_169 : decode cX12_track 169 = .ok (.iload 8, 2) := by decide +kernel
theorem dX12_track_171 : decode cX12_track 171 = .ok (.aload_n 0, 1) := by decide +kernel
theorem dX12_track_172 : decode cX12_track 172 = .ok (.iload 9, 2) := by decide +kernel
theorem dX12_track_174 : decode cX12_track 174 = .ok (.iload_n 1, 1) := by decide +kernel
theorem dX12_track_175 : decode cX12_track 175 = .ok (.invokevirtual 172, 3) := by decide +kernel
theorem dX12_track_178 : decode cX12_track 178 = .ok (.ifCond .eq 21, 3) := by decide +kernel
theorem dX12_track_181 : decode cX12_track 181 = .ok (.aload_n 0, 1) := by decide +kernel
theorem dX12_track_182 : decode cX12_track 182 = .ok (.iload 5, 2) := by decide +kernel
theorem dX12_track_184 : decode cX12_track 184 = .ok (.iload 6, 2) := by decide +kernel
theorem dX12_track_186 : decode cX12_track 186 = .ok (.iload 9, 2) := by decide +kernel
theorem dX12_track_188 : decode cX12_track 188 = .ok (.iload_n 2, 1) := by decide +kernel
theorem dX12_track_189 : decode cX12_track 189 = .ok (.invokevirtual 176, 3) := by decide +kernel
theorem dX12_track_192 : decode cX12_track 192 = .ok (.ifCond .eq 7, 3) := by decide +kernel
theorem dX12_track_195 : decode cX12_track 195 = .ok (.iconst 1, 1) := by decide +kernel
theorem dX12_track_196 : decode cX12_track 196 = .ok (.goto 4, 3) := by decide +kernel
theorem dX12_track_199 : decode cX12_track 199 = .ok (.iconst 0, 1) := by decide +kernel
theorem dX12_track_200 : decode cX12_track 200 = .ok (.iadd, 1) := by decide +kernel
theorem dX12_track_201 : decode cX12_track 201 = .ok (.istore 8, 2) := by decide +kernel
theorem dX12_track_203 : decode cX12_track 203 = .ok (.iinc 9 1, 3) := by decide +kernel
theorem dX12_track_206 : decode cX12_track 206 = .ok (.goto (-51), 3) := by decide +kernel
theorem dX12_track_209 : decode cX12_track 209 = .ok (.iload 8, 2) := by decide +kernel
theorem dX12_track_211 : decode cX12_track 211 = .ok (.iload 4, 2) := by decide +kernel
theorem dX12_track_213 : decode cX12_track 213 = .ok (.if_icmp .le 19, 3) := by decide +kernel
theorem dX12_track_216 : decode cX12_track 216 = .ok (.iload 8, 2) := by decide +kernel
theorem dX12_track_218 : decode cX12_track 218 = .ok (.istore 4, 2) := by decide +kernel
theorem dX12_track_220 : decode cX12_track 220 = .ok (.aload_n 0, 1) := by decide +kernel
theorem dX12_track_221 : decode cX12_track 221 = .ok (.iload 5, 2) := by decide +kernel
theorem dX12_track_223 : decode cX12_track 223 = .ok (.putfield 62, 3) := by decide +kernel
theorem dX12_track_226 : decode cX12_track 226 = .ok (.aload_n 0, 1) := by decide +kernel
theorem dX12_track_227 : decode cX12_track 227 = .ok (.iload 6, 2) := by decide +kernel
theorem dX12_track_229 : decode cX12_track 229 = .ok (.putfield 66, 3) := by decide +kernel
theorem dX12_track_232 : decode cX12_track 232 = .ok (.iinc 6 1, 3) := by decide +kernel
theorem dX12_track_235 : decode cX12_track 235 = .ok (.goto (-156), 3) := by decide +kernel
theorem dX12_track_238 : decode cX12_track 238 = .ok (.iinc 5 1, 3) := by decide +kernel
theorem dX12_track_241 : decode cX12_track 241 = .ok (.goto (-177), 3) := by decide +kernel
theorem dX12_track_244 : decode cX12_track 244 = .ok (.iload 4, 2) := by decide +kernel
theorem dX12_track_246 : decode cX12_track 246 = .ok (.ireturn, 1) := by decide +kernel
theorem dX12_isHit_0 : decode cX12_isHit 0 = .ok (.aload_n 0, 1) := by decide +kernel
theorem dX12_isHit_1 : decode cX12_isHit 1 = .ok (.getfield 58, 3) := by decide +kernel
theorem dX12_isHit_4 : decode cX12_isHit 4 = .ok (.iload_n 1, 1) := by decide +kernel
theorem dX12_isHit_5 : decode cX12_isHit 5 = .ok (.baload, 1) := by decide +kernel
theorem dX12_isHit_6 : decode cX12_isHit 6 = .ok (.ifCond .eq 17, 3) := by decide +kernel
theorem dX12_isHit_9 : decode cX12_isHit 9 = .ok (.aload_n 0, 1) := by decide +kernel
theorem dX12_isHit_10 : decode cX12_isHit 10 = .ok (.getfield 52, 3) := by decide +kernel
theorem dX12_isHit_13 : decode cX12_isHit 13 = .ok (.iload_n 1, 1) := by decide +kernel
theorem dX12_isHit_14 : decode cX12_isHit 14 = .ok (.iaload, 1) := by decide +kernel
theorem dX12_isHit_15 : decode cX12_isHit 15 = .ok (.iload_n 2, 1) := by decide +kernel
theorem dX12_isHit_16 : decode cX12_isHit 16 = .ok (.if_icmp .lt 7, 3) := by decide +kernel
theorem dX12_isHit_19 : decode cX12_isHit 19 = .ok (.iconst 1, 1) := by decide +kernel
theorem dX12_isHit_20 : decode cX12_isHit 20 = .ok (.goto 4, 3) := by decide +kernel
theorem dX12_isHit_23 : decode cX12_isHit 23 = .ok (.iconst 0, 1) := by decide +kernel
theorem dX12_isHit_24 : decode cX12_isHit 24 = .ok (.ireturn, 1) := by decide +kernel
theorem dX12_through_0 : decode cX12_through 0 = .ok (.aload_n 0, 1) := by decide +kernel
theorem dX12_through_1 : decode cX12_through 1 = .ok (.iconst 0, 1) := by decide +kernel
theorem dX12_through_2 : decode cX12_through 2 = .ok (.putfield 108, 3) := by decide +kernel
theorem dX12_through_5 : decode cX12_through 5 = .ok (.iload_n 1, 1) := by decide +kernel
theorem dX12_through_6 : decode cX12_through 6 = .ok (.ifCond .ne 10, 3) := by decide +kernel
theorem dX12_through_9 : decode cX12_through 9 = .ok (.aload_n 0, 1) := by decide +kernel
theorem dX12_through_10 : decode cX12_through 10 = .ok (.getfield 62, 3) := by decide +kernel
theorem dX12_through_13 : decode cX12_through 13 = .ok (.goto 16, 3) := by decide +kernel
theorem dX12_through_16 : decode cX12_through 16 = .ok (.iload_n 1, 1) := by decide +kernel
theorem dX12_through_17 : decode cX12_through 17 = .ok (.iconst 1, 1) := by decide +kernel
theorem dX12_through_18 : decode cX12_through 18 = .ok (.if_icmp .ne 10, 3) := by decide +kernel
theorem dX12_through_21 : decode cX12_through 21 = .ok (.aload_n 0, 1) := by decide +kernel
theorem dX12_through_22 : decode cX12_through 22 = .ok (.getfield 66, 3) := by decide +kernel
theorem dX12_through_25 : decode cX12_through 25 = .ok (.goto 4, 3) := by decide +kernel
theorem dX12_through_28 : decode cX12_through 28 = .ok (.iconst (-1), 1) := by decide +kernel
theorem dX12_through_29 : decode cX12_through 29 = .ok (.ireturn, 1) := by decide +kernel
theorem dX12_within_0 : decode cX12_within 0 = .ok (.aload_n 0, 1) := by decide +kernel
theorem dX12_within_1 : decode cX12_within 1 = .ok (.iconst 0, 1) := by decide +kernel
theorem dX12_within_2 : decode cX12_within 2 = .ok (.putfield 108, 3) := by decide +kernel
theorem dX12_within_5 : decode cX12_within 5 = .ok (.aload_n 0, 1) := by decide +kernel
theorem dX12_within_6 : decode cX12_within 6 = .ok (.getfield 62, 3) := by decide +kernel
theorem dX12_within_9 : decode cX12_within 9 = .ok (.iconst (-1), 1) := by decide +kernel
theorem dX12_within_10 : decode cX12_within 10 = .ok (.if_icmp .eq 11, 3) := by decide +kernel
theorem dX12_within_13 : decode cX12_within 13 = .ok (.aload_n 0, 1) := by decide +kernel
theorem dX12_within_14 : decode cX12_within 14 = .ok (.iload_n 1, 1) := by decide +kernel
theorem dX12_within_15 : decode cX12_within 15 = .ok (.invokevirtual 142, 3) := by decide +kernel
theorem dX12_within_18 : decode cX12_within 18 = .ok (.ifCond .ne 5, 3) := by decide +kernel
theorem dX12_within_21 : decode cX12_within 21 = .ok (.iconst (-1), 1) := by decide +kernel
theorem dX12_within_22 : decode cX12_within 22 = .ok (.ireturn, 1) := by decide +kernel
theorem dX12_within_23 : decode cX12_within 23 = .ok (.aload_n 0, 1) := by decide +kernel
theorem dX12_within_24 : decode cX12_within 24 = .ok (.aload_n 0, 1) := by decide +kernel
theorem dX12_within_25 : decode cX12_within 25 = .ok (.getfield 62, 3) := by decide +kernel
theorem dX12_within_28 : decode cX12_within 28 = .ok (.aload_n 0, 1) := by decide +kernel
theorem dX12_within_29 : decode cX12_within 29 = .ok (.getfield 66, 3) := by decide +kernel
theorem dX12_within_32 : decode cX12_within 32 = .ok (.iload_n 1, 1) := by decide +kernel
theorem dX12_within_33 : decode cX12_within 33 = .ok (.aload_n 0, 1) := by decide +kernel
theorem dX12_within_34 : decode cX12_within 34 = .ok (.getfield 169, 3) := by decide +kernel
theorem dX12_within_37 : decode cX12_within 37 = .ok (.invokevirtual 176, 3) := by decide +kernel
theorem dX12_within_40 : decode cX12_within 40 = .ok (.ifCond .eq 7, 3) := by decide +kernel
theorem dX12_within_43 : decode cX12_within 43 = .ok (.iconst 1, 1) := by decide +kernel
theorem dX12_within_44 : decode cX12_within 44 = .ok (.goto 4, 3) := by decide +kernel
theorem dX12_within_47 : decode cX12_within 47 = .ok (.iconst 0, 1) := by decide +kernel
theorem dX12_within_48 : decode cX12_within 48 = .ok (.ireturn, 1) := by decide +kernel
theorem dX12_farOf_0 : decode cX12_farOf 0 = .ok (.aload_n 0, 1) := by decide +kernel
theorem dX12_farOf_1 : decode cX12_farOf 1 = .ok (.getfield 7, 3) := by decide +kernel
theorem dX12_farOf_4 : decode cX12_farOf 4 = .ok (.iload_n 1, 1) := by decide +kernel
theorem dX12_farOf_5 : decode cX12_farOf 5 = .ok (.iaload, 1) := by decide +kernel
theorem dX12_farOf_6 : decode cX12_farOf 6 = .ok (.iload_n 2, 1) := by decide +kernel
theorem dX12_farOf_7 : decode cX12_farOf 7 = .ok (.isub, 1) := by decide +kernel
theorem dX12_farOf_8 : decode cX12_farOf 8 = .ok (.aload_n 0, 1) := by decide +kernel
theorem dX12_farOf_9 : decode cX12_farOf 9 = .ok (.getfield 7, 3) := by decide +kernel
theorem dX12_farOf_12 : decode cX12_farOf 12 = .ok (.iload_n 1, 1) := by decide +kernel
theorem dX12_farOf_13 : decode cX12_farOf 13 = .ok (.iaload, 1) := by decide +kernel
theorem dX12_farOf_14 : decode cX12_farOf 14 = .ok (.iload_n 2, 1) := by decide +kernel
theorem dX12_farOf_15 : decode cX12_farOf 15 = .ok (.isub, 1) := by decide +kernel
theorem dX12_farOf_16 : decode cX12_farOf 16 = .ok (.imul, 1) := by decide +kernel
theorem dX12_farOf_17 : decode cX12_farOf 17 = .ok (.aload_n 0, 1) := by decide +kernel
theorem dX12_farOf_18 : decode cX12_farOf 18 = .ok (.getfield 13, 3) := by decide +kernel
theorem dX12_farOf_21 : decode cX12_farOf 21 = .ok (.iload_n 1, 1) := by decide +kernel
theorem dX12_farOf_22 : decode cX12_farOf 22 = .ok (.iaload, 1) := by decide +kernel
theorem dX12_farOf_23 : decode cX12_farOf 23 = .ok (.iload_n 3, 1) := by decide +kernel
theorem dX12_farOf_24 : decode cX12_farOf 24 = .ok (.isub, 1) := by decide +kernel
theorem dX12_farOf_25 : decode cX12_farOf 25 = .ok (.aload_n 0, 1) := by decide +kernel
theorem dX12_farOf_26 : decode cX12_farOf 26 = .ok (.getfield 13, 3) := by decide +kernel
theorem dX12_farOf_29 : decode cX12_farOf 29 = .ok (.iload_n 1, 1) := by decide +kernel
theorem dX12_farOf_30 : decode cX12_farOf 30 = .ok (.iaload, 1) := by decide +kernel
theorem dX12_farOf_31 : decode cX12_farOf 31 = .ok (.iload_n 3, 1) := by decide +kernel
theorem dX12_farOf_32 : decode cX12_farOf 32 = .ok (.isub, 1) := by decide +kernel
theorem dX12_farOf_33 : decode cX12_farOf 33 = .ok (.imul, 1) := by decide +kernel
theorem dX12_farOf_34 : decode cX12_farOf 34 = .ok (.iadd, 1) := by decide +kernel
theorem dX12_farOf_35 : decode cX12_farOf 35 = .ok (.ireturn, 1) := by decide +kernel
theorem dX12_findMap_0 : decode cX12_findMap 0 = .ok (.iconst 0, 1) := by decide +kernel
theorem dX12_findMap_1 : decode cX12_findMap 1 = .ok (.istore_n 3, 1) := by decide +kernel
theorem dX12_findMap_2 : decode cX12_findMap 2 = .ok (.iload_n 3, 1) := by decide +kernel
theorem dX12_findMap_3 : decode cX12_findMap 3 = .ok (.aload_n 0, 1) := by decide +kernel
theorem dX12_findMap_4 : decode cX12_findMap 4 = .ok (.getfield 122, 3) := by decide +kernel
theorem dX12_findMap_7 : decode cX12_findMap 7 = .ok (.if_icmp .ge 29, 3) := by decide +kernel
theorem dX12_findMap_10 : decode cX12_findMap 10 = .ok (.aload_n 0, 1) := by decide +kernel
theorem dX12_findMap_11 : decode cX12_findMap 11 = .ok (.getfield 69, 3) := by decide +kernel
theorem dX12_findMap_14 : decode cX12_findMap 14 = .ok (.iload_n 3, 1) := by decide +kernel
theorem dX12_findMap_15 : decode cX12_findMap 15 = .ok (.aload_n 0, 1) := by decide +kernel
theorem dX12_findMap_16 : decode cX12_findMap 16 = .ok (.getfield 58, 3) := by decide +kernel
theorem dX12_findMap_19 : decode cX12_findMap 19 = .ok (.iload_n 3, 1) := by decide +kernel
theorem dX12_findMap_20 : decode cX12_findMap 20 = .ok (.baload, 1) := by decide +kernel
theorem dX12_findMap_21 : decode cX12_findMap 21 = .ok (.ifCond .ne 7, 3) := by decide +kernel
theorem dX12_findMap_24 : decode cX12_findMap 24 = .ok (.iconst 1, 1) := by decide +kernel
theorem dX12_findMap_25 : decode cX12_findMap 25 = .ok (.goto 4, 3) := by decide +kernel
theorem dX12_findMap_28 : decode cX12_findMap 28 = .ok (.iconst 0, 1) := by decide +kernel
theorem dX12_findMap_29 : decode cX12_findMap 29 = .ok (.bastore, 1) := by decide +kernel
theorem dX12_findMap_30 : decode cX12_findMap 30 = .ok (.iinc 3 1, 3) := by decide +kernel
theorem dX12_findMap_33 : decode cX12_findMap 33 = .ok (.goto (-31), 3) := by decide +kernel
theorem dX12_findMap_36 : decode cX12_findMap 36 = .ok (.iconst 0, 1) := by decide +kernel
theorem dX12_findMap_37 : decode cX12_findMap 37 = .ok (.istore_n 3, 1) := by decide +kernel
theorem dX12_findMap_38 : decode cX12_findMap 38 = .ok (.iconst 0, 1) := by decide +kernel
theorem dX12_findMap_39 : decode cX12_findMap 39 = .ok (.istore 4, 2) := by decide +kernel
theorem dX12_findMap_41 : decode cX12_findMap 41 = .ok (.iconst 0, 1) := by decide +kernel
theorem dX12_findMap_42 : decode cX12_findMap 42 = .ok (.istore 5, 2) := by decide +kernel
theorem dX12_findMap_44 : decode cX12_findMap 44 = .ok (.iconst (-1), 1) := by decide +kernel
theorem dX12_findMap_45 : decode cX12_findMap 45 = .ok (.istore 6, 2) := by decide +kernel
theorem dX12_findMap_47 : decode cX12_findMap 47 = .ok (.lconst 0, 1) := by decide +kernel
theorem dX12_findMap_48 : decode cX12_findMap 48 = .ok (.lstore 7, 2) := by decide +kernel
theorem dX12_findMap_50 : decode cX12_findMap 50 = .ok (.lconst 0, 1) := by decide +kernel
theorem dX12_findMap_51 : decode cX12_findMap 51 = .ok (.lstore 9, 2) := by decide +kernel
theorem dX12_findMap_53 : decode cX12_findMap 53 = .ok (.iconst 0, 1) := by decide +kernel
theorem dX12_findMap_54 : decode cX12_findMap 54 = .ok (.istore 11, 2) := by decide +kernel
theorem dX12_findMap_56 : decode cX12_findMap 56 = .ok (.iload 11, 2) := by decide +kernel
theorem dX12_findMap_58 : decode cX12_findMap 58 = .ok (.iconst 3, 1) := by decide +kernel
theorem dX12_findMap_59 : decode cX12_findMap 59 = .ok (.if_icmp .ge 206, 3) := by decide +kernel
theorem dX12_findMap_62 : decode cX12_findMap 62 = .ok (.iconst (-1), 1) := by decide +kernel
theorem dX12_findMap_63 : decode cX12_findMap 63 = .ok (.istore 12, 2) := by decide +kernel
theorem dX12_findMap_65 : decode cX12_findMap 65 = .ok (.iconst 0, 1) := by decide +kernel
theorem dX12_findMap_66 : decode cX12_findMap 66 = .ok (.istore 13, 2) := by decide +kernel
theorem dX12_findMap_68 : decode cX12_findMap 68 = .ok (.iload 13, 2) := by decide +kernel
theorem dX12_findMap_70 : decode cX12_findMap 70 = .ok (.aload_n 0, 1) := by decide +kernel
theorem dX12_findMap_71 : decode cX12_findMap 71 = .ok (.getfield 122, 3) := by decide +kernel
theorem dX12_findMap_74 : decode cX12_findMap 74 = .ok (.if_icmp .ge 52, 3) := by decide +kernel
theorem dX12_findMap_77 : decode cX12_findMap 77 = .ok (.aload_n 0, 1) := by decide +kernel
theorem dX12_findMap_78 : decode cX12_findMap 78 = .ok (.getfield 69, 3) := by decide +kernel
theorem dX12_findMap_81 : decode cX12_findMap 81 = .ok (.iload 13, 2) := by decide +kernel
theorem dX12_findMap_83 : decode cX12_findMap 83 = .ok (.baload, 1) := by decide +kernel
theorem dX12_findMap_84 : decode cX12_findMap 84 = .ok (.ifCond .ne 32, 3) := by decide +kernel
theorem dX12_findMap_87 : decode cX12_findMap 87 = .ok (.iload 12, 2) := by decide +kernel
theorem dX12_findMap_89 : decode cX12_findMap 89 = .ok (.ifCond .lt 22, 3) := by decide +kernel
theorem dX12_findMap_92 : decode cX12_findMap 92 = .ok (.aload_n 0, 1) := by decide +kernel
theorem dX12_findMap_93 : decode cX12_findMap 93 = .ok (.iload 13, 2) := by decide +kernel
theorem dX12_findMap_95 : decode cX12_findMap 95 = .ok (.iload_n 1, 1) := by decide +kernel
theorem dX12_findMap_96 : decode cX12_findMap 96 = .ok (.iload_n 2, 1) := by decide +kernel
theorem dX12_findMap_97 : decode cX12_findMap 97 = .ok (.invokevirtual 180, 3) := by decide +kernel
theorem dX12_findMap_100 : decode cX12_findMap 100 = .ok (.aload_n 0, 1) := by decide +kernel
theorem dX12_findMap_101 : decode cX12_findMap 101 = .ok (.iload 12, 2) := by decide +kernel
theorem dX12_findMap_103 : decode cX12_findMap 103 = .ok (.iload_n 1, 1) := by decide +kernel
theorem dX12_findMap_104 : decode cX12_findMap 104 = .ok (.iload_n 2, 1) := by decide +kernel
theorem dX12_findMap_105 : decode cX12_findMap 105 = .ok (.invokevirtual 180, 3) := by decide +kernel
theorem dX12_findMap_108 : decode cX12_findMap 108 = .ok (.if_icmp .ge 8, 3) := by decide +kernel
theorem dX12_findMap_111 : decode cX12_findMap 111 = .ok (.iload 13, 2) := by decide +kernel
theorem dX12_findMap_113 : decode cX12_findMap 113 = .ok (.goto 5, 3) := by decide +kernel
theorem dX12_findMap_116 : decode cX12_findMap 116 = .ok (.iload 12, 2) := by decide +kernel
theorem dX12_findMap_118 : decode cX12_findMap 118 = .ok (.istore 12, 2) := by decide +kernel
theorem dX12_findMap_120 : decode cX12_findMap 120 = .ok (.iinc 13 1, 3) := by decide +kernel
theorem dX12_findMap_123 : decode cX12_findMap 123 = .ok (.goto (-55), 3) := by decide +kernel
theorem dX12_findMap_126 : decode cX12_findMap 126 = .ok (.iload 12, 2) := by decide +kernel
theorem dX12_findMap_128 : decode cX12_findMap 128 = .ok (.ifCond .ge 6, 3) := by decide +kernel
theorem dX12_findMap_131 : decode cX12_findMap 131 = .ok (.goto 128, 3) := by decide +kernel
theorem dX12_findMap_134 : decode cX12_findMap 134 = .ok (.aload_n 0, 1) := by decide +kernel
theorem dX12_findMap_135 : decode cX12_findMap 135 = .ok (.getfield 69, 3) := by decide +kernel
theorem dX12_findMap_138 : decode cX12_findMap 138 = .ok (.iload 12, 2) := by decide +kernel
theorem dX12_findMap_140 : decode cX12_findMap 140 = .ok (.iconst 1, 1) := by decide +kernel
theorem dX12_findMap_141 : decode cX12_findMap 141 = .ok (.bastore, 1) := by decide +kernel
theorem dX12_findMap_142 : decode cX12_findMap 142 = .ok (.sipush 10000, 3) := by decide +kernel
theorem dX12_findMap_145 : decode cX12_findMap 145 = .ok (.iconst 1, 1) := by decide +kernel
theorem dX12_findMap_146 : decode cX12_findMap 146 = .ok (.aload_n 0, 1) := by decide +kernel
theorem dX12_findMap_147 : decode cX12_findMap 147 = .ok (.iload 12, 2) := by decide +kernel
theorem dX12_findMap_149 : decode cX12_findMap 149 = .ok (.iload_n 1, 1) := by decide +kernel
theorem dX12_findMap_150 : decode cX12_findMap 150 = .ok (.iload_n 2, 1) := by decide +kernel
theorem dX12_findMap_151 : decode cX12_findMap 151 = .ok (.invokevirtual 180, 3) := by decide +kernel
theorem dX12_findMap_154 : decode cX12_findMap 154 = .ok (.iadd, 1) := by decide +kernel
theorem dX12_findMap_155 : decode cX12_findMap 155 = .ok (.idiv, 1) := by decide +kernel
theorem dX12_findMap_156 : decode cX12_findMap 156 = .ok (.istore 13, 2) := by decide +kernel
theorem dX12_findMap_158 : decode cX12_findMap 158 = .ok (.lload 7, 2) := by decide +kernel
theorem dX12_findMap_160 : decode cX12_findMap 160 = .ok (.iload 13, 2) := by decide +kernel
theorem dX12_findMap_162 : decode cX12_findMap 162 = .ok (.i2l, 1) := by decide +kernel
theorem dX12_findMap_163 : decode cX12_findMap 163 = .ok (.ladd, 1) := by decide +kernel
theorem dX12_findMap_164 : decode cX12_findMap 164 = .ok (.lstore 7, 2) := by decide +kernel
theorem dX12_findMap_166 : decode cX12_findMap 166 = .ok (.lload 9, 2) := by decide +kernel
theorem dX12_findMap_168 : decode cX12_findMap 168 = .ok (.iload 13, 2) := by decide +kernel
theorem dX12_findMap_170 : decode cX12_findMap 170 = .ok (.i2l, 1) := by decide +kernel
theorem dX12_findMap_171 : decode cX12_findMap 171 = .ok (.aload_n 0, 1) := by decide +kernel
theorem dX12_findMap_172 : decode cX12_findMap 172 = .ok (.getfield 52, 3) := by decide +kernel
theorem dX12_findMap_175 : decode cX12_findMap 175 = .ok (.iload 12, 2) := by decide +kernel
theorem dX12_findMap_177 : decode cX12_findMap 177 = .ok (.iaload, 1) := by decide +kernel
theorem dX12_findMap_178 : decode cX12_findMap 178 = .ok (.i2l, 1) := by decide +kernel
theorem dX12_findMap_179 : decode cX12_findMap 179 = .ok (.lmul, 1) := by decide +kernel
theorem dX12_findMap_180 : decode cX12_findMap 180 = .ok (.ladd, 1) := by decide +kernel
theorem dX12_findMap_181 : decode cX12_findMap 181 = .ok (.lstore 9, 2) := by decide +kernel
theorem dX12_findMap_183 : decode cX12_findMap 183 = .ok (.iload_n 3, 1) := by decide +kernel
theorem dX12_findMap_184 : decode cX12_findMap 184 = .ok (.ifCond .ne 8, 3) := by decide +kernel
theorem dX12_findMap_187 : decode cX12_findMap 187 = .ok (.iload 12, 2) := by decide +kernel
theorem dX12_findMap_189 : decode cX12_findMap 189 = .ok (.goto 5, 3) := by decide +kernel
theorem dX12_findMap_192 : decode cX12_findMap 192 = .ok (.iload 6, 2) := by decide +kernel
theorem dX12_findMap_194 : decode cX12_findMap 194 = .ok (.istore 6, 2) := by decide +kernel
theorem dX12_findMap_196 : decode cX12_findMap 196 = .ok (.iload_n 3, 1) := by decide +kernel
theorem dX12_findMap_197 : decode cX12_findMap 197 = .ok (.ifCond .eq 15, 3) := by decide +kernel
theorem dX12_findMap_200 : decode cX12_findMap 200 = .ok (.aload_n 0, 1) := by decide +kernel
theorem dX12_findMap_201 : decode cX12_findMap 201 = .ok (.getfield 52, 3) := by decide +kernel
theorem dX12_findMap_204 : decode cX12_findMap 204 = .ok (.iload 12, 2) := by decide +kernel
theorem dX12_findMap_206 : decode cX12_findMap 206 = .ok (.iaload, 1) := by decide +kernel
theorem dX12_findMap_207 : decode cX12_findMap 207 = .ok (.iload 4, 2) := by decide +kernel
theorem dX12_findMap_209 : decode cX12_findMap 209 = .ok (.if_icmp .ge 13, 3) := by decide +kernel
theorem dX12_findMap_212 : decode cX12_findMap 212 = .ok (.aload_n 0, 1) := by decide +kernel
theorem dX12_findMap_213 : decode cX12_findMap 213 = .ok (.getfield 52, 3) := by decide +kernel
theorem dX12_findMap_216 : decode cX12_findMap 216 = .ok (.iload 12, 2) := by decide +kernel
theorem dX12_findMap_218 : decode cX12_findMap 218 = .ok (.iaload, 1) := by decide +kernel
theorem dX12_findMap_219 : decode cX12_findMap 219 = .ok (.goto 5, 3) := by decide +kernel
theorem dX12_findMap_222 : decode cX12_findMap 222 = .ok (.iload 4, 2) := by decide +kernel
theorem dX12_findMap_224 : decode cX12_findMap 224 = .ok (.istore 4, 2) := by decide +kernel
theorem dX12_findMap_226 : decode cX12_findMap 226 = .ok (.iload_n 3, 1) := by decide +kernel
theorem dX12_findMap_227 : decode cX12_findMap 227 = .ok (.ifCond .eq 15, 3) := by decide +kernel
theorem dX12_findMap_230 : decode cX12_findMap 230 = .ok (.aload_n 0, 1) := by decide +kernel
theorem dX12_findMap_231 : decode cX12_findMap 231 = .ok (.getfield 52, 3) := by decide +kernel
theorem dX12_findMap_234 : decode cX12_findMap 234 = .ok (.iload 12, 2) := by decide +kernel
theorem dX12_findMap_236 : decode cX12_findMap 236 = .ok (.iaload, 1) := by decide +kernel
theorem dX12_findMap_237 : decode cX12_findMap 237 = .ok (.iload 5, 2) := by decide +kernel
theorem dX12_findMap_239 : decode cX12_findMap 239 = .ok (.if_icmp .le 13, 3) := by decide +kernel
theorem dX12_findMap_242 : decode cX12_findMap 242 = .ok (.aload_n 0, 1) := by decide +kernel
theorem dX12_findMap_243 : decode cX12_findMap 243 = .ok (.getfield 52, 3) := by decide +kernel
theorem dX12_findMap_246 : decode cX12_findMap 246 = .ok (.iload 12, 2) := by decide +kernel
theorem dX12_findMap_248 : decode cX12_findMap 248 = .ok (.iaload, 1) := by decide +kernel
theorem dX12_findMap_249 : decode cX12_findMap 249 = .ok (.goto 5, 3) := by decide +kernel
theorem dX12_findMap_252 : decode cX12_findMap 252 = .ok (.iload 5, 2) := by decide +kernel
theorem dX12_findMap_254 : decode cX12_findMap 254 = .ok (.istore 5, 2) := by decide +kernel
theorem dX12_findMap_256 : decode cX12_findMap 256 = .ok (.iinc 3 1, 3) := by decide +kernel
theorem dX12_findMap_259 : decode cX12_findMap 259 = .ok (.iinc 11 1, 3) := by decide +kernel
theorem dX12_findMap_262 : decode cX12_findMap 262 = .ok (.goto (-206), 3) := by decide +kernel
theorem dX12_findMap_265 : decode cX12_findMap 265 = .ok (.iload_n 3, 1) := by decide +kernel
theorem dX12_findMap_266 : decode cX12_findMap 266 = .ok (.ifCond .ne 5, 3) := by decide +kernel
theorem dX12_findMap_269 : decode cX12_findMap 269 = .ok (.iconst 0, 1) := by decide +kernel
theorem dX12_findMap_270 : decode cX12_findMap 270 = .ok (.ireturn, 1) := by decide +kernel
theorem dX12_findMap_271 : decode cX12_findMap 271 = .ok (.aload_n 0, 1) := by decide +kernel
theorem dX12_findMap_272 : decode cX12_findMap 272 = .ok (.lload 7, 2) := by decide +kernel
theorem dX12_findMap_274 : decode cX12_findMap 274 = .ok (.lconst 0, 1) := by decide +kernel
theorem dX12_findMap_275 : decode cX12_findMap 275 = .ok (.lcmp, 1) := by decide +kernel
theorem dX12_findMap_276 : decode cX12_findMap 276 = .ok (.ifCond .ne 13, 3) := by decide +kernel
theorem dX12_findMap_279 : decode cX12_findMap 279 = .ok (.aload_n 0, 1) := by decide +kernel
theorem dX12_findMap_280 : decode cX12_findMap 280 = .ok (.getfield 52, 3) := by decide +kernel
theorem dX12_findMap_283 : decode cX12_findMap 283 = .ok (.iload 6, 2) := by decide +kernel
theorem dX12_findMap_285 : decode cX12_findMap 285 = .ok (.iaload, 1) := by decide +kernel
theorem dX12_findMap_286 : decode cX12_findMap 286 = .ok (.goto 9, 3) := by decide +kernel
theorem dX12_findMap_289 : decode cX12_findMap 289 = .ok (.lload 9, 2) := by decide +kernel
theorem dX12_findMap_291 : decode cX12_findMap 291 = .ok (.lload 7, 2) := by decide +kernel
theorem dX12_findMap_293 : decode cX12_findMap 293 = .ok (.ldiv, 1) := by decide +kernel
theorem dX12_findMap_294 : decode cX12_findMap 294 = .ok (.l2i, 1) := by decide +kernel
theorem dX12_findMap_295 : decode cX12_findMap 295 = .ok (.putfield 184, 3) := by decide +kernel
theorem dX12_findMap_298 : decode cX12_findMap 298 = .ok (.iconst 0, 1) := by decide +kernel
theorem dX12_findMap_299 : decode cX12_findMap 299 = .ok (.istore 11, 2) := by decide +kernel
theorem dX12_findMap_301 : decode cX12_findMap 301 = .ok (.iload 11, 2) := by decide +kernel
theorem dX12_findMap_303 : decode cX12_findMap 303 = .ok (.iconst 1, 1) := by decide +kernel
theorem dX12_findMap_304 : decode cX12_findMap 304 = .ok (.iadd, 1) := by decide +kernel
theorem dX12_findMap_305 : decode cX12_findMap 305 = .ok (.iload 11, 2) := by decide +kernel
theorem dX12_findMap_307 : decode cX12_findMap 307 = .ok (.iconst 1, 1) := by decide +kernel
theorem dX12_findMap_308 : decode cX12_findMap 308 = .ok (.iadd, 1) := by decide +kernel
theorem dX12_findMap_309 : decode cX12_findMap 309 = .ok (.imul, 1) := by decide +kernel
theorem dX12_findMap_310 : decode cX12_findMap 310 = .ok (.aload_n 0, 1) := by decide +kernel
theorem dX12_findMap_311 : decode cX12_findMap 311 = .ok (.iload 6, 2) := by decide +kernel
theorem dX12_findMap_313 : decode cX12_findMap 313 = .ok (.iload_n 1, 1) := by decide +kernel
theorem dX12_findMap_314 : decode cX12_findMap 314 = .ok (.iload_n 2, 1) := by decide +kernel
theorem dX12_findMap_315 : decode cX12_findMap 315 = .ok (.invokevirtual 180, 3) := by decide +kernel
theorem dX12_findMap_318 : decode cX12_findMap 318 = .ok (.if_icmp .gt 9, 3) := by decide +kernel
theorem dX12_findMap_321 : decode cX12_findMap 321 = .ok (.iinc 11 1, 3) := by decide +kernel
theorem dX12_findMap_324 : decode cX12_findMap 324 = .ok (.goto (-23), 3) := by decide +kernel
theorem dX12_findMap_327 : decode cX12_findMap 327 = .ok (.bipush 100, 2) := by decide +kernel
theorem dX12_findMap_329 : decode cX12_findMap 329 = .ok (.iconst 4, 1) := by decide +kernel
theorem dX12_findMap_330 : decode cX12_findMap 330 = .ok (.iload 11, 2) := by decide +kernel
theorem dX12_findMap_332 : decode cX12_findMap 332 = .ok (.imul, 1) := by decide +kernel
theorem dX12_findMap_333 : decode cX12_findMap 333 = .ok (.isub, 1) := by decide +kernel
theorem dX12_findMap_334 : decode cX12_findMap 334 = .ok (.bipush 10, 2) := by decide +kernel
theorem dX12_findMap_336 : decode cX12_findMap 336 = .ok (.iconst 3, 1) := by decide +kernel
theorem dX12_findMap_337 : decode cX12_findMap 337 = .ok (.iload_n 3, 1) := by decide +kernel
theorem dX12_findMap_338 : decode cX12_findMap 338 = .ok (.isub, 1) := by decide +kernel
theorem dX12_findMap_339 : decode cX12_findMap 339 = .ok (.imul, 1) := by decide +kernel
theorem dX12_findMap_340 : decode cX12_findMap 340 = .ok (.isub, 1) := by decide +kernel
theorem dX12_findMap_341 : decode cX12_findMap 341 = .ok (.iload 5, 2) := by decide +kernel
theorem dX12_findMap_343 : decode cX12_findMap 343 = .ok (.iload 4, 2) := by decide +kernel
theorem dX12_findMap_345 : decode cX12_findMap 345 = .ok (.isub, 1) := by decide +kernel
theorem dX12_findMap_346 : decode cX12_findMap 346 = .ok (.isub, 1) := by decide +kernel
theorem dX12_findMap_347 : decode cX12_findMap 347 = .ok (.istore 12, 2) := by decide +kernel
theorem dX12_findMap_349 : decode cX12_findMap 349 = .ok (.aload_n 0, 1) := by decide +kernel
theorem dX12_findMap_350 : decode cX12_findMap 350 = .ok (.iload 12, 2) := by decide +kernel
theorem dX12_findMap_352 : decode cX12_findMap 352 = .ok (.ifCond .ge 7, 3) := by decide +kernel
theorem dX12_findMap_355 : decode cX12_findMap 355 = .ok (.iconst 0, 1) := by decide +kernel
theorem dX12_findMap_356 : decode cX12_findMap 356 = .ok (.goto 5, 3) := by decide +kernel
theorem dX12_findMap_359 : decode cX12_findMap 359 = .ok (.iload 12, 2) := by decide +kernel
theorem dX12_findMap_361 : decode cX12_findMap 361 = .ok (.putfield 187, 3) := by decide +kernel
theorem dX12_findMap_364 : decode cX12_findMap 364 = .ok (.iconst 1, 1) := by decide +kernel
theorem dX12_findMap_365 : decode cX12_findMap 365 = .ok (.ireturn, 1) := by decide +kernel
theorem dX12_map_0 : decode cX12_map 0 = .ok (.aload_n 0, 1) := by decide +kernel
theorem dX12_map_1 : decode cX12_map 1 = .ok (.iconst 0, 1) := by decide +kernel
theorem dX12_map_2 : decode cX12_map 2 = .ok (.putfield 108, 3) := by decide +kernel
theorem dX12_map_5 : decode cX12_map 5 = .ok (.iload_n 1, 1) := by decide +kernel
theorem dX12_map_6 : decode cX12_map 6 = .ok (.invokestatic 125, 3) := by decide +kernel
theorem dX12_map_9 : decode cX12_map 9 = .ok (.ifCond .eq 28, 3) := by decide +kernel
theorem dX12_map_12 : decode cX12_map 12 = .ok (.iload_n 2, 1) := by decide +kernel
theorem dX12_map_13 : decode cX12_map 13 = .ok (.invokestatic 125, 3) := by decide +kernel
theorem dX12_map_16 : decode cX12_map 16 = .ok (.ifCond .eq 21, 3) := by decide +kernel
theorem dX12_map_19 : decode cX12_map 19 = .ok (.iload_n 3, 1) := by decide +kernel
theorem dX12_map_20 : decode cX12_map 20 = .ok (.invokestatic 139, 3) := by decide +kernel
theorem dX12_map_23 : decode cX12_map 23 = .ok (.ifCond .eq 14, 3) := by decide +kernel
theorem dX12_map_26 : decode cX12_map 26 = .ok (.iload 4, 2) := by decide +kernel
theorem dX12_map_28 : decode cX12_map 28 = .ok (.i2l, 1) := by decide +kernel
theorem dX12_map_29 : decode cX12_map 29 = .ok (.lconst 0, 1) := by decide +kernel
theorem dX12_map_30 : decode cX12_map 30 = .ok (.lconst 1, 1) := by decide +kernel
theorem dX12_map_31 : decode cX12_map 31 = .ok (.invokestatic 116, 3) := by decide +kernel
theorem dX12_map_34 : decode cX12_map 34 = .ok (.ifCond .ne 5, 3) := by decide +kernel
theorem dX12_map_37 : decode cX12_map 37 = .ok (.iconst (-1), 1) := by decide +kernel
theorem dX12_map_38 : decode cX12_map 38 = .ok (.ireturn, 1) := by decide +kernel
theorem dX12_map_39 : decode cX12_map 39 = .ok (.aload_n 0, 1) := by decide +kernel
theorem dX12_map_40 : decode cX12_map 40 = .ok (.iload_n 3, 1) := by decide +kernel
theorem dX12_map_41 : decode cX12_map 41 = .ok (.invokevirtual 164, 3) := by decide +kernel
theorem dX12_map_44 : decode cX12_map 44 = .ok (.aload_n 0, 1) := by decide +kernel
theorem dX12_map_45 : decode cX12_map 45 = .ok (.iload_n 1, 1) := by decide +kernel
theorem dX12_map_46 : decode cX12_map 46 = .ok (.iload_n 2, 1) := by decide +kernel
theorem dX12_map_47 : decode cX12_map 47 = .ok (.invokevirtual 190, 3) := by decide +kernel
theorem dX12_map_50 : decode cX12_map 50 = .ok (.ifCond .ne 7, 3) := by decide +kernel
theorem dX12_map_53 : decode cX12_map 53 = .ok (.iconst (-1), 1) := by decide +kernel
theorem dX12_map_54 : decode cX12_map 54 = .ok (.goto 19, 3) := by decide +kernel
theorem dX12_map_57 : decode cX12_map 57 = .ok (.iload 4, 2) := by decide +kernel
theorem dX12_map_59 : decode cX12_map 59 = .ok (.ifCond .ne 10, 3) := by decide +kernel
theorem dX12_map_62 : decode cX12_map 62 = .ok (.aload_n 0, 1) := by decide +kernel
theorem dX12_map_63 : decode cX12_map 63 = .ok (.getfield 184, 3) := by decide +kernel
theorem dX12_map_66 : decode cX12_map 66 = .ok (.goto 7, 3) := by decide +kernel
theorem dX12_map_69 : decode cX12_map 69 = .ok (.aload_n 0, 1) := by decide +kernel
theorem dX12_map_70 : decode cX12_map 70 = .ok (.getfield 187, 3) := by decide +kernel
theorem dX12_map_73 : decode cX12_map 73 = .ok (.ireturn, 1) := by decide +kernel
theorem dX12_radar_0 : decode cX12_radar 0 = .ok (.aload_n 0, 1) := by decide +kernel
theorem dX12_radar_1 : decode cX12_radar 1 = .ok (.iconst 0, 1) := by decide +kernel
theorem dX12_radar_2 : decode cX12_radar 2 = .ok (.putfield 108, 3) := by decide +kernel
theorem dX12_radar_5 : decode cX12_radar 5 = .ok (.iload_n 1, 1) := by decide +kernel
theorem dX12_radar_6 : decode cX12_radar 6 = .ok (.i2l, 1) := by decide +kernel
theorem dX12_radar_7 : decode cX12_radar 7 = .ok (.lconst 0, 1) := by decide +kernel
theorem dX12_radar_8 : decode cX12_radar 8 = .ok (.ldc2_w 135, 3) := by decide +kernel
theorem dX12_radar_11 : decode cX12_radar 11 = .ok (.invokestatic 116, 3) := by decide +kernel
theorem dX12_radar_14 : decode cX12_radar 14 = .ok (.ifCond .eq 29, 3) := by decide +kernel
theorem dX12_radar_17 : decode cX12_radar 17 = .ok (.iload_n 2, 1) := by decide +kernel
theorem dX12_radar_18 : decode cX12_radar 18 = .ok (.i2l, 1) := by decide +kernel
theorem dX12_radar_19 : decode cX12_radar 19 = .ok (.lconst 0, 1) := by decide +kernel
theorem dX12_radar_20 : decode cX12_radar 20 = .ok (.ldc2_w 135, 3) := by decide +kernel
theorem dX12_radar_23 : decode cX12_radar 23 = .ok (.invokestatic 116, 3) := by decide +kernel
theorem dX12_radar_26 : decode cX12_radar 26 = .ok (.ifCond .eq 17, 3) := by decide +kernel
theorem dX12_radar_29 : decode cX12_radar 29 = .ok (.iload_n 3, 1) := by decide +kernel
theorem dX12_radar_30 : decode cX12_radar 30 = .ok (.i2l, 1) := by decide +kernel
theorem dX12_radar_31 : decode cX12_radar 31 = .ok (.ldc2_w 193, 3) := by decide +kernel
theorem dX12_radar_34 : decode cX12_radar 34 = .ok (.ldc2_w 148, 3) := by decide +kernel
theorem dX12_radar_37 : decode cX12_radar 37 = .ok (.invokestatic 116, 3) := by decide +kernel
theorem dX12_radar_40 : decode cX12_radar 40 = .ok (.ifCond .ne 9, 3) := by decide +kernel
theorem dX12_radar_43 : decode cX12_radar 43 = .ok (.aload_n 0, 1) := by decide +kernel
theorem dX12_radar_44 : decode cX12_radar 44 = .ok (.iconst (-1), 1) := by decide +kernel
theorem dX12_radar_45 : decode cX12_radar 45 = .ok (.invokevirtual 129, 3) := by decide +kernel
theorem dX12_radar_48 : decode cX12_radar 48 = .ok (.ireturn, 1) := by decide +kernel
theorem dX12_radar_49 : decode cX12_radar 49 = .ok (.aload_n 0, 1) := by decide +kernel
theorem dX12_radar_50 : decode cX12_radar 50 = .ok (.getfield 72, 3) := by decide +kernel
theorem dX12_radar_53 : decode cX12_radar 53 = .ok (.bipush 8, 2) := by decide +kernel
theorem dX12_radar_55 : decode cX12_radar 55 = .ok (.iload_n 2, 1) := by decide +kernel
theorem dX12_radar_56 : decode cX12_radar 56 = .ok (.imul, 1) := by decide +kernel
theorem dX12_radar_57 : decode cX12_radar 57 = .ok (.iload_n 1, 1) := by decide +kernel
theorem dX12_radar_58 : decode cX12_radar 58 = .ok (.iadd, 1) := by decide +kernel
theorem dX12_radar_59 : decode cX12_radar 59 = .ok (.iload_n 3, 1) := by decide +kernel
theorem dX12_radar_60 : decode cX12_radar 60 = .ok (.iastore, 1) := by decide +kernel
theorem dX12_radar_61 : decode cX12_radar 61 = .ok (.aload_n 0, 1) := by decide +kernel
theorem dX12_radar_62 : decode cX12_radar 62 = .ok (.iconst 0, 1) := by decide +kernel
theorem dX12_radar_63 : decode cX12_radar 63 = .ok (.invokevirtual 129, 3) := by decide +kernel
theorem dX12_radar_66 : decode cX12_radar 66 = .ok (.ireturn, 1) := by decide +kernel
theorem dX12_radarAt_0 : decode cX12_radarAt 0 = .ok (.aload_n 0, 1) := by decide +kernel
theorem dX12_radarAt_1 : decode cX12_radarAt 1 = .ok (.getfield 72, 3) := by decide +kernel
theorem dX12_radarAt_4 : decode cX12_radarAt 4 = .ok (.bipush 8, 2) := by decide +kernel
theorem dX12_radarAt_6 : decode cX12_radarAt 6 = .ok (.iload_n 2, 1) := by decide +kernel
theorem dX12_radarAt_7 : decode cX12_radarAt 7 = .ok (.bipush 8, 2) := by decide +kernel
theorem dX12_radarAt_9 : decode cX12_radarAt 9 = .ok (.idiv, 1) := by decide +kernel
theorem dX12_radarAt_10 : decode cX12_radarAt 10 = .ok (.imul, 1) := by decide +kernel
theorem dX12_radarAt_11 : decode cX12_radarAt 11 = .ok (.iload_n 1, 1) := by decide +kernel
theorem dX12_radarAt_12 : decode cX12_radarAt 12 = .ok (.bipush 8, 2) := by decide +kernel
theorem dX12_radarAt_14 : decode cX12_radarAt 14 = .ok (.idiv, 1) := by decide +kernel
theorem dX12_radarAt_15 : decode cX12_radarAt 15 = .ok (.iadd, 1) := by decide +kernel
theorem dX12_radarAt_16 : decode cX12_radarAt 16 = .ok (.iaload, 1) := by decide +kernel
theorem dX12_radarAt_17 : decode cX12_radarAt 17 = .ok (.ireturn, 1) := by decide +kernel
theorem dX12_off_0 : decode cX12_off 0 = .ok (.aload_n 0, 1) := by decide +kernel
theorem dX12_off_1 : decode cX12_off 1 = .ok (.iconst 0, 1) := by decide +kernel
theorem dX12_off_2 : decode cX12_off 2 = .ok (.putfield 108, 3) := by decide +kernel
theorem dX12_off_5 : decode cX12_off 5 = .ok (.iload_n 1, 1) := by decide +kernel
theorem dX12_off_6 : decode cX12_off 6 = .ok (.invokestatic 125, 3) := by decide +kernel
theorem dX12_off_9 : decode cX12_off 9 = .ok (.ifCond .eq 27, 3) := by decide +kernel
theorem dX12_off_12 : decode cX12_off 12 = .ok (.iload_n 2, 1) := by decide +kernel
theorem dX12_off_13 : decode cX12_off 13 = .ok (.invokestatic 125, 3) := by decide +kernel
theorem dX12_off_16 : decode cX12_off 16 = .ok (.ifCond .eq 20, 3) := by decide +kernel
theorem dX12_off_19 : decode cX12_off 19 = .ok (.iload_n 3, 1) := by decide +kernel
theorem dX12_off_20 : decode cX12_off 20 = .ok (.invokestatic 139, 3) := by decide +kernel
theorem dX12_off_23 : decode cX12_off 23 = .ok (.ifCond .eq 13, 3) := by decide +kernel
theorem dX12_off_26 : decode cX12_off 26 = .ok (.aload_n 0, 1) := by decide +kernel
theorem dX12_off_27 : decode cX12_off 27 = .ok (.iload_n 1, 1) := by decide +kernel
theorem dX12_off_28 : decode cX12_off 28 = .ok (.iload_n 2, 1) := by decide +kernel
theorem dX12_off_29 : decode cX12_off 29 = .ok (.invokevirtual 195, 3) := by decide +kernel
theorem dX12_off_32 : decode cX12_off 32 = .ok (.iconst (-1), 1) := by decide +kernel
theorem dX12_off_33 : decode cX12_off 33 = .ok (.if_icmp .ne 7, 3) := by decide +kernel
theorem dX12_off_36 : decode cX12_off 36 = .ok (.sipush (-1000), 3) := by decide +kernel
theorem dX12_off_39 : decode cX12_off 39 = .ok (.ireturn, 1) := by decide +kernel
theorem dX12_off_40 : decode cX12_off 40 = .ok (.aload_n 0, 1) := by decide +kernel
theorem dX12_off_41 : decode cX12_off 41 = .ok (.iload_n 3, 1) := by decide +kernel
theorem dX12_off_42 : decode cX12_off 42 = .ok (.invokevirtual 164, 3) := by decide +kernel
theorem dX12_off_45 : decode cX12_off 45 = .ok (.aload_n 0, 1) := by decide +kernel
theorem dX12_off_46 : decode cX12_off 46 = .ok (.iload_n 1, 1) := by decide +kernel
theorem dX12_off_47 : decode cX12_off 47 = .ok (.iload_n 2, 1) := by decide +kernel
theorem dX12_off_48 : decode cX12_off 48 = .ok (.invokevirtual 190, 3) := by decide +kernel
theorem dX12_off_51 : decode cX12_off 51 = .ok (.ifCond .eq 17, 3) := by decide +kernel
theorem dX12_off_54 : decode cX12_off 54 = .ok (.aload_n 0, 1) := by decide +kernel
theorem dX12_off_55 : decode cX12_off 55 = .ok (.iload_n 1, 1) := by decide +kernel
theorem dX12_off_56 : decode cX12_off 56 = .ok (.iload_n 2, 1) := by decide +kernel
theorem dX12_off_57 : decode cX12_off 57 = .ok (.invokevirtual 195, 3) := by decide +kernel
theorem dX12_off_60 : decode cX12_off 60 = .ok (.aload_n 0, 1) := by decide +kernel
theorem dX12_off_61 : decode cX12_off 61 = .ok (.getfield 184, 3) := by decide +kernel
theorem dX12_off_64 : decode cX12_off 64 = .ok (.isub, 1) := by decide +kernel
theorem dX12_off_65 : decode cX12_off 65 = .ok (.goto 6, 3) := by decide +kernel
theorem dX12_off_68 : decode cX12_off 68 = .ok (.sipush (-1000), 3) := by decide +kernel
theorem dX12_off_71 : decode cX12_off 71 = .ok (.ireturn, 1) := by decide +kernel
theorem dX12_four_0 : decode cX12_four 0 = .ok (.bipush 24, 2) := by decide +kernel
theorem dX12_four_2 : decode cX12_four 2 = .ok (.istore_n 2, 1) := by decide +kernel
theorem dX12_four_3 : decode cX12_four 3 = .ok (.iload_n 2, 1) := by decide +kernel
theorem dX12_four_4 : decode cX12_four 4 = .ok (.ifCond .lt 35, 3) := by decide +kernel
theorem dX12_four_7 : decode cX12_four 7 = .ok (.aload_n 0, 1) := by decide +kernel
theorem dX12_four_8 : decode cX12_four 8 = .ok (.getfield 90, 3) := by decide +kernel
theorem dX12_four_11 : decode cX12_four 11 = .ok (.aload_n 0, 1) := by decide +kernel
theorem dX12_four_12 : decode cX12_four 12 = .ok (.getfield 199, 3) := by decide +kernel
theorem dX12_four_15 : decode cX12_four 15 = .ok (.iload_n 1, 1) := by decide +kernel
theorem dX12_four_16 : decode cX12_four 16 = .ok (.iload_n 2, 1) := by decide +kernel
theorem dX12_four_17 : decode cX12_four 17 = .ok (.ishr, 1) := by decide +kernel
theorem dX12_four_18 : decode cX12_four 18 = .ok (.sipush 255, 3) := by decide +kernel
theorem dX12_four_21 : decode cX12_four 21 = .ok (.iand, 1) := by decide +kernel
theorem dX12_four_22 : decode cX12_four 22 = .ok (.iastore, 1) := by decide +kernel
theorem dX12_four_23 : decode cX12_four 23 = .ok (.aload_n 0, 1) := by decide +kernel
theorem dX12_four_24 : decode cX12_four 24 = .ok (.dup, 1) := by decide +kernel
theorem dX12_four_25 : decode cX12_four 25 = .ok (.getfield 199, 3) := by decide +kernel
theorem dX12_four_28 : decode cX12_four 28 = .ok (.iconst 1, 1) := by decide +kernel
theorem dX12_four_29 : decode cX12_four 29 = .ok (.iadd, 1) := by decide +kernel
theorem dX12_four_30 : decode cX12_four 30 = .ok (.putfield 199, 3) := by decide +kernel
theorem dX12_four_33 : decode cX12_four 33 = .ok (.iinc 2 (-8), 3) := by decide +kernel
theorem dX12_four_36 : decode cX12_four 36 = .ok (.goto (-33), 3) := by decide +kernel
theorem dX12_four_39 : decode cX12_four 39 = .ok (.return_, 1) := by decide +kernel
theorem dX12_feed_0 : decode cX12_feed 0 = .ok (.aload_n 0, 1) := by decide +kernel
theorem dX12_feed_1 : decode cX12_feed 1 = .ok (.iconst 0, 1) := by decide +kernel
theorem dX12_feed_2 : decode cX12_feed 2 = .ok (.putfield 108, 3) := by decide +kernel
theorem dX12_feed_5 : decode cX12_feed 5 = .ok (.aload_n 0, 1) := by decide +kernel
theorem dX12_feed_6 : decode cX12_feed 6 = .ok (.getfield 199, 3) := by decide +kernel
theorem dX12_feed_9 : decode cX12_feed 9 = .ok (.bipush 20, 2) := by decide +kernel
theorem dX12_feed_11 : decode cX12_feed 11 = .ok (.iadd, 1) := by decide +kernel
theorem dX12_feed_12 : decode cX12_feed 12 = .ok (.sipush 200, 3) := by decide +kernel
theorem dX12_feed_15 : decode cX12_feed 15 = .ok (.if_icmp .le 5, 3) := by decide +kernel
theorem dX12_feed_18 : decode cX12_feed 18 = .ok (.iconst (-1), 1) := by decide +kernel
theorem dX12_feed_19 : decode cX12_feed 19 = .ok (.ireturn, 1) := by decide +kernel
theorem dX12_feed_20 : decode cX12_feed 20 = .ok (.aload_n 0, 1) := by decide +kernel
theorem dX12_feed_21 : decode cX12_feed 21 = .ok (.iload_n 1, 1) := by decide +kernel
theorem dX12_feed_22 : decode cX12_feed 22 = .ok (.invokevirtual 202, 3) := by decide +kernel
theorem dX12_feed_25 : decode cX12_feed 25 = .ok (.aload_n 0, 1) := by decide +kernel
theorem dX12_feed_26 : decode cX12_feed 26 = .ok (.iload_n 2, 1) := by decide +kernel
theorem dX12_feed_27 : decode cX12_feed 27 = .ok (.invokevirtual 202, 3) := by decide +kernel
theorem dX12_feed_30 : decode cX12_feed 30 = .ok (.aload_n 0, 1) := by decide +kernel
theorem dX12_feed_31 : decode cX12_feed 31 = .ok (.iload_n 3, 1) := by decide +kernel
theorem dX12_feed_32 : decode cX12_feed 32 = .ok (.invokevirtual 202, 3) := by decide +kernel
theorem dX12_feed_35 : decode cX12_feed 35 = .ok (.aload_n 0, 1) := by decide +kernel
theorem dX12_feed_36 : decode cX12_feed 36 = .ok (.iload 4, 2) := by decide +kernel
theorem dX12_feed_38 : decode cX12_feed 38 = .ok (.invokevirtual 202, 3) := by decide +kernel
theorem dX12_feed_41 : decode cX12_feed 41 = .ok (.aload_n 0, 1) := by decide +kernel
theorem dX12_feed_42 : decode cX12_feed 42 = .ok (.iload 5, 2) := by decide +kernel
theorem dX12_feed_44 : decode cX12_feed 44 = .ok (.invokevirtual 202, 3) := by decide +kernel
theorem dX12_feed_47 : decode cX12_feed 47 = .ok (.aload_n 0, 1) := by decide +kernel
theorem dX12_feed_48 : decode cX12_feed 48 = .ok (.getfield 199, 3) := by decide +kernel
theorem dX12_feed_51 : decode cX12_feed 51 = .ok (.ireturn, 1) := by decide +kernel
theorem dX12_end_0 : decode cX12_end 0 = .ok (.aload_n 0, 1) := by decide +kernel
theorem dX12_end_1 : decode cX12_end 1 = .ok (.iconst 0, 1) := by decide +kernel
theorem dX12_end_2 : decode cX12_end 2 = .ok (.putfield 108, 3) := by decide +kernel
theorem dX12_end_5 : decode cX12_end 5 = .ok (.iload_n 1, 1) := by decide +kernel
theorem dX12_end_6 : decode cX12_end 6 = .ok (.ifCond .lt 11, 3) := by decide +kernel
theorem dX12_end_9 : decode cX12_end 9 = .ok (.iload_n 1, 1) := by decide +kernel
theorem dX12_end_10 : decode cX12_end 10 = .ok (.aload_n 0, 1) := by decide +kernel
theorem dX12_end_11 : decode cX12_end 11 = .ok (.getfield 199, 3) := by decide +kernel
theorem dX12_end_14 : decode cX12_end 14 = .ok (.if_icmp .le 5, 3) := by decide +kernel
theorem dX12_end_17 : decode cX12_end 17 = .ok (.iconst (-1), 1) := by decide +kernel
theorem dX12_end_18 : decode cX12_end 18 = .ok (.ireturn, 1) := by decide +kernel
theorem dX12_end_19 : decode cX12_end 19 = .ok (.aload_n 0, 1) := by decide +kernel
theorem dX12_end_20 : decode cX12_end 20 = .ok (.iload_n 1, 1) := by decide +kernel
theorem dX12_end_21 : decode cX12_end 21 = .ok (.putfield 199, 3) := by decide +kernel
theorem dX12_end_24 : decode cX12_end 24 = .ok (.iload_n 1, 1) := by decide +kernel
theorem dX12_end_25 : decode cX12_end 25 = .ok (.ireturn, 1) := by decide +kernel
theorem dX12_isSmall_0 : decode cX12_isSmall 0 = .ok (.iload_n 0, 1) := by decide +kernel
theorem dX12_isSmall_1 : decode cX12_isSmall 1 = .ok (.bipush 97, 2) := by decide +kernel
theorem dX12_isSmall_3 : decode cX12_isSmall 3 = .ok (.if_icmp .lt 13, 3) := by decide +kernel
theorem dX12_isSmall_6 : decode cX12_isSmall 6 = .ok (.iload_n 0, 1) := by decide +kernel
theorem dX12_isSmall_7 : decode cX12_isSmall 7 = .ok (.bipush 122, 2) := by decide +kernel
theorem dX12_isSmall_9 : decode cX12_isSmall 9 = .ok (.if_icmp .gt 7, 3) := by decide +kernel
theorem dX12_isSmall_12 : decode cX12_isSmall 12 = .ok (.iconst 1, 1) := by decide +kernel
theorem dX12_isSmall_13 : decode cX12_isSmall 13 = .ok (.goto 4, 3) := by decide +kernel
theorem dX12_isSmall_16 : decode cX12_isSmall 16 = .ok (.iconst 0, 1) := by decide +kernel
theorem dX12_isSmall_17 : decode cX12_isSmall 17 = .ok (.ireturn, 1) := by decide +kernel
theorem dX12_isDigit_0 : decode cX12_isDigit 0 = .ok (.iload_n 0, 1) := by decide +kernel
theorem dX12_isDigit_1 : decode cX12_isDigit 1 = .ok (.bipush 48, 2) := by decide +kernel
theorem dX12_isDigit_3 : decode cX12_isDigit 3 = .ok (.if_icmp .lt 13, 3) := by decide +kernel
theorem dX12_isDigit_6 : decode cX12_isDigit 6 = .ok (.iload_n 0, 1) := by decide +kernel
theorem dX12_isDigit_7 : decode cX12_isDigit 7 = .ok (.bipush 57, 2) := by decide +kernel
theorem dX12_isDigit_9 : decode cX12_isDigit 9 = .ok (.if_icmp .gt 7, 3) := by decide +kernel
theorem dX12_isDigit_12 : decode cX12_isDigit 12 = .ok (.iconst 1, 1) := by decide +kernel
theorem dX12_isDigit_13 : decode cX12_isDigit 13 = .ok (.goto 4, 3) := by decide +kernel
theorem dX12_isDigit_16 : decode cX12_isDigit 16 = .ok (.iconst 0, 1) := by decide +kernel
theorem dX12_isDigit_17 : decode cX12_isDigit 17 = .ok (.ireturn, 1) := by decide +kernel
theorem dX12_next_0 : decode cX12_next 0 = .ok (.aload_n 0, 1) := by decide +kernel
theorem dX12_next_1 : decode cX12_next 1 = .ok (.aload_n 0, 1) := by decide +kernel
theorem dX12_next_2 : decode cX12_next 2 = .ok (.getfield 205, 3) := by decide +kernel
theorem dX12_next_5 : decode cX12_next 5 = .ok (.putfield 208, 3) := by decide +kernel
theorem dX12_next_8 : decode cX12_next 8 = .ok (.aload_n 0, 1) := by decide +kernel
theorem dX12_next_9 : decode cX12_next 9 = .ok (.getfield 208, 3) := by decide +kernel
theorem dX12_next_12 : decode cX12_next 12 = .ok (.aload_n 0, 1) := by decide +kernel
theorem dX12_next_13 : decode cX12_next 13 = .ok (.getfield 199, 3) := by decide +kernel
theorem dX12_next_16 : decode cX12_next 16 = .ok (.if_icmp .ge 30, 3) := by decide +kernel
theorem dX12_next_19 : decode cX12_next 19 = .ok (.aload_n 0, 1) := by decide +kernel
theorem dX12_next_20 : decode cX12_next 20 = .ok (.getfield 90, 3) := by decide +kernel
theorem dX12_next_23 : decode cX12_next 23 = .ok (.aload_n 0, 1) := by decide +kernel
theorem dX12_next_24 : decode cX12_next 24 = .ok (.getfield 208, 3) := by decide +kernel
theorem dX12_next_27 : decode cX12_next 27 = .ok (.iaload, 1) := by decide +kernel
theorem dX12_next_28 : decode cX12_next 28 = .ok (.bipush 32, 2) := by decide +kernel
theorem dX12_next_30 : decode cX12_next 30 = .ok (.if_icmp .ne 16, 3) := by decide +kernel
theorem dX12_next_33 : decode cX12_next 33 = .ok (.aload_n 0, 1) := by decide +kernel
theorem dX12_next_34 : decode cX12_next 34 = .ok (.dup, 1) := by decide +kernel
theorem dX12_next_35 : decode cX12_next 35 = .ok (.getfield 208, 3) := by decide +kernel
theorem dX12_next_38 : decode cX12_next 38 = .ok (.iconst 1, 1) := by decide +kernel
theorem dX12_next_39 : decode cX12_next 39 = .ok (.iadd, 1) := by decide +kernel
theorem dX12_next_40 : decode cX12_next 40 = .ok (.putfield 208, 3) := by decide +kernel
theorem dX12_next_43 : decode cX12_next 43 = .ok (.goto (-35), 3) := by decide +kernel
theorem dX12_next_46 : decode cX12_next 46 = .ok (.aload_n 0, 1) := by decide +kernel
theorem dX12_next_47 : decode cX12_next 47 = .ok (.aload_n 0, 1) := by decide +kernel
theorem dX12_next_48 : decode cX12_next 48 = .ok (.getfield 208, 3) := by decide +kernel
theorem dX12_next_51 : decode cX12_next 51 = .ok (.putfield 205, 3) := by decide +kernel
theorem dX12_next_54 : decode cX12_next 54 = .ok (.aload_n 0, 1) := by decide +kernel
theorem dX12_next_55 : decode cX12_next 55 = .ok (.lconst 0, 1) := by decide +kernel
theorem dX12_next_56 : decode cX12_next 56 = .ok (.putfield 211, 3) := by decide +kernel
theorem dX12_next_59 : decode cX12_next 59 = .ok (.aload_n 0, 1) := by decide +kernel
theorem dX12_next_60 : decode cX12_next 60 = .ok (.aload_n 0, 1) := by decide +kernel
theorem dX12_next_61 : decode cX12_next 61 = .ok (.getfield 208, 3) := by decide +kernel
theorem dX12_next_64 : decode cX12_next 64 = .ok (.aload_n 0, 1) := by decide +kernel
theorem dX12_next_65 : decode cX12_next 65 = .ok (.getfield 199, 3) := by decide +kernel
theorem dX12_next_68 : decode cX12_next 68 = .ok (.if_icmp .ne 7, 3) := by decide +kernel
theorem dX12_next_71 : decode cX12_next 71 = .ok (.iconst 0, 1) := by decide +kernel
theorem dX12_next_72 : decode cX12_next 72 = .ok (.goto 42, 3) := by decide +kernel
theorem dX12_next_75 : decode cX12_next 75 = .ok (.aload_n 0, 1) := by decide +kernel
theorem dX12_next_76 : decode cX12_next 76 = .ok (.getfield 90, 3) := by decide +kernel
theorem dX12_next_79 : decode cX12_next 79 = .ok (.aload_n 0, 1) := by decide +kernel
theorem dX12_next_80 : decode cX12_next 80 = .ok (.getfield 208, 3) := by decide +kernel
theorem dX12_next_83 : decode cX12_next 83 = .ok (.iaload, 1) := by decide +kernel
theorem dX12_next_84 : decode cX12_next 84 = .ok (.invokestatic 215, 3) := by decide +kernel
theorem dX12_next_87 : decode cX12_next 87 = .ok (.ifCond .eq 7, 3) := by decide +kernel
theorem dX12_next_90 : decode cX12_next 90 = .ok (.iconst 1, 1) := by decide +kernel
theorem dX12_next_91 : decode cX12_next 91 = .ok (.goto 23, 3) := by decide +kernel
theorem dX12_next_94 : decode cX12_next 94 = .ok (.aload_n 0, 1) := by decide +kernel
theorem dX12_next_95 : decode cX12_next 95 = .ok (.getfield 90, 3) := by decide +kernel
theorem dX12_next_98 : decode cX12_next 98 = .ok (.aload_n 0, 1) := by decide +kernel
theorem dX12_next_99 : decode cX12_next 99 = .ok (.getfield 208, 3) := by decide +kernel
theorem dX12_next_102 : decode cX12_next 102 = .ok (.iaload, 1) := by decide +kernel
theorem dX12_next_103 : decode cX12_next 103 = .ok (.invokestatic 218, 3) := by decide +kernel
theorem dX12_next_106 : decode cX12_next 106 = .ok (.ifCond .eq 7, 3) := by decide +kernel
theorem dX12_next_109 : decode cX12_next 109 = .ok (.iconst 2, 1) := by decide +kernel
theorem dX12_next_110 : decode cX12_next 110 = .ok (.goto 4, 3) := by decide +kernel
theorem dX12_next_113 : decode cX12_next 113 = .ok (.iconst 3, 1) := by decide +kernel
theorem dX12_next_114 : decode cX12_next 114 = .ok (.putfield 221, 3) := by decide +kernel
theorem dX12_next_117 : decode cX12_next 117 = .ok (.aload_n 0, 1) := by decide +kernel
theorem dX12_next_118 : decode cX12_next 118 = .ok (.getfield 221, 3) := by decide +kernel
theorem dX12_next_121 : decode cX12_next 121 = .ok (.iconst 3, 1) := by decide +kernel
theorem dX12_next_122 : decode cX12_next 122 = .ok (.if_icmp .ne 27, 3) := by decide +kernel
theorem dX12_next_125 : decode cX12_next 125 = .ok (.aload_n 0, 1) := by decide +kernel
theorem dX12_next_126 : decode cX12_next 126 = .ok (.aload_n 0, 1) := by decide +kernel
theorem dX12_next_127 : decode cX12_next 127 = .ok (.getfield 90, 3) := by decide +kernel
theorem dX12_next_130 : decode cX12_next 130 = .ok (.aload_n 0, 1) := by decide +kernel
theorem dX12_next_131 : decode cX12_next 131 = .ok (.getfield 208, 3) := by decide +kernel
theorem dX12_next_134 : decode cX12_next 134 = .ok (.iaload, 1) := by decide +kernel
theorem dX12_next_135 : decode cX12_next 135 = .ok (.i2l, 1) := by decide +kernel
theorem dX12_next_136 : decode cX12_next 136 = .ok (.putfield 211, 3) := by decide +kernel
theorem dX12_next_139 : decode cX12_next 139 = .ok (.aload_n 0, 1) := by decide +kernel
theorem dX12_next_140 : decode cX12_next 140 = .ok (.dup, 1) := by decide +kernel
theorem dX12_next_141 : decode cX12_next 141 = .ok (.getfield 205, 3) := by decide +kernel
theorem dX12_next_144 : decode cX12_next 144 = .ok (.iconst 1, 1) := by decide +kernel
theorem dX12_next_145 : decode cX12_next 145 = .ok (.iadd, 1) := by decide +kernel
theorem dX12_next_146 : decode cX12_next 146 = .ok (.putfield 205, 3) := by decide +kernel
theorem dX12_next_149 : decode cX12_next 149 = .ok (.aload_n 0, 1) := by decide +kernel
theorem dX12_next_150 : decode cX12_next 150 = .ok (.getfield 221, 3) := by decide +kernel
theorem dX12_next_153 : decode cX12_next 153 = .ok (.iconst 1, 1) := by decide +kernel
theorem dX12_next_154 : decode cX12_next 154 = .ok (.if_icmp .ne 89, 3) := by decide +kernel
theorem dX12_next_157 : decode cX12_next 157 = .ok (.aload_n 0, 1) := by decide +kernel
theorem dX12_next_158 : decode cX12_next 158 = .ok (.getfield 205, 3) := by decide +kernel
theorem dX12_next_161 : decode cX12_next 161 = .ok (.aload_n 0, 1) := by decide +kernel
theorem dX12_next_162 : decode cX12_next 162 = .ok (.getfield 199, 3) := by decide +kernel
theorem dX12_next_165 : decode cX12_next 165 = .ok (.if_icmp .ge 78, 3) := by decide +kernel
theorem dX12_next_168 : decode cX12_next 168 = .ok (.aload_n 0, 1) := by decide +kernel
theorem dX12_next_169 : decode cX12_next 169 = .ok (.getfield 90, 3) := by decide +kernel
theorem dX12_next_172 : decode cX12_next 172 = .ok (.aload_n 0, 1) := by decide +kernel
theorem dX12_next_173 : decode cX12_next 173 = .ok (.getfield 205, 3) := by decide +kernel
theorem dX12_next_176 : decode cX12_next 176 = .ok (.iaload, 1) := by decide +kernel
theorem dX12_next_177 : decode cX12_next 177 = .ok (.invokestatic 215, 3) := by decide +kernel
theorem dX12_next_180 : decode cX12_next 180 = .ok (.ifCond .eq 63, 3) := by decide +kernel
theorem dX12_next_183 : decode cX12_next 183 = .ok (.aload_n 0, 1) := by decide +kernel
theorem dX12_next_184 : decode cX12_next 184 = .ok (.aload_n 0, 1) := by decide +kernel
theorem dX12_next_185 : decode cX12_next 185 = .ok (.getfield 205, 3) := by decide +kernel
theorem dX12_next_188 : decode cX12_next 188 = .ok (.aload_n 0, 1) := by decide +kernel
theorem dX12_next_189 : decode cX12_next 189 = .ok (.getfield 208, 3) := by decide +kernel
theorem dX12_next_192 : decode cX12_next 192 = .ok (.isub, 1) := by decide +kernel
theorem dX12_next_193 : decode cX12_next 193 = .ok (.bipush 6, 2) := by decide +kernel
theorem dX12_next_195 : decode cX12_next 195 = .ok (.if_icmp .ge 29, 3) := by decide +kernel
theorem dX12_next_198 : decode cX12_next 198 = .ok (.aload_n 0, 1) := by decide +kernel
theorem dX12_next_199 : decode cX12_next 199 = .ok (.getfield 211, 3) := by decide +kernel
theorem dX12_next_202 : decode cX12_next 202 = .ok (.ldc2_w 224, 3) := by decide +kernel
theorem dX12_next_205 : decode cX12_next 205 = .ok (.lmul, 1) := by decide +kernel
theorem dX12_next_206 : decode cX12_next 206 = .ok (.aload_n 0, 1) := by decide +kernel
theorem dX12_next_207 : decode cX12_next 207 = .ok (.getfield 90, 3) := by decide +kernel
theorem dX12_next_210 : decode cX12_next 210 = .ok (.aload_n 0, 1) := by decide +kernel
theorem dX12_next_211 : decode cX12_next 211 = .ok (.getfield 205, 3) := by decide +kernel
theorem dX12_next_214 : decode cX12_next 214 = .ok (.iaload, 1) := by decide +kernel
theorem dX12_next_215 : decode cX12_next 215 = .ok (.i2l, 1) := by decide +kernel
theorem dX12_next_216 : decode cX12_next 216 = .ok (.ladd, 1) := by decide +kernel
theorem dX12_next_217 : decode cX12_next 217 = .ok (.ldc2_w 226, 3) := by decide +kernel
theorem dX12_next_220 : decode cX12_next 220 = .ok (.lsub, 1) := by decide +kernel
theorem dX12_next_221 : decode cX12_next 221 = .ok (.goto 6, 3) := by decide +kernel
theorem dX12_next_224 : decode cX12_next 224 = .ok (.ldc2_w 193, 3) := by decide +kernel
theorem dX12_next_227 : decode cX12_next 227 = .ok (.putfield 211, 3) := by decide +kernel
theorem dX12_next_230 : decode cX12_next 230 = .ok (.aload_n 0, 1) := by decide +kernel
theorem dX12_next_231 : decode cX12_next 231 = .ok (.dup, 1) := by decide +kernel
theorem dX12_next_232 : decode cX12_next 232 = .ok (.getfield 205, 3) := by decide +kernel
theorem dX12_next_235 : decode cX12_next 235 = .ok (.iconst 1, 1) := by decide +kernel
theorem dX12_next_236 : decode cX12_next 236 = .ok (.iadd, 1) := by decide +kernel
theorem dX12_next_237 : decode cX12_next 237 = .ok (.putfield 205, 3) := by decide +kernel
theorem dX12_next_240 : decode cX12_next 240 = .ok (.goto (-91), 3) := by decide +kernel
theorem dX12_next_243 : decode cX12_next 243 = .ok (.aload_n 0, 1) := by decide +kernel
theorem dX12_next_244 : decode cX12_next 244 = .ok (.getfield 221, 3) := by decide +kernel
theorem dX12_next_247 : decode cX12_next 247 = .ok (.iconst 2, 1) := by decide +kernel
theorem dX12_next_248 : decode cX12_next 248 = .ok (.if_icmp .ne 87, 3) := by decide +kernel
theorem dX12_next_251 : decode cX12_next 251 = .ok (.aload_n 0, 1) := by decide +kernel
theorem dX12_next_252 : decode cX12_next 252 = .ok (.getfield 205, 3) := by decide +kernel
theorem dX12_next_255 : decode cX12_next 255 = .ok (.aload_n 0, 1) := by decide +kernel
theorem dX12_next_256 : decode cX12_next 256 = .ok (.getfield 199, 3) := by decide +kernel
theorem dX12_next_259 : decode cX12_next 259 = .ok (.if_icmp .ge 76, 3) := by decide +kernel
theorem dX12_next_262 : decode cX12_next 262 = .ok (.aload_n 0, 1) := by decide +kernel
theorem dX12_next_263 : decode cX12_next 263 = .ok (.getfield 90, 3) := by decide +kernel
theorem dX12_next_266 : decode cX12_next 266 = .ok (.aload_n 0, 1) := by decide +kernel
theorem dX12_next_267 : decode cX12_next 267 = .ok (.getfield 205, 3) := by decide +kernel
theorem dX12_next_270 : decode cX12_next 270 = .ok (.iaload, 1) := by decide +kernel
theorem dX12_next_271 : decode cX12_next 271 = .ok (.invokestatic 218, 3) := by decide +kernel
theorem dX12_next_274 : decode cX12_next 274 = .ok (.ifCond .eq 61, 3) := by decide +kernel
theorem dX12_next_277 : decode cX12_next 277 = .ok (.aload_n 0, 1) := by decide +kernel
theorem dX12_next_278 : decode cX12_next 278 = .ok (.aload_n 0, 1) := by decide +kernel
theorem dX12_next_279 : decode cX12_next 279 = .ok (.getfield 211, 3) := by decide +kernel
theorem dX12_next_282 : decode cX12_next 282 = .ok (.ldc2_w 114, 3) := by decide +kernel
theorem dX12_next_285 : decode cX12_next 285 = .ok (.lcmp, 1) := by decide +kernel
theorem dX12_next_286 : decode cX12_next 286 = .ok (.ifCond .le 10, 3) := by decide +kernel
theorem dX12_next_289 : decode cX12_next 289 = .ok (.aload_n 0, 1) := by decide +kernel
theorem dX12_next_290 : decode cX12_next 290 = .ok (.getfield 211, 3) := by decide +kernel
theorem dX12_next_293 : decode cX12_next 293 = .ok (.goto 26, 3) := by decide +kernel
theorem dX12_next_296 : decode cX12_next 296 = .ok (.aload_n 0, 1) := by decide +kernel
theorem dX12_next_297 : decode cX12_next 297 = .ok (.getfield 211, 3) := by decide +kernel
theorem dX12_next_300 : decode cX12_next 300 = .ok (.ldc2_w 228, 3) := by decide +kernel
theorem dX12_next_303 : decode cX12_next 303 = .ok (.lmul, 1) := by decide +kernel
theorem dX12_next_304 : decode cX12_next 304 = .ok (.aload_n 0, 1) := by decide +kernel
theorem dX12_next_305 : decode cX12_next 305 = .ok (.getfield 90, 3) := by decide +kernel
theorem dX12_next_308 : decode cX12_next 308 = .ok (.aload_n 0, 1) := by decide +kernel
theorem dX12_next_309 : decode cX12_next 309 = .ok (.getfield 205, 3) := by decide +kernel
theorem dX12_next_312 : decode cX12_next 312 = .ok (.iaload, 1) := by decide +kernel
theorem dX12_next_313 : decode cX12_next 313 = .ok (.i2l, 1) := by decide +kernel
theorem dX12_next_314 : decode cX12_next 314 = .ok (.ladd, 1) := by decide +kernel
theorem dX12_next_315 : decode cX12_next 315 = .ok (.ldc2_w 230, 3) := by decide +kernel
theorem dX12_next_318 : decode cX12_next 318 = .ok (.lsub, 1) := by decide +kernel
theorem dX12_next_319 : decode cX12_next 319 = .ok (.putfield 211, 3) := by decide +kernel
theorem dX12_next_322 : decode cX12_next 322 = .ok (.aload_n 0, 1) := by decide +kernel
theorem dX12_next_323 : decode cX12_next 323 = .ok (.dup, 1) := by decide +kernel
theorem dX12_next_324 : decode cX12_next 324 = .ok (.getfield 205, 3) := by decide +kernel
theorem dX12_next_327 : decode cX12_next 327 = .ok (.iconst 1, 1) := by decide +kernel
theorem dX12_next_328 : decode cX12_next 328 = .ok (.iadd, 1) := by decide +kernel
theorem dX12_next_329 : decode cX12_next 329 = .ok (.putfield 205, 3) := by decide +kernel
theorem dX12_next_332 : decode cX12_next 332 = .ok (.goto (-89), 3) := by decide +kernel
theorem dX12_next_335 : decode cX12_next 335 = .ok (.return_, 1) := by decide +kernel
theorem dX12_isWord_0 : decode cX12_isWord 0 = .ok (.iload_n 1, 1) := by decide +kernel
theorem dX12_isWord_1 : decode cX12_isWord 1 = .ok (.i2l, 1) := by decide +kernel
theorem dX12_isWord_2 : decode cX12_isWord 2 = .ok (.ldc2_w 226, 3) := by decide +kernel
theorem dX12_isWord_5 : decode cX12_isWord 5 = .ok (.lsub, 1) := by decide +kernel
theorem dX12_isWord_6 : decode cX12_isWord 6 = .ok (.ldc2_w 224, 3) := by decide +kernel
theorem dX12_isWord_9 : decode cX12_isWord 9 = .ok (.lmul, 1) := by decide +kernel
theorem dX12_isWord_10 : decode cX12_isWord 10 = .ok (.iload_n 2, 1) := by decide +kernel
theorem dX12_isWord_11 : decode cX12_isWord 11 = .ok (.i2l, 1) := by decide +kernel
theorem dX12_isWord_12 : decode cX12_isWord 12 = .ok (.ladd, 1) := by decide +kernel
theorem dX12_isWord_13 : decode cX12_isWord 13 = .ok (.ldc2_w 226, 3) := by decide +kernel
theorem dX12_isWord_16 : decode cX12_isWord 16 = .ok (.lsub, 1) := by decide +kernel
theorem dX12_isWord_17 : decode cX12_isWord 17 = .ok (.lstore 6, 2) := by decide +kernel
theorem dX12_isWord_19 : decode cX12_isWord 19 = .ok (.iload_n 3, 1) := by decide +kernel
theorem dX12_isWord_20 : decode cX12_isWord 20 = .ok (.ifCond .ne 8, 3) := by decide +kernel
theorem dX12_isWord_23 : decode cX12_isWord 23 = .ok (.lload 6, 2) := by decide +kernel
theorem dX12_isWord_25 : decode cX12_isWord 25 = .ok (.goto 16, 3) := by decide +kernel
theorem dX12_isWord_28 : decode cX12_isWord 28 = .ok (.lload 6, 2) := by decide +kernel
theorem dX12_isWord_30 : decode cX12_isWord 30 = .ok (.ldc2_w 224, 3) := by decide +kernel
theorem dX12_isWord_33 : decode cX12_isWord 33 = .ok (.lmul, 1) := by decide +kernel
theorem dX12_isWord_34 : decode cX12_isWord 34 = .ok (.iload_n 3, 1) := by decide +kernel
theorem dX12_isWord_35 : decode cX12_isWord 35 = .ok (.i2l, 1) := by decide +kernel
theorem dX12_isWord_36 : decode cX12_isWord 36 = .ok (.ladd, 1) := by decide +kernel
theorem dX12_isWord_37 : decode cX12_isWord 37 = .ok (.ldc2_w 226, 3) := by decide +kernel
theorem dX12_isWord_40 : decode cX12_isWord 40 = .ok (.lsub, 1) := by decide +kernel
theorem dX12_isWord_41 : decode cX12_isWord 41 = .ok (.lstore 6, 2) := by decide +kernel
theorem dX12_isWord_43 : decode cX12_isWord 43 = .ok (.iload 4, 2) := by decide +kernel
theorem dX12_isWord_45 : decode cX12_isWord 45 = .ok (.ifCond .ne 8, 3) := by decide +kernel
theorem dX12_isWord_48 : decode cX12_isWord 48 = .ok (.lload 6, 2) := by decide +kernel
theorem dX12_isWord_50 : decode cX12_isWord 50 = .ok (.goto 17, 3) := by decide +kernel
theorem dX12_isWord_53 : decode cX12_isWord 53 = .ok (.lload 6, 2) := by decide +kernel
theorem dX12_isWord_55 : decode cX12_isWord 55 = .ok (.ldc2_w 224, 3) := by decide +kernel
theorem dX12_isWord_58 : decode cX12_isWord 58 = .ok (.lmul, 1) := by decide +kernel
theorem dX12_isWord_59 : decode cX12_isWord 59 = .ok (.iload 4, 2) := by decide +kernel
theorem dX12_isWord_61 : decode cX12_isWord 61 = .ok (.i2l, 1) := by decide +kernel
theorem dX12_isWord_62 : decode cX12_isWord 62 = .ok (.ladd, 1) := by decide +kernel
theorem dX12_isWord_63 : decode cX12_isWord 63 = .ok (.ldc2_w 226, 3) := by decide +kernel
theorem dX12_isWord_66 : decode cX12_isWord 66 = .ok (.lsub, 1) := by decide +kernel
theorem dX12_isWord_67 : decode cX12_isWord 67 = .ok (.lstore 6, 2) := by decide +kernel
theorem dX12_isWord_69 : decode cX12_isWord 69 = .ok (.iload 5, 2) := by decide +kernel
theorem dX12_isWord_71 : decode cX12_isWord 71 = .ok (.ifCond .ne 8, 3) := by decide +kernel
theorem dX12_isWord_74 : decode cX12_isWord 74 = .ok (.lload 6, 2) := by decide +kernel
theorem dX12_isWord_76 : decode cX12_isWord 76 = .ok (.goto 17, 3) := by decide +kernel
theorem dX12_isWord_79 : decode cX12_isWord 79 = .ok (.lload 6, 2) := by decide +kernel
theorem dX12_isWord_81 : decode cX12_isWord 81 = .ok (.ldc2_w 224, 3) := by decide +kernel
theorem dX12_isWord_84 : decode cX12_isWord 84 = .ok (.lmul, 1) := by decide +kernel
theorem dX12_isWord_85 : decode cX12_isWord 85 = .ok (.iload 5, 2) := by decide +kernel
theorem dX12_isWord_87 : decode cX12_isWord 87 = .ok (.i2l, 1) := by decide +kernel
theorem dX12_isWord_88 : decode cX12_isWord 88 = .ok (.ladd, 1) := by decide +kernel
theorem dX12_isWord_89 : decode cX12_isWord 89 = .ok (.ldc2_w 226, 3) := by decide +kernel
theorem dX12_isWord_92 : decode cX12_isWord 92 = .ok (.lsub, 1) := by decide +kernel
theorem dX12_isWord_93 : decode cX12_isWord 93 = .ok (.lstore 6, 2) := by decide +kernel
theorem dX12_isWord_95 : decode cX12_isWord 95 = .ok (.aload_n 0, 1) := by decide +kernel
theorem dX12_isWord_96 : decode cX12_isWord 96 = .ok (.getfield 221, 3) := by decide +kernel
theorem dX12_isWord_99 : decode cX12_isWord 99 = .ok (.iconst 1, 1) := by decide +kernel
theorem dX12_isWord_100 : decode cX12_isWord 100 = .ok (.if_icmp .ne 17, 3) := by decide +kernel
theorem dX12_isWord_103 : decode cX12_isWord 103 = .ok (.aload_n 0, 1) := by decide +kernel
theorem dX12_isWord_104 : decode cX12_isWord 104 = .ok (.getfield 211, 3) := by decide +kernel
theorem dX12_isWord_107 : decode cX12_isWord 107 = .ok (.lload 6, 2) := by decide +kernel
theorem dX12_isWord_109 : decode cX12_isWord 109 = .ok (.lcmp, 1) := by decide +kernel
theorem dX12_isWord_110 : decode cX12_isWord 110 = .ok (.ifCond .ne 7, 3) := by decide +kernel
theorem dX12_isWord_113 : decode cX12_isWord 113 = .ok (.iconst 1, 1) := by decide +kernel
theorem dX12_isWord_114 : decode cX12_isWord 114 = .ok (.goto 4, 3) := by decide +kernel
theorem dX12_isWord_117 : decode cX12_isWord 117 = .ok (.iconst 0, 1) := by decide +kernel
theorem dX12_isWord_118 : decode cX12_isWord 118 = .ok (.ireturn, 1) := by decide +kernel
theorem dX12_must_0 : decode cX12_must 0 = .ok (.aload_n 0, 1) := by decide +kernel
theorem dX12_must_1 : decode cX12_must 1 = .ok (.getfield 232, 3) := by decide +kernel
theorem dX12_must_4 : decode cX12_must 4 = .ok (.ifCond .ne 20, 3) := by decide +kernel
theorem dX12_must_7 : decode cX12_must 7 = .ok (.iload_n 1, 1) := by decide +kernel
theorem dX12_must_8 : decode cX12_must 8 = .ok (.ifCond .ne 16, 3) := by decide +kernel
theorem dX12_must_11 : decode cX12_must 11 = .ok (.aload_n 0, 1) := by decide +kernel
theorem dX12_must_12 : decode cX12_must 12 = .ok (.iconst 1, 1) := by decide +kernel
theorem dX12_must_13 : decode cX12_must 13 = .ok (.putfield 232, 3) := by decide +kernel
theorem dX12_must_16 : decode cX12_must 16 = .ok (.aload_n 0, 1) := by decide +kernel
theorem dX12_must_17 : decode cX12_must 17 = .ok (.aload_n 0, 1) := by decide +kernel
theorem dX12_must_18 : decode cX12_must 18 = .ok (.getfield 208, 3) := by decide +kernel
theorem dX12_must_21 : decode cX12_must 21 = .ok (.putfield 93, 3) := by decide +kernel
theorem dX12_must_24 : decode cX12_must 24 = .ok (.aload_n 0, 1) := by decide +kernel
theorem dX12_must_25 : decode cX12_must 25 = .ok (.getfield 232, 3) := by decide +kernel
theorem dX12_must_28 : decode cX12_must 28 = .ok (.ifCond .ne 7, 3) := by decide +kernel
theorem dX12_must_31 : decode cX12_must 31 = .ok (.aload_n 0, 1) := by decide +kernel
theorem dX12_must_32 : decode cX12_must 32 = .ok (.invokevirtual 236, 3) := by decide +kernel
theorem dX12_must_35 : decode cX12_must 35 = .ok (.return_, 1) := by decide +kernel
theorem dX12_number_0 : decode cX12_number 0 = .ok (.aload_n 0, 1) := by decide +kernel
theorem dX12_number_1 : decode cX12_number 1 = .ok (.getfield 211, 3) := by decide +kernel
theorem dX12_number_4 : decode cX12_number 4 = .ok (.l2i, 1) := by decide +kernel
theorem dX12_number_5 : decode cX12_number 5 = .ok (.istore_n 1, 1) := by decide +kernel
theorem dX12_number_6 : decode cX12_number 6 = .ok (.aload_n 0, 1) := by decide +kernel
theorem dX12_number_7 : decode cX12_number 7 = .ok (.aload_n 0, 1) := by decide +kernel
theorem dX12_number_8 : decode cX12_number 8 = .ok (.getfield 221, 3) := by decide +kernel
theorem dX12_number_11 : decode cX12_number 11 = .ok (.iconst 2, 1) := by decide +kernel
theorem dX12_number_12 : decode cX12_number 12 = .ok (.if_icmp .ne 18, 3) := by decide +kernel
theorem dX12_number_15 : decode cX12_number 15 = .ok (.aload_n 0, 1) := by decide +kernel
theorem dX12_number_16 : decode cX12_number 16 = .ok (.getfield 211, 3) := by decide +kernel
theorem dX12_number_19 : decode cX12_number 19 = .ok (.ldc2_w 148, 3) := by decide +kernel
theorem dX12_number_22 : decode cX12_number 22 = .ok (.lcmp, 1) := by decide +kernel
theorem dX12_number_23 : decode cX12_number 23 = .ok (.ifCond .gt 7, 3) := by decide +kernel
theorem dX12_number_26 : decode cX12_number 26 = .ok (.iconst 1, 1) := by decide +kernel
theorem dX12_number_27 : decode cX12_number 27 = .ok (.goto 4, 3) := by decide +kernel
theorem dX12_number_30 : decode cX12_number 30 = .ok (.iconst 0, 1) := by decide +kernel
theorem dX12_number_31 : decode cX12_number 31 = .ok (.invokevirtual 239, 3) := by decide +kernel
theorem dX12_number_34 : decode cX12_number 34 = .ok (.iload_n 1, 1) := by decide +kernel
theorem dX12_number_35 : decode cX12_number 35 = .ok (.ireturn, 1) := by decide +kernel
theorem dX12_readRule_0 : decode cX12_readRule 0 = .ok (.aload_n 0, 1) := by decide +kernel
theorem dX12_readRule_1 : decode cX12_readRule 1 = .ok (.bipush 108, 2) := by decide +kernel
theorem dX12_readRule_3 : decode cX12_readRule 3 = .ok (.bipush 111, 2) := by decide +kernel
theorem dX12_readRule_5 : decode cX12_readRule 5 = .ok (.bipush 115, 2) := by decide +kernel
theorem dX12_readRule_7 : decode cX12_readRule 7 = .ok (.bipush 115, 2) := by decide +kernel
theorem dX12_readRule_9 : decode cX12_readRule 9 = .ok (.iconst 0, 1) := by decide +kernel
theorem dX12_readRule_10 : decode cX12_readRule 10 = .ok (.invokevirtual 243, 3) := by decide +kernel
theorem dX12_readRule_13 : decode cX12_readRule 13 = .ok (.ifCond .eq 7, 3) := by decide +kernel
theorem dX12_readRule_16 : decode cX12_readRule 16 = .ok (.iconst 0, 1) := by decide +kernel
theorem dX12_readRule_17 : decode cX12_readRule 17 = .ok (.goto 45, 3) := by decide +kernel
theorem dX12_readRule_20 : decode cX12_readRule 20 = .ok (.aload_n 0, 1) := by decide +kernel
theorem dX12_readRule_21 : decode cX12_readRule 21 = .ok (.bipush 114, 2) := by decide +kernel
theorem dX12_readRule_23 : decode cX12_readRule 23 = .ok (.bipush 97, 2) := by decide +kernel
theorem dX12_readRule_25 : decode cX12_readRule 25 = .ok (.bipush 100, 2) := by decide +kernel
theorem dX12_readRule_27 : decode cX12_readRule 27 = .ok (.bipush 97, 2) := by decide +kernel
theorem dX12_readRule_29 : decode cX12_readRule 29 = .ok (.bipush 114, 2) := by decide +kernel
theorem dX12_readRule_31 : decode cX12_readRule 31 = .ok (.invokevirtual 243, 3) := by decide +kernel
theorem dX12_readRule_34 : decode cX12_readRule 34 = .ok (.ifCond .eq 7, 3) := by decide +kernel
theorem dX12_readRule_37 : decode cX12_readRule 37 = .ok (.iconst 1, 1) := by decide +kernel
theorem dX12_readRule_38 : decode cX12_readRule 38 = .ok (.goto 24, 3) := by decide +kernel
theorem dX12_readRule_41 : decode cX12_readRule 41 = .ok (.aload_n 0, 1) := by decide +kernel
theorem dX12_readRule_42 : decode cX12_readRule 42 = .ok (.bipush 98, 2) := by decide +kernel
theorem dX12_readRule_44 : decode cX12_readRule 44 = .ok (.bipush 101, 2) := by decide +kernel
theorem dX12_readRule_46 : decode cX12_readRule 46 = .ok (.bipush 97, 2) := by decide +kernel
theorem dX12_readRule_48 : decode cX12_readRule 48 = .ok (.bipush 114, 2) := by decide +kernel
theorem dX12_readRule_50 : decode cX12_readRule 50 = .ok (.iconst 0, 1) := by decide +kernel
theorem dX12_readRule_51 : decode cX12_readRule 51 = .ok (.invokevirtual 243, 3) := by decide +kernel
theorem dX12_readRule_54 : decode cX12_readRule 54 = .ok (.ifCond .eq 7, 3) := by decide +kernel
theorem dX12_readRule_57 : decode cX12_readRule 57 = .ok (.iconst 2, 1) := by decide +kernel
theorem dX12_readRule_58 : decode cX12_readRule 58 = .ok (.goto 4, 3) := by decide +kernel
theorem dX12_readRule_61 : decode cX12_readRule 61 = .ok (.iconst (-1), 1) := by decide +kernel
theorem dX12_readRule_62 : decode cX12_readRule 62 = .ok (.istore_n 1, 1) := by decide +kernel
theorem dX12_readRule_63 : decode cX12_readRule 63 = .ok (.aload_n 0, 1) := by decide +kernel
theorem dX12_readRule_64 : decode cX12_readRule 64 = .ok (.iload_n 1, 1) := by decide +kernel
theorem dX12_readRule_65 : decode cX12_readRule 65 = .ok (.ifCond .lt 16, 3) := by decide +kernel
theorem dX12_readRule_68 : decode cX12_readRule 68 = .ok (.aload_n 0, 1) := by decide +kernel
theorem dX12_readRule_69 : decode cX12_readRule 69 = .ok (.getfield 247, 3) := by decide +kernel
theorem dX12_readRule_72 : decode cX12_readRule 72 = .ok (.bipush 20, 2) := by decide +kernel
theorem dX12_readRule_74 : decode cX12_readRule 74 = .ok (.if_icmp .ge 7, 3) := by decide +kernel
theorem dX12_readRule_77 : decode cX12_readRule 77 = .ok (.iconst 1, 1) := by decide +kernel
theorem dX12_readRule_78 : decode cX12_readRule 78 = .ok (.goto 4, 3) := by decide +kernel
theorem dX12_readRule_81 : decode cX12_readRule 81 = .ok (.iconst 0, 1) := by decide +kernel
theorem dX12_readRule_82 : decode cX12_readRule 82 = .ok (.invokevirtual 239, 3) := by decide +kernel
theorem dX12_readRule_85 : decode cX12_readRule 85 = .ok (.iload_n 1, 1) := by decide +kernel
theorem dX12_readRule_86 : decode cX12_readRule 86 = .ok (.iconst 1, 1) := by decide +kernel
theorem dX12_readRule_87 : decode cX12_readRule 87 = .ok (.if_icmp .ne 19, 3) := by decide +kernel
theorem dX12_readRule_90 : decode cX12_readRule 90 = .ok (.aload_n 0, 1) := by decide +kernel
theorem dX12_readRule_91 : decode cX12_readRule 91 = .ok (.aload_n 0, 1) := by decide +kernel
theorem dX12_readRule_92 : decode cX12_readRule 92 = .ok (.bipush 111, 2) := by decide +kernel
theorem dX12_readRule_94 : decode cX12_readRule 94 = .ok (.bipush 102, 2) := by decide +kernel
theorem dX12_readRule_96 : decode cX12_readRule 96 = .ok (.bipush 102, 2) := by decide +kernel
theorem dX12_readRule_98 : decode cX12_readRule 98 = .ok (.iconst 0, 1) := by decide +kernel
theorem dX12_readRule_99 : decode cX12_readRule 99 = .ok (.iconst 0, 1) := by decide +kernel
theorem dX12_readRule_100 : decode cX12_readRule 100 = .ok (.invokevirtual 243, 3) := by decide +kernel
theorem dX12_readRule_103 : decode cX12_readRule 103 = .ok (.invokevirtual 239, 3) := by decide +kernel
theorem dX12_readRule_106 : decode cX12_readRule 106 = .ok (.aload_n 0, 1) := by decide +kernel
theorem dX12_readRule_107 : decode cX12_readRule 107 = .ok (.invokevirtual 250, 3) := by decide +kernel
theorem dX12_readRule_110 : decode cX12_readRule 110 = .ok (.istore_n 2, 1) := by decide +kernel
theorem dX12_readRule_111 : decode cX12_readRule 111 = .ok (.iconst 0, 1) := by decide +kernel
theorem dX12_readRule_112 : decode cX12_readRule 112 = .ok (.istore_n 3, 1) := by decide +kernel
theorem dX12_readRule_113 : decode cX12_readRule 113 = .ok (.iconst 0, 1) := by decide +kernel
theorem dX12_readRule_114 : decode cX12_readRule 114 = .ok (.istore 4, 2) := by decide +kernel
theorem dX12_readRule_116 : decode cX12_readRule 116 = .ok (.iload_n 1, 1) := by decide +kernel
theorem dX12_readRule_117 : decode cX12_readRule 117 = .ok (.ifCond .ne 58, 3) := by decide +kernel
theorem dX12_readRule_120 : decode cX12_readRule 120 = .ok (.aload_n 0, 1) := by decide +kernel
theorem dX12_readRule_121 : decode cX12_readRule 121 = .ok (.aload_n 0, 1) := by decide +kernel
theorem dX12_readRule_122 : decode cX12_readRule 122 = .ok (.bipush 102, 2) := by decide +kernel
theorem dX12_readRule_124 : decode cX12_readRule 124 = .ok (.bipush 114, 2) := by decide +kernel
theorem dX12_readRule_126 : decode cX12_readRule 126 = .ok (.bipush 111, 2) := by decide +kernel
theorem dX12_readRule_128 : decode cX12_readRule 128 = .ok (.bipush 109, 2) := by decide +kernel
theorem dX12_readRule_130 : decode cX12_readRule 130 = .ok (.iconst 0, 1) := by decide +kernel
theorem dX12_readRule_131 : decode cX12_readRule 131 = .ok (.invokevirtual 243, 3) := by decide +kernel
theorem dX12_readRule_134 : decode cX12_readRule 134 = .ok (.invokevirtual 239, 3) := by decide +kernel
theorem dX12_readRule_137 : decode cX12_readRule 137 = .ok (.aload_n 0, 1) := by decide +kernel
theorem dX12_readRule_138 : decode cX12_readRule 138 = .ok (.invokevirtual 250, 3) := by decide +kernel
theorem dX12_readRule_141 : decode cX12_readRule 141 = .ok (.istore_n 3, 1) := by decide +kernel
theorem dX12_readRule_142 : decode cX12_readRule 142 = .ok (.aload_n 0, 1) := by decide +kernel
theorem dX12_readRule_143 : decode cX12_readRule 143 = .ok (.getfield 232, 3) := by decide +kernel
theorem dX12_readRule_146 : decode cX12_readRule 146 = .ok (.ifCond .ne 29, 3) := by decide +kernel
theorem dX12_readRule_149 : decode cX12_readRule 149 = .ok (.aload_n 0, 1) := by decide +kernel
theorem dX12_readRule_150 : decode cX12_readRule 150 = .ok (.bipush 115, 2) := by decide +kernel
theorem dX12_readRule_152 : decode cX12_readRule 152 = .ok (.bipush 117, 2) := by decide +kernel
theorem dX12_readRule_154 : decode cX12_readRule 154 = .ok (.bipush 114, 2) := by decide +kernel
theorem dX12_readRule_156 : decode cX12_readRule 156 = .ok (.bipush 101, 2) := by decide +kernel
theorem dX12_readRule_158 : decode cX12_readRule 158 = .ok (.iconst 0, 1) := by decide +kernel
theorem dX12_readRule_159 : decode cX12_readRule 159 = .ok (.invokevirtual 243, 3) := by decide +kernel
theorem dX12_readRule_162 : decode cX12_readRule 162 = .ok (.ifCond .eq 13, 3) := by decide +kernel
theorem dX12_readRule_165 : decode cX12_readRule 165 = .ok (.aload_n 0, 1) := by decide +kernel
theorem dX12_readRule_166 : decode cX12_readRule 166 = .ok (.invokevirtual 236, 3) := by decide +kernel
theorem dX12_readRule_169 : decode cX12_readRule 169 = .ok (.aload_n 0, 1) := by decide +kernel
theorem dX12_readRule_170 : decode cX12_readRule 170 = .ok (.invokevirtual 250, 3) := by decide +kernel
theorem dX12_readRule_173 : decode cX12_readRule 173 = .ok (.istore 4, 2) := by decide +kernel
theorem dX12_readRule_175 : decode cX12_readRule 175 = .ok (.aload_n 0, 1) := by decide +kernel
theorem dX12_readRule_176 : decode cX12_readRule 176 = .ok (.getfield 232, 3) := by decide +kernel
theorem dX12_readRule_179 : decode cX12_readRule 179 = .ok (.ifCond .eq 4, 3) := by decide +kernel
theorem dX12_readRule_182 : decode cX12_readRule 182 = .ok (.return_, 1) := by decide +kernel
theorem dX12_readRule_183 : decode cX12_readRule 183 = .ok (.aload_n 0, 1) := by decide +kernel
theorem dX12_readRule_184 : decode cX12_readRule 184 = .ok (.getfield 87, 3) := by decide +kernel
theorem dX12_readRule_187 : decode cX12_readRule 187 = .ok (.iconst 4, 1) := by decide +kernel
theorem dX12_readRule_188 : decode cX12_readRule 188 = .ok (.aload_n 0, 1) := by decide +kernel
theorem dX12_readRule_189 : decode cX12_readRule 189 = .ok (.getfield 247, 3) := by decide +kernel
theorem dX12_readRule_192 : decode cX12_readRule 192 = .ok (.imul, 1) := by decide +kernel
theorem dX12_readRule_193 : decode cX12_readRule 193 = .ok (.iload_n 1, 1) := by decide +kernel
theorem dX12_readRule_194 : decode cX12_readRule 194 = .ok (.iastore, 1) := by decide +kernel
theorem dX12_readRule_195 : decode cX12_readRule 195 = .ok (.aload_n 0, 1) := by decide +kernel
theorem dX12_readRule_196 : decode cX12_readRule 196 = .ok (.getfield 87, 3) := by decide +kernel
theorem dX12_readRule_199 : decode cX12_readRule 199 = .ok (.iconst 4, 1) := by decide +kernel
theorem dX12_readRule_200 : decode cX12_readRule 200 = .ok (.aload_n 0, 1) := by decide +kernel
theorem dX12_readRule_201 : decode cX12_readRule 201 = .ok (.getfield 247, 3) := by decide +kernel
theorem dX12_readRule_204 : decode cX12_readRule 204 = .ok (.imul, 1) := by decide +kernel
theorem dX12_readRule_205 : decode cX12_readRule 205 = .ok (.iconst 1, 1) := by decide +kernel
theorem dX12_readRule_206 : decode cX12_readRule 206 = .ok (.iadd, 1) := by decide +kernel
theorem dX12_readRule_207 : decode cX12_readRule 207 = .ok (.iload_n 2, 1) := by decide +kernel
theorem dX12_readRule_208 : decode cX12_readRule 208 = .ok (.iastore, 1) := by decide +kernel
theorem dX12_readRule_209 : decode cX12_readRule 209 = .ok (.aload_n 0, 1) := by decide +kernel
theorem dX12_readRule_210 : decode cX12_readRule 210 = .ok (.getfield 87, 3) := by decide +kernel
theorem dX12_readRule_213 : decode cX12_readRule 213 = .ok (.iconst 4, 1) := by decide +kernel
theorem dX12_readRule_214 : decode cX12_readRule 214 = .ok (.aload_n 0, 1) := by decide +kernel
theorem dX12_readRule_215 : decode cX12_readRule 215 = .ok (.getfield 247, 3) := by decide +kernel
theorem dX12_readRule_218 : decode cX12_readRule 218 = .ok (.imul, 1) := by decide +kernel
theorem dX12_readRule_219 : decode cX12_readRule 219 = .ok (.iconst 2, 1) := by decide +kernel
theorem dX12_readRule_220 : decode cX12_readRule 220 = .ok (.iadd, 1) := by decide +kernel
theorem dX12_readRule_221 : decode cX12_readRule 221 = .ok (.iload_n 3, 1) := by decide +kernel
theorem dX12_readRule_222 : decode cX12_readRule 222 = .ok (.iastore, 1) := by decide +kernel
theorem dX12_readRule_223 : decode cX12_readRule 223 = .ok (.aload_n 0, 1) := by decide +kernel
theorem dX12_readRule_224 : decode cX12_readRule 224 = .ok (.getfield 87, 3) := by decide +kernel
theorem dX12_readRule_227 : decode cX12_readRule 227 = .ok (.iconst 4, 1) := by decide +kernel
theorem dX12_readRule_228 : decode cX12_readRule 228 = .ok (.aload_n 0, 1) := by decide +kernel
theorem dX12_readRule_229 : decode cX12_readRule 229 = .ok (.getfield 247, 3) := by decide +kernel
theorem dX12_readRule_232 : decode cX12_readRule 232 = .ok (.imul, 1) := by decide +kernel
theorem dX12_readRule_233 : decode cX12_readRule 233 = .ok (.iconst 3, 1) := by decide +kernel
theorem dX12_readRule_234 : decode cX12_readRule 234 = .ok (.iadd, 1) := by decide +kernel
theorem dX12_readRule_235 : decode cX12_readRule 235 = .ok (.iload 4, 2) := by decide +kernel
theorem dX12_readRule_237 : decode cX12_readRule 237 = .ok (.iastore, 1) := by decide +kernel
theorem dX12_readRule_238 : decode cX12_readRule 238 = .ok (.aload_n 0, 1) := by decide +kernel
theorem dX12_readRule_239 : decode cX12_readRule 239 = .ok (.dup, 1) := by decide +kernel
theorem dX12_readRule_240 : decode cX12_readRule 240 = .ok (.getfield 247, 3) := by decide +kernel
theorem dX12_readRule_243 : decode cX12_readRule 243 = .ok (.iconst 1, 1) := by decide +kernel
theorem dX12_readRule_244 : decode cX12_readRule 244 = .ok (.iadd, 1) := by decide +kernel
theorem dX12_readRule_245 : decode cX12_readRule 245 = .ok (.putfield 247, 3) := by decide +kernel
theorem dX12_readRule_248 : decode cX12_readRule 248 = .ok (.return_, 1) := by decide +kernel
theorem dX12_rules_0 : decode cX12_rules 0 = .ok (.aload_n 0, 1) := by decide +kernel
theorem dX12_rules_1 : decode cX12_rules 1 = .ok (.iconst 0, 1) := by decide +kernel
theorem dX12_rules_2 : decode cX12_rules 2 = .ok (.putfield 108, 3) := by decide +kernel
theorem dX12_rules_5 : decode cX12_rules 5 = .ok (.aload_n 0, 1) := by decide +kernel
theorem dX12_rules_6 : decode cX12_rules 6 = .ok (.iconst 0, 1) := by decide +kernel
theorem dX12_rules_7 : decode cX12_rules 7 = .ok (.putfield 205, 3) := by decide +kernel
theorem dX12_rules_10 : decode cX12_rules 10 = .ok (.aload_n 0, 1) := by decide +kernel
theorem dX12_rules_11 : decode cX12_rules 11 = .ok (.iconst 0, 1) := by decide +kernel
theorem dX12_rules_12 : decode cX12_rules 12 = .ok (.putfield 232, 3) := by decide +kernel
theorem dX12_rules_15 : decode cX12_rules 15 = .ok (.aload_n 0, 1) := by decide +kernel
theorem dX12_rules_16 : decode cX12_rules 16 = .ok (.iconst (-1), 1) := by decide +kernel
theorem dX12_rules_17 : decode cX12_rules 17 = .ok (.putfield 93, 3) := by decide +kernel
theorem dX12_rules_20 : decode cX12_rules 20 = .ok (.aload_n 0, 1) := by decide +kernel
theorem dX12_rules_21 : decode cX12_rules 21 = .ok (.iconst 0, 1) := by decide +kernel
theorem dX12_rules_22 : decode cX12_rules 22 = .ok (.putfield 247, 3) := by decide +kernel
theorem dX12_rules_25 : decode cX12_rules 25 = .ok (.aload_n 0, 1) := by decide +kernel
theorem dX12_rules_26 : decode cX12_rules 26 = .ok (.invokevirtual 236, 3) := by decide +kernel
theorem dX12_rules_29 : decode cX12_rules 29 = .ok (.aload_n 0, 1) := by decide +kernel
theorem dX12_rules_30 : decode cX12_rules 30 = .ok (.getfield 221, 3) := by decide +kernel
theorem dX12_rules_33 : decode cX12_rules 33 = .ok (.ifCond .eq 63, 3) := by decide +kernel
theorem dX12_rules_36 : decode cX12_rules 36 = .ok (.aload_n 0, 1) := by decide +kernel
theorem dX12_rules_37 : decode cX12_rules 37 = .ok (.invokevirtual 253, 3) := by decide +kernel
theorem dX12_rules_40 : decode cX12_rules 40 = .ok (.aload_n 0, 1) := by decide +kernel
theorem dX12_rules_41 : decode cX12_rules 41 = .ok (.getfield 232, 3) := by decide +kernel
theorem dX12_rules_44 : decode cX12_rules 44 = .ok (.ifCond .ne 33, 3) := by decide +kernel
theorem dX12_rules_47 : decode cX12_rules 47 = .ok (.aload_n 0, 1) := by decide +kernel
theorem dX12_rules_48 : decode cX12_rules 48 = .ok (.getfield 221, 3) := by decide +kernel
theorem dX12_rules_51 : decode cX12_rules 51 = .ok (.iconst 3, 1) := by decide +kernel
theorem dX12_rules_52 : decode cX12_rules 52 = .ok (.if_icmp .ne 25, 3) := by decide +kernel
theorem dX12_rules_55 : decode cX12_rules 55 = .ok (.aload_n 0, 1) := by decide +kernel
theorem dX12_rules_56 : decode cX12_rules 56 = .ok (.getfield 211, 3) := by decide +kernel
theorem dX12_rules_59 : decode cX12_rules 59 = .ok (.ldc2_w 256, 3) := by decide +kernel
theorem dX12_rules_62 : decode cX12_rules 62 = .ok (.lcmp, 1) := by decide +kernel
theorem dX12_rules_63 : decode cX12_rules 63 = .ok (.ifCond .ne 14, 3) := by decide +kernel
theorem dX12_rules_66 : decode cX12_rules 66 = .ok (.aload_n 0, 1) := by decide +kernel
theorem dX12_rules_67 : decode cX12_rules 67 = .ok (.invokevirtual 236, 3) := by decide +kernel
theorem dX12_rules_70 : decode cX12_rules 70 = .ok (.aload_n 0, 1) := by decide +kernel
theorem dX12_rules_71 : decode cX12_rules 71 = .ok (.invokevirtual 253, 3) := by decide +kernel
theorem dX12_rules_74 : decode cX12_rules 74 = .ok (.goto (-34), 3) := by decide +kernel
theorem dX12_rules_77 : decode cX12_rules 77 = .ok (.aload_n 0, 1) := by decide +kernel
theorem dX12_rules_78 : decode cX12_rules 78 = .ok (.getfield 232, 3) := by decide +kernel
theorem dX12_rules_81 : decode cX12_rules 81 = .ok (.ifCond .ne 15, 3) := by decide +kernel
theorem dX12_rules_84 : decode cX12_rules 84 = .ok (.aload_n 0, 1) := by decide +kernel
theorem dX12_rules_85 : decode cX12_rules 85 = .ok (.getfield 221, 3) := by decide +kernel
theorem dX12_rules_88 : decode cX12_rules 88 = .ok (.ifCond .eq 8, 3) := by decide +kernel
theorem dX12_rules_91 : decode cX12_rules 91 = .ok (.aload_n 0, 1) := by decide +kernel
theorem dX12_rules_92 : decode cX12_rules 92 = .ok (.iconst 0, 1) := by decide +kernel
theorem dX12_rules_93 : decode cX12_rules 93 = .ok (.invokevirtual 239, 3) := by decide +kernel
theorem dX12_rules_96 : decode cX12_rules 96 = .ok (.aload_n 0, 1) := by decide +kernel
theorem dX12_rules_97 : decode cX12_rules 97 = .ok (.iconst 0, 1) := by decide +kernel
theorem dX12_rules_98 : decode cX12_rules 98 = .ok (.putfield 199, 3) := by decide +kernel
theorem dX12_rules_101 : decode cX12_rules 101 = .ok (.aload_n 0, 1) := by decide +kernel
theorem dX12_rules_102 : decode cX12_rules 102 = .ok (.getfield 232, 3) := by decide +kernel
theorem dX12_rules_105 : decode cX12_rules 105 = .ok (.ifCond .eq 10, 3) := by decide +kernel
theorem dX12_rules_108 : decode cX12_rules 108 = .ok (.aload_n 0, 1) := by decide +kernel
theorem dX12_rules_109 : decode cX12_rules 109 = .ok (.bipush (-6), 2) := by decide +kernel
theorem dX12_rules_111 : decode cX12_rules 111 = .ok (.invokevirtual 129, 3) := by decide +kernel
theorem dX12_rules_114 : decode cX12_rules 114 = .ok (.ireturn, 1) := by decide +kernel
theorem dX12_rules_115 : decode cX12_rules 115 = .ok (.aload_n 0, 1) := by decide +kernel
theorem dX12_rules_116 : decode cX12_rules 116 = .ok (.aload_n 0, 1) := by decide +kernel
theorem dX12_rules_117 : decode cX12_rules 117 = .ok (.getfield 247, 3) := by decide +kernel
theorem dX12_rules_120 : decode cX12_rules 120 = .ok (.putfield 258, 3) := by decide +kernel
theorem dX12_rules_123 : decode cX12_rules 123 = .ok (.iconst 0, 1) := by decide +kernel
theorem dX12_rules_124 : decode cX12_rules 124 = .ok (.istore_n 1, 1) := by decide +kernel
theorem dX12_rules_125 : decode cX12_rules 125 = .ok (.iload_n 1, 1) := by decide +kernel
theorem dX12_rules_126 : decode cX12_rules 126 = .ok (.aload_n 0, 1) := by decide +kernel
theorem dX12_rules_127 : decode cX12_rules 127 = .ok (.getfield 258, 3) := by decide +kernel
theorem dX12_rules_130 : decode cX12_rules 130 = .ok (.if_icmp .ge 71, 3) := by decide +kernel
theorem dX12_rules_133 : decode cX12_rules 133 = .ok (.aload_n 0, 1) := by decide +kernel
theorem dX12_rules_134 : decode cX12_rules 134 = .ok (.getfield 75, 3) := by decide +kernel
theorem dX12_rules_137 : decode cX12_rules 137 = .ok (.iload_n 1, 1) := by decide +kernel
theorem dX12_rules_138 : decode cX12_rules 138 = .ok (.aload_n 0, 1) := by decide +kernel
theorem dX12_rules_139 : decode cX12_rules 139 = .ok (.getfield 87, 3) := by decide +kernel
theorem dX12_rules_142 : decode cX12_rules 142 = .ok (.iconst 4, 1) := by decide +kernel
theorem dX12_rules_143 : decode cX12_rules 143 = .ok (.iload_n 1, 1) := by decide +kernel
theorem dX12_rules_144 : decode cX12_rules 144 = .ok (.imul, 1) := by decide +kernel
theorem dX12_rules_145 : decode cX12_rules 145 = .ok (.iaload, 1) := by decide +kernel
theorem dX12_rules_146 : decode cX12_rules 146 = .ok (.iastore, 1) := by decide +kernel
theorem dX12_rules_147 : decode cX12_rules 147 = .ok (.aload_n 0, 1) := by decide +kernel
theorem dX12_rules_148 : decode cX12_rules 148 = .ok (.getfield 78, 3) := by decide +kernel
theorem dX12_rules_151 : decode cX12_rules 151 = .ok (.iload_n 1, 1) := by decide +kernel
theorem dX12_rules_152 : decode cX12_rules 152 = .ok (.aload_n 0, 1) := by decide +kernel
theorem dX12_rules_153 : decode cX12_rules 153 = .ok (.getfield 87, 3) := by decide +kernel
theorem dX12_rules_156 : decode cX12_rules 156 = .ok (.iconst 4, 1) := by decide +kernel
theorem dX12_rules_157 : decode cX12_rules 157 = .ok (.iload_n 1, 1) := by decide +kernel
theorem dX12_rules_158 : decode cX12_rules 158 = .ok (.imul, 1) := by decide +kernel
theorem dX12_rules_159 : decode cX12_rules 159 = .ok (.iconst 1, 1) := by decide +kernel
theorem dX12_rules_160 : decode cX12_rules 160 = .ok (.iadd, 1) := by decide +kernel
theorem dX12_rules_161 : decode cX12_rules 161 = .ok (.iaload, 1) := by decide +kernel
theorem dX12_rules_162 : decode cX12_rules 162 = .ok (.iastore, 1) := by decide +kernel
theorem dX12_rules_163 : decode cX12_rules 163 = .ok (.aload_n 0, 1) := by decide +kernel
theorem dX12_rules_164 : decode cX12_rules 164 = .ok (.getfield 81, 3) := by decide +kernel
theorem dX12_rules_167 : decode cX12_rules 167 = .ok (.iload_n 1, 1) := by decide +kernel
theorem dX12_rules_168 : decode cX12_rules 168 = .ok (.aload_n 0, 1) := by decide +kernel
theorem dX12_rules_169 : decode cX12_rules 169 = .ok (.getfield 87, 3) := by decide +kernel
theorem dX12_rules_172 : decode cX12_rules 172 = .ok (.iconst 4, 1) := by decide +kernel
theorem dX12_rules_173 : decode cX12_rules 173 = .ok (.iload_n 1, 1) := by decide +kernel
theorem dX12_rules_174 : decode cX12_rules 174 = .ok (.imul, 1) := by decide +kernel
theorem dX12_rules_175 : decode cX12_rules 175 = .ok (.iconst 2, 1) := by decide +kernel
theorem dX12_rules_176 : decode cX12_rules 176 = .ok (.iadd, 1) := by decide +kernel
theorem dX12_rules_177 : decode cX12_rules 177 = .ok (.iaload, 1) := by decide +kernel
theorem dX12_rules_178 : decode cX12_rules 178 = .ok (.iastore, 1) := by decide +kernel
theorem dX12_rules_179 : decode cX12_rules 179 = .ok (.aload_n 0, 1) := by decide +kernel
theorem dX12_rules_180 : decode cX12_rules 180 = .ok (.getfield 84, 3) := by decide +kernel
theorem dX12_rules_183 : decode cX12_rules 183 = .ok (.iload_n 1, 1) := by decide +kernel
theorem dX12_rules_184 : decode cX12_rules 184 = .ok (.aload_n 0, 1) := by decide +kernel
theorem dX12_rules_185 : decode cX12_rules 185 = .ok (.getfield 87, 3) := by decide +kernel
theorem dX12_rules_188 : decode cX12_rules 188 = .ok (.iconst 4, 1) := by decide +kernel
theorem dX12_rules_189 : decode cX12_rules 189 = .ok (.iload_n 1, 1) := by decide +kernel
theorem dX12_rules_190 : decode cX12_rules 190 = .ok (.imul, 1) := by decide +kernel
theorem dX12_rules_191 : decode cX12_rules 191 = .ok (.iconst 3, 1) := by decide +kernel
theorem dX12_rules_192 : decode cX12_rules 192 = .ok (.iadd, 1) := by decide +kernel
theorem dX12_rules_193 : decode cX12_rules 193 = .ok (.iaload, 1) := by decide +kernel
theorem dX12_rules_194 : decode cX12_rules 194 = .ok (.iastore, 1) := by decide +kernel
theorem dX12_rules_195 : decode cX12_rules 195 = .ok (.iinc 1 1, 3) := by decide +kernel
theorem dX12_rules_198 : decode cX12_rules 198 = .ok (.goto (-73), 3) := by decide +kernel
theorem dX12_rules_201 : decode cX12_rules 201 = .ok (.aload_n 0, 1) := by decide +kernel
theorem dX12_rules_202 : decode cX12_rules 202 = .ok (.aload_n 0, 1) := by decide +kernel
theorem dX12_rules_203 : decode cX12_rules 203 = .ok (.getfield 258, 3) := by decide +kernel
theorem dX12_rules_206 : decode cX12_rules 206 = .ok (.invokevirtual 129, 3) := by decide +kernel
theorem dX12_rules_209 : decode cX12_rules 209 = .ok (.ireturn, 1) := by decide +kernel
theorem dX12_fault_0 : decode cX12_fault 0 = .ok (.aload_n 0, 1) := by decide +kernel
theorem dX12_fault_1 : decode cX12_fault 1 = .ok (.iconst 0, 1) := by decide +kernel
theorem dX12_fault_2 : decode cX12_fault 2 = .ok (.putfield 108, 3) := by decide +kernel
theorem dX12_fault_5 : decode cX12_fault 5 = .ok (.aload_n 0, 1) := by decide +kernel
theorem dX12_fault_6 : decode cX12_fault 6 = .ok (.getfield 93, 3) := by decide +kernel
theorem dX12_fault_9 : decode cX12_fault 9 = .ok (.ireturn, 1) := by decide +kernel
theorem dX12_claim_0 : decode cX12_claim 0 = .ok (.aload_n 0, 1) := by decide +kernel
theorem dX12_claim_1 : decode cX12_claim 1 = .ok (.iconst 0, 1) := by decide +kernel
theorem dX12_claim_2 : decode cX12_claim 2 = .ok (.putfield 108, 3) := by decide +kernel
theorem dX12_claim_5 : decode cX12_claim 5 = .ok (.iload_n 1, 1) := by decide +kernel
theorem dX12_claim_6 : decode cX12_claim 6 = .ok (.invokestatic 125, 3) := by decide +kernel
theorem dX12_claim_9 : decode cX12_claim 9 = .ok (.ifCond .eq 35, 3) := by decide +kernel
theorem dX12_claim_12 : decode cX12_claim 12 = .ok (.iload_n 2, 1) := by decide +kernel
theorem dX12_claim_13 : decode cX12_claim 13 = .ok (.invokestatic 125, 3) := by decide +kernel
theorem dX12_claim_16 : decode cX12_claim 16 = .ok (.ifCond .eq 28, 3) := by decide +kernel
theorem dX12_claim_19 : decode cX12_claim 19 = .ok (.iload_n 3, 1) := by decide +kernel
theorem dX12_claim_20 : decode cX12_claim 20 = .ok (.i2l, 1) := by decide +kernel
theorem dX12_claim_21 : decode cX12_claim 21 = .ok (.lconst 0, 1) := by decide +kernel
theorem dX12_claim_22 : decode cX12_claim 22 = .ok (.ldc2_w 261, 3) := by decide +kernel
theorem dX12_claim_25 : decode cX12_claim 25 = .ok (.invokestatic 116, 3) := by decide +kernel
theorem dX12_claim_28 : decode cX12_claim 28 = .ok (.ifCond .eq 16, 3) := by decide +kernel
theorem dX12_claim_31 : decode cX12_claim 31 = .ok (.iload 4, 2) := by decide +kernel
theorem dX12_claim_33 : decode cX12_claim 33 = .ok (.i2l, 1) := by decide +kernel
theorem dX12_claim_34 : decode cX12_claim 34 = .ok (.lconst 0, 1) := by decide +kernel
theorem dX12_claim_35 : decode cX12_claim 35 = .ok (.ldc2_w 148, 3) := by decide +kernel
theorem dX12_claim_38 : decode cX12_claim 38 = .ok (.invokestatic 116, 3) := by decide +kernel
theorem dX12_claim_41 : decode cX12_claim 41 = .ok (.ifCond .ne 9, 3) := by decide +kernel
theorem dX12_claim_44 : decode cX12_claim 44 = .ok (.aload_n 0, 1) := by decide +kernel
theorem dX12_claim_45 : decode cX12_claim 45 = .ok (.iconst (-1), 1) := by decide +kernel
theorem dX12_claim_46 : decode cX12_claim 46 = .ok (.invokevirtual 129, 3) := by decide +kernel
theorem dX12_claim_49 : decode cX12_claim 49 = .ok (.ireturn, 1) := by decide +kernel
theorem dX12_claim_50 : decode cX12_claim 50 = .ok (.aload_n 0, 1) := by decide +kernel
theorem dX12_claim_51 : decode cX12_claim 51 = .ok (.getfield 263, 3) := by decide +kernel
theorem dX12_claim_54 : decode cX12_claim 54 = .ok (.bipush 40, 2) := by decide +kernel
theorem dX12_claim_56 : decode cX12_claim 56 = .ok (.if_icmp .ne 10, 3) := by decide +kernel
theorem dX12_claim_59 : decode cX12_claim 59 = .ok (.aload_n 0, 1) := by decide +kernel
theorem dX12_claim_60 : decode cX12_claim 60 = .ok (.bipush (-5), 2) := by decide +kernel
theorem dX12_claim_62 : decode cX12_claim 62 = .ok (.invokevirtual 129, 3) := by decide +kernel
theorem dX12_claim_65 : decode cX12_claim 65 = .ok (.ireturn, 1) := by decide +kernel
theorem dX12_claim_66 : decode cX12_claim 66 = .ok (.aload_n 0, 1) := by decide +kernel
theorem dX12_claim_67 : decode cX12_claim 67 = .ok (.getfield 96, 3) := by decide +kernel
theorem dX12_claim_70 : decode cX12_claim 70 = .ok (.aload_n 0, 1) := by decide +kernel
theorem dX12_claim_71 : decode cX12_claim 71 = .ok (.getfield 263, 3) := by decide +kernel
theorem dX12_claim_74 : decode cX12_claim 74 = .ok (.iload_n 1, 1) := by decide +kernel
theorem dX12_claim_75 : decode cX12_claim 75 = .ok (.iastore, 1) := by decide +kernel
theorem dX12_claim_76 : decode cX12_claim 76 = .ok (.aload_n 0, 1) := by decide +kernel
theorem dX12_claim_77 : decode cX12_claim 77 = .ok (.getfield 99, 3) := by decide +kernel
theorem dX12_claim_80 : decode cX12_claim 80 = .ok (.aload_n 0, 1) := by decide +kernel
theorem dX12_claim_81 : decode cX12_claim 81 = .ok (.getfield 263, 3) := by decide +kernel
theorem dX12_claim_84 : decode cX12_claim 84 = .ok (.iload_n 2, 1) := by decide +kernel
theorem dX12_claim_85 : decode cX12_claim 85 = .ok (.iastore, 1) := by decide +kernel
theorem dX12_claim_86 : decode cX12_claim 86 = .ok (.aload_n 0, 1) := by decide +kernel
theorem dX12_claim_87 : decode cX12_claim 87 = .ok (.getfield 102, 3) := by decide +kernel
theorem dX12_claim_90 : decode cX12_claim 90 = .ok (.aload_n 0, 1) := by decide +kernel
theorem dX12_claim_91 : decode cX12_claim 91 = .ok (.getfield 263, 3) := by decide +kernel
theorem dX12_claim_94 : decode cX12_claim 94 = .ok (.iload_n 3, 1) := by decide +kernel
theorem dX12_claim_95 : decode cX12_claim 95 = .ok (.iastore, 1) := by decide +kernel
theorem dX12_claim_96 : decode cX12_claim 96 = .ok (.aload_n 0, 1) := by decide +kernel
theorem dX12_claim_97 : decode cX12_claim 97 = .ok (.getfield 105, 3) := by decide +kernel
theorem dX12_claim_100 : decode cX12_claim 100 = .ok (.aload_n 0, 1) := by decide +kernel
theorem dX12_claim_101 : decode cX12_claim 101 = .ok (.getfield 263, 3) := by decide +kernel
theorem dX12_claim_104 : decode cX12_claim 104 = .ok (.iload 4, 2) := by decide +kernel
theorem dX12_claim_106 : decode cX12_claim 106 = .ok (.iastore, 1) := by decide +kernel
theorem dX12_claim_107 : decode cX12_claim 107 = .ok (.aload_n 0, 1) := by decide +kernel
theorem dX12_claim_108 : decode cX12_claim 108 = .ok (.dup, 1) := by decide +kernel
theorem dX12_claim_109 : decode cX12_claim 109 = .ok (.getfield 263, 3) := by decide +kernel
theorem dX12_claim_112 : decode cX12_claim 112 = .ok (.iconst 1, 1) := by decide +kernel
theorem dX12_claim_113 : decode cX12_claim 113 = .ok (.iadd, 1) := by decide +kernel
