theorem dX11_judged_144 : decode cX11_judged 144 = .ok (.aload_n 0, 1) := by decide +kernel
theorem dX11_judged_145 : decode cX11_judged 145 = .ok (.getfield 90, 3) := by decide +kernel
theorem dX11_judged_148 : decode cX11_judged 148 = .ok (.getfield 252, 3) := by decide +kernel
theorem dX11_judged_151 : decode cX11_judged 151 = .ok (.isub, 1) := by decide +kernel
theorem dX11_judged_152 : decode cX11_judged 152 = .ok (.invokestatic 255, 3) := by decide +kernel
theorem dX11_judged_155 : decode cX11_judged 155 = .ok (.istore 7, 2) := by decide +kernel
theorem dX11_judged_157 : decode cX11_judged 157 = .ok (.aload_n 0, 1) := by decide +kernel
theorem dX11_judged_158 : decode cX11_judged 158 = .ok (.getfield 83, 3) := by decide +kernel
theorem dX11_judged_161 : decode cX11_judged 161 = .ok (.getfield 258, 3) := by decide +kernel
theorem dX11_judged_164 : decode cX11_judged 164 = .ok (.iload_n 1, 1) := by decide +kernel
theorem dX11_judged_165 : decode cX11_judged 165 = .ok (.iaload, 1) := by decide +kernel
theorem dX11_judged_166 : decode cX11_judged 166 = .ok (.iload 7, 2) := by decide +kernel
theorem dX11_judged_168 : decode cX11_judged 168 = .ok (.imul, 1) := by decide +kernel
theorem dX11_judged_169 : decode cX11_judged 169 = .ok (.bipush 100, 2) := by decide +kernel
theorem dX11_judged_171 : decode cX11_judged 171 = .ok (.idiv, 1) := by decide +kernel
theorem dX11_judged_172 : decode cX11_judged 172 = .ok (.ireturn, 1) := by decide +kernel
theorem dX11_quarrel_0 : decode cX11_quarrel 0 = .ok (.aload_n 0, 1) := by decide +kernel
theorem dX11_quarrel_1 : decode cX11_quarrel 1 = .ok (.getfield 12, 3) := by decide +kernel
theorem dX11_quarrel_4 : decode cX11_quarrel 4 = .ok (.iload_n 1, 1) := by decide +kernel
theorem dX11_quarrel_5 : decode cX11_quarrel 5 = .ok (.invokevirtual 130, 3) := by decide +kernel
theorem dX11_quarrel_8 : decode cX11_quarrel 8 = .ok (.ifCond .eq 10, 3) := by decide +kernel
theorem dX11_quarrel_11 : decode cX11_quarrel 11 = .ok (.iload_n 2, 1) := by decide +kernel
theorem dX11_quarrel_12 : decode cX11_quarrel 12 = .ok (.invokestatic 126, 3) := by decide +kernel
theorem dX11_quarrel_15 : decode cX11_quarrel 15 = .ok (.ifCond .ne 5, 3) := by decide +kernel
theorem dX11_quarrel_18 : decode cX11_quarrel 18 = .ok (.iconst (-1), 1) := by decide +kernel
theorem dX11_quarrel_19 : decode cX11_quarrel 19 = .ok (.ireturn, 1) := by decide +kernel
theorem dX11_quarrel_20 : decode cX11_quarrel 20 = .ok (.aload_n 0, 1) := by decide +kernel
theorem dX11_quarrel_21 : decode cX11_quarrel 21 = .ok (.getfield 35, 3) := by decide +kernel
theorem dX11_quarrel_24 : decode cX11_quarrel 24 = .ok (.iload_n 2, 1) := by decide +kernel
theorem dX11_quarrel_25 : decode cX11_quarrel 25 = .ok (.invokevirtual 151, 3) := by decide +kernel
theorem dX11_quarrel_28 : decode cX11_quarrel 28 = .ok (.iconst 0, 1) := by decide +kernel
theorem dX11_quarrel_29 : decode cX11_quarrel 29 = .ok (.istore_n 3, 1) := by decide +kernel
theorem dX11_quarrel_30 : decode cX11_quarrel 30 = .ok (.iconst 0, 1) := by decide +kernel
theorem dX11_quarrel_31 : decode cX11_quarrel 31 = .ok (.istore 4, 2) := by decide +kernel
theorem dX11_quarrel_33 : decode cX11_quarrel 33 = .ok (.iload 4, 2) := by decide +kernel
theorem dX11_quarrel_35 : decode cX11_quarrel 35 = .ok (.bipush 10, 2) := by decide +kernel
theorem dX11_quarrel_37 : decode cX11_quarrel 37 = .ok (.if_icmp .ge 28, 3) := by decide +kernel
theorem dX11_quarrel_40 : decode cX11_quarrel 40 = .ok (.iload_n 3, 1) := by decide +kernel
theorem dX11_quarrel_41 : decode cX11_quarrel 41 = .ok (.aload_n 0, 1) := by decide +kernel
theorem dX11_quarrel_42 : decode cX11_quarrel 42 = .ok (.getfield 35, 3) := by decide +kernel
theorem dX11_quarrel_45 : decode cX11_quarrel 45 = .ok (.iload_n 1, 1) := by decide +kernel
theorem dX11_quarrel_46 : decode cX11_quarrel 46 = .ok (.bipush 10, 2) := by decide +kernel
theorem dX11_quarrel_48 : decode cX11_quarrel 48 = .ok (.imul, 1) := by decide +kernel
theorem dX11_quarrel_49 : decode cX11_quarrel 49 = .ok (.iload 4, 2) := by decide +kernel
theorem dX11_quarrel_51 : decode cX11_quarrel 51 = .ok (.iadd, 1) := by decide +kernel
theorem dX11_quarrel_52 : decode cX11_quarrel 52 = .ok (.invokevirtual 261, 3) := by decide +kernel
theorem dX11_quarrel_55 : decode cX11_quarrel 55 = .ok (.invokestatic 255, 3) := by decide +kernel
theorem dX11_quarrel_58 : decode cX11_quarrel 58 = .ok (.istore_n 3, 1) := by decide +kernel
theorem dX11_quarrel_59 : decode cX11_quarrel 59 = .ok (.iinc 4 1, 3) := by decide +kernel
theorem dX11_quarrel_62 : decode cX11_quarrel 62 = .ok (.goto (-29), 3) := by decide +kernel
theorem dX11_quarrel_65 : decode cX11_quarrel 65 = .ok (.iload_n 3, 1) := by decide +kernel
theorem dX11_quarrel_66 : decode cX11_quarrel 66 = .ok (.ireturn, 1) := by decide +kernel
theorem dX11_count_0 : decode cX11_count 0 = .ok (.iload_n 1, 1) := by decide +kernel
theorem dX11_count_1 : decode cX11_count 1 = .ok (.tableswitch 87 0 5 #[39, 47, 55, 63, 71, 79], 39) := by decide +kernel
theorem dX11_count_40 : decode cX11_count 40 = .ok (.aload_n 0, 1) := by decide +kernel
theorem dX11_count_41 : decode cX11_count 41 = .ok (.getfield 12, 3) := by decide +kernel
theorem dX11_count_44 : decode cX11_count 44 = .ok (.getfield 112, 3) := by decide +kernel
theorem dX11_count_47 : decode cX11_count 47 = .ok (.ireturn, 1) := by decide +kernel
theorem dX11_count_48 : decode cX11_count 48 = .ok (.aload_n 0, 1) := by decide +kernel
theorem dX11_count_49 : decode cX11_count 49 = .ok (.getfield 19, 3) := by decide +kernel
theorem dX11_count_52 : decode cX11_count 52 = .ok (.getfield 133, 3) := by decide +kernel
theorem dX11_count_55 : decode cX11_count 55 = .ok (.ireturn, 1) := by decide +kernel
theorem dX11_count_56 : decode cX11_count 56 = .ok (.aload_n 0, 1) := by decide +kernel
theorem dX11_count_57 : decode cX11_count 57 = .ok (.getfield 90, 3) := by decide +kernel
theorem dX11_count_60 : decode cX11_count 60 = .ok (.getfield 226, 3) := by decide +kernel
theorem dX11_count_63 : decode cX11_count 63 = .ok (.ireturn, 1) := by decide +kernel
theorem dX11_count_64 : decode cX11_count 64 = .ok (.aload_n 0, 1) := by decide +kernel
theorem dX11_count_65 : decode cX11_count 65 = .ok (.getfield 83, 3) := by decide +kernel
theorem dX11_count_68 : decode cX11_count 68 = .ok (.getfield 228, 3) := by decide +kernel
theorem dX11_count_71 : decode cX11_count 71 = .ok (.ireturn, 1) := by decide +kernel
theorem dX11_count_72 : decode cX11_count 72 = .ok (.aload_n 0, 1) := by decide +kernel
theorem dX11_count_73 : decode cX11_count 73 = .ok (.getfield 67, 3) := by decide +kernel
theorem dX11_count_76 : decode cX11_count 76 = .ok (.getfield 219, 3) := by decide +kernel
theorem dX11_count_79 : decode cX11_count 79 = .ok (.ireturn, 1) := by decide +kernel
theorem dX11_count_80 : decode cX11_count 80 = .ok (.aload_n 0, 1) := by decide +kernel
theorem dX11_count_81 : decode cX11_count 81 = .ok (.getfield 60, 3) := by decide +kernel
theorem dX11_count_84 : decode cX11_count 84 = .ok (.invokevirtual 264, 3) := by decide +kernel
theorem dX11_count_87 : decode cX11_count 87 = .ok (.ireturn, 1) := by decide +kernel
theorem dX11_count_88 : decode cX11_count 88 = .ok (.iconst (-1), 1) := by decide +kernel
theorem dX11_count_89 : decode cX11_count 89 = .ok (.ireturn, 1) := by decide +kernel
theorem dX11_status_0 : decode cX11_status 0 = .ok (.aload_n 0, 1) := by decide +kernel
theorem dX11_status_1 : decode cX11_status 1 = .ok (.getfield 101, 3) := by decide +kernel
theorem dX11_status_4 : decode cX11_status 4 = .ok (.ireturn, 1) := by decide +kernel
theorem dX11_refused_0 : decode cX11_refused 0 = .ok (.aload_n 0, 1) := by decide +kernel
theorem dX11_refused_1 : decode cX11_refused 1 = .ok (.iload_n 1, 1) := by decide +kernel
theorem dX11_refused_2 : decode cX11_refused 2 = .ok (.putfield 101, 3) := by decide +kernel
theorem dX11_refused_5 : decode cX11_refused 5 = .ok (.iload_n 1, 1) := by decide +kernel
theorem dX11_refused_6 : decode cX11_refused 6 = .ok (.ireturn, 1) := by decide +kernel
theorem dX11_taken_0 : decode cX11_taken 0 = .ok (.aload_n 0, 1) := by decide +kernel
theorem dX11_taken_1 : decode cX11_taken 1 = .ok (.iconst 0, 1) := by decide +kernel
theorem dX11_taken_2 : decode cX11_taken 2 = .ok (.putfield 101, 3) := by decide +kernel
theorem dX11_taken_5 : decode cX11_taken 5 = .ok (.iload_n 1, 1) := by decide +kernel
theorem dX11_taken_6 : decode cX11_taken 6 = .ok (.ireturn, 1) := by decide +kernel
theorem dX11_isIn_0 : decode cX11_isIn 0 = .ok (.iload_n 0, 1) := by decide +kernel
theorem dX11_isIn_1 : decode cX11_isIn 1 = .ok (.iload_n 1, 1) := by decide +kernel
theorem dX11_isIn_2 : decode cX11_isIn 2 = .ok (.if_icmp .lt 12, 3) := by decide +kernel
theorem dX11_isIn_5 : decode cX11_isIn 5 = .ok (.iload_n 0, 1) := by decide +kernel
theorem dX11_isIn_6 : decode cX11_isIn 6 = .ok (.iload_n 2, 1) := by decide +kernel
theorem dX11_isIn_7 : decode cX11_isIn 7 = .ok (.if_icmp .gt 7, 3) := by decide +kernel
theorem dX11_isIn_10 : decode cX11_isIn 10 = .ok (.iconst 1, 1) := by decide +kernel
theorem dX11_isIn_11 : decode cX11_isIn 11 = .ok (.goto 4, 3) := by decide +kernel
theorem dX11_isIn_14 : decode cX11_isIn 14 = .ok (.iconst 0, 1) := by decide +kernel
theorem dX11_isIn_15 : decode cX11_isIn 15 = .ok (.ireturn, 1) := by decide +kernel
theorem dX11_isPlace_0 : decode cX11_isPlace 0 = .ok (.iload_n 0, 1) := by decide +kernel
theorem dX11_isPlace_1 : decode cX11_isPlace 1 = .ok (.iconst 0, 1) := by decide +kernel
theorem dX11_isPlace_2 : decode cX11_isPlace 2 = .ok (.bipush 63, 2) := by decide +kernel
theorem dX11_isPlace_4 : decode cX11_isPlace 4 = .ok (.invokestatic 122, 3) := by decide +kernel
theorem dX11_isPlace_7 : decode cX11_isPlace 7 = .ok (.ifCond .eq 17, 3) := by decide +kernel
theorem dX11_isPlace_10 : decode cX11_isPlace 10 = .ok (.iload_n 1, 1) := by decide +kernel
theorem dX11_isPlace_11 : decode cX11_isPlace 11 = .ok (.iconst 0, 1) := by decide +kernel
theorem dX11_isPlace_12 : decode cX11_isPlace 12 = .ok (.bipush 63, 2) := by decide +kernel
theorem dX11_isPlace_14 : decode cX11_isPlace 14 = .ok (.invokestatic 122, 3) := by decide +kernel
theorem dX11_isPlace_17 : decode cX11_isPlace 17 = .ok (.ifCond .eq 7, 3) := by decide +kernel
theorem dX11_isPlace_20 : decode cX11_isPlace 20 = .ok (.iconst 1, 1) := by decide +kernel
theorem dX11_isPlace_21 : decode cX11_isPlace 21 = .ok (.goto 4, 3) := by decide +kernel
theorem dX11_isPlace_24 : decode cX11_isPlace 24 = .ok (.iconst 0, 1) := by decide +kernel
theorem dX11_isPlace_25 : decode cX11_isPlace 25 = .ok (.ireturn, 1) := by decide +kernel
theorem dX11_isHour_0 : decode cX11_isHour 0 = .ok (.iload_n 0, 1) := by decide +kernel
theorem dX11_isHour_1 : decode cX11_isHour 1 = .ok (.iconst 0, 1) := by decide +kernel
theorem dX11_isHour_2 : decode cX11_isHour 2 = .ok (.sipush 1000, 3) := by decide +kernel
theorem dX11_isHour_5 : decode cX11_isHour 5 = .ok (.invokestatic 122, 3) := by decide +kernel
theorem dX11_isHour_8 : decode cX11_isHour 8 = .ok (.ireturn, 1) := by decide +kernel
theorem dX11_isSize_0 : decode cX11_isSize 0 = .ok (.iload_n 0, 1) := by decide +kernel
theorem dX11_isSize_1 : decode cX11_isSize 1 = .ok (.iconst 0, 1) := by decide +kernel
theorem dX11_isSize_2 : decode cX11_isSize 2 = .ok (.bipush 100, 2) := by decide +kernel
theorem dX11_isSize_4 : decode cX11_isSize 4 = .ok (.invokestatic 122, 3) := by decide +kernel
theorem dX11_isSize_7 : decode cX11_isSize 7 = .ok (.ireturn, 1) := by decide +kernel
theorem dX12_init_0 : decode cX12_init 0 = .ok (.aload_n 0, 1) := by decide +kernel
theorem dX12_init_1 : decode cX12_init 1 = .ok (.invokespecial 1, 3) := by decide +kernel
theorem dX12_init_4 : decode cX12_init 4 = .ok (.aload_n 0, 1) := by decide +kernel
theorem dX12_init_5 : decode cX12_init 5 = .ok (.bipush 30, 2) := by decide +kernel
theorem dX12_init_7 : decode cX12_init 7 = .ok (.newarray .int, 2) := by decide +kernel
theorem dX12_init_9 : decode cX12_init 9 = .ok (.putfield 7, 3) := by decide +kernel
theorem dX12_init_12 : decode cX12_init 12 = .ok (.aload_n 0, 1) := by decide +kernel
theorem dX12_init_13 : decode cX12_init 13 = .ok (.bipush 30, 2) := by decide +kernel
theorem dX12_init_15 : decode cX12_init 15 = .ok (.newarray .int, 2) := by decide +kernel
theorem dX12_init_17 : decode cX12_init 17 = .ok (.putfield 13, 3) := by decide +kernel
theorem dX12_init_20 : decode cX12_init 20 = .ok (.aload_n 0, 1) := by decide +kernel
theorem dX12_init_21 : decode cX12_init 21 = .ok (.bipush 30, 2) := by decide +kernel
theorem dX12_init_23 : decode cX12_init 23 = .ok (.newarray .int, 2) := by decide +kernel
theorem dX12_init_25 : decode cX12_init 25 = .ok (.putfield 16, 3) := by decide +kernel
theorem dX12_init_28 : decode cX12_init 28 = .ok (.aload_n 0, 1) := by decide +kernel
theorem dX12_init_29 : decode cX12_init 29 = .ok (.sipush 300, 3) := by decide +kernel
theorem dX12_init_32 : decode cX12_init 32 = .ok (.newarray .int, 2) := by decide +kernel
theorem dX12_init_34 : decode cX12_init 34 = .ok (.putfield 19, 3) := by decide +kernel
theorem dX12_init_37 : decode cX12_init 37 = .ok (.aload_n 0, 1) := by decide +kernel
theorem dX12_init_38 : decode cX12_init 38 = .ok (.sipush 300, 3) := by decide +kernel
theorem dX12_init_41 : decode cX12_init 41 = .ok (.newarray .int, 2) := by decide +kernel
theorem dX12_init_43 : decode cX12_init 43 = .ok (.putfield 22, 3) := by decide +kernel
theorem dX12_init_46 : decode cX12_init 46 = .ok (.aload_n 0, 1) := by decide +kernel
theorem dX12_init_47 : decode cX12_init 47 = .ok (.sipush 300, 3) := by decide +kernel
theorem dX12_init_50 : decode cX12_init 50 = .ok (.newarray .int, 2) := by decide +kernel
theorem dX12_init_52 : decode cX12_init 52 = .ok (.putfield 25, 3) := by decide +kernel
theorem dX12_init_55 : decode cX12_init 55 = .ok (.aload_n 0, 1) := by decide +kernel
theorem dX12_init_56 : decode cX12_init 56 = .ok (.bipush 8, 2) := by decide +kernel
theorem dX12_init_58 : decode cX12_init 58 = .ok (.newarray .int, 2) := by decide +kernel
theorem dX12_init_60 : decode cX12_init 60 = .ok (.putfield 28, 3) := by decide +kernel
theorem dX12_init_63 : decode cX12_init 63 = .ok (.aload_n 0, 1) := by decide +kernel
theorem dX12_init_64 : decode cX12_init 64 = .ok (.bipush 8, 2) := by decide +kernel
theorem dX12_init_66 : decode cX12_init 66 = .ok (.newarray .int, 2) := by decide +kernel
theorem dX12_init_68 : decode cX12_init 68 = .ok (.putfield 31, 3) := by decide +kernel
theorem dX12_init_71 : decode cX12_init 71 = .ok (.aload_n 0, 1) := by decide +kernel
theorem dX12_init_72 : decode cX12_init 72 = .ok (.sipush 2400, 3) := by decide +kernel
theorem dX12_init_75 : decode cX12_init 75 = .ok (.newarray .int, 2) := by decide +kernel
theorem dX12_init_77 : decode cX12_init 77 = .ok (.putfield 34, 3) := by decide +kernel
theorem dX12_init_80 : decode cX12_init 80 = .ok (.aload_n 0, 1) := by decide +kernel
theorem dX12_init_81 : decode cX12_init 81 = .ok (.sipush 300, 3) := by decide +kernel
theorem dX12_init_84 : decode cX12_init 84 = .ok (.newarray .int, 2) := by decide +kernel
theorem dX12_init_86 : decode cX12_init 86 = .ok (.putfield 37, 3) := by decide +kernel
theorem dX12_init_89 : decode cX12_init 89 = .ok (.aload_n 0, 1) := by decide +kernel
theorem dX12_init_90 : decode cX12_init 90 = .ok (.sipush 300, 3) := by decide +kernel
theorem dX12_init_93 : decode cX12_init 93 = .ok (.newarray .int, 2) := by decide +kernel
theorem dX12_init_95 : decode cX12_init 95 = .ok (.putfield 40, 3) := by decide +kernel
theorem dX12_init_98 : decode cX12_init 98 = .ok (.aload_n 0, 1) := by decide +kernel
theorem dX12_init_99 : decode cX12_init 99 = .ok (.sipush 300, 3) := by decide +kernel
theorem dX12_init_102 : decode cX12_init 102 = .ok (.newarray .int, 2) := by decide +kernel
theorem dX12_init_104 : decode cX12_init 104 = .ok (.putfield 43, 3) := by decide +kernel
theorem dX12_init_107 : decode cX12_init 107 = .ok (.aload_n 0, 1) := by decide +kernel
theorem dX12_init_108 : decode cX12_init 108 = .ok (.bipush 8, 2) := by decide +kernel
theorem dX12_init_110 : decode cX12_init 110 = .ok (.newarray .int, 2) := by decide +kernel
theorem dX12_init_112 : decode cX12_init 112 = .ok (.putfield 46, 3) := by decide +kernel
theorem dX12_init_115 : decode cX12_init 115 = .ok (.aload_n 0, 1) := by decide +kernel
theorem dX12_init_116 : decode cX12_init 116 = .ok (.sipush 300, 3) := by decide +kernel
theorem dX12_init_119 : decode cX12_init 119 = .ok (.newarray .int, 2) := by decide +kernel
theorem dX12_init_121 : decode cX12_init 121 = .ok (.putfield 49, 3) := by decide +kernel
theorem dX12_init_124 : decode cX12_init 124 = .ok (.aload_n 0, 1) := by decide +kernel
theorem dX12_init_125 : decode cX12_init 125 = .ok (.bipush 30, 2) := by decide +kernel
theorem dX12_init_127 : decode cX12_init 127 = .ok (.newarray .int, 2) := by decide +kernel
theorem dX12_init_129 : decode cX12_init 129 = .ok (.putfield 52, 3) := by decide +kernel
theorem dX12_init_132 : decode cX12_init 132 = .ok (.aload_n 0, 1) := by decide +kernel
theorem dX12_init_133 : decode cX12_init 133 = .ok (.bipush 30, 2) := by decide +kernel
theorem dX12_init_135 : decode cX12_init 135 = .ok (.newarray .int, 2) := by decide +kernel
theorem dX12_init_137 : decode cX12_init 137 = .ok (.putfield 55, 3) := by decide +kernel
theorem dX12_init_140 : decode cX12_init 140 = .ok (.aload_n 0, 1) := by decide +kernel
theorem dX12_init_141 : decode cX12_init 141 = .ok (.bipush 30, 2) := by decide +kernel
theorem dX12_init_143 : decode cX12_init 143 = .ok (.newarray .boolean, 2) := by decide +kernel
theorem dX12_init_145 : decode cX12_init 145 = .ok (.putfield 58, 3) := by decide +kernel
theorem dX12_init_148 : decode cX12_init 148 = .ok (.aload_n 0, 1) := by decide +kernel
theorem dX12_init_149 : decode cX12_init 149 = .ok (.iconst (-1), 1) := by decide +kernel
theorem dX12_init_150 : decode cX12_init 150 = .ok (.putfield 62, 3) := by decide +kernel
theorem dX12_init_153 : decode cX12_init 153 = .ok (.aload_n 0, 1) := by decide +kernel
theorem dX12_init_154 : decode cX12_init 154 = .ok (.iconst (-1), 1) := by decide +kernel
theorem dX12_init_155 : decode cX12_init 155 = .ok (.putfield 66, 3) := by decide +kernel
theorem dX12_init_158 : decode cX12_init 158 = .ok (.aload_n 0, 1) := by decide +kernel
theorem dX12_init_159 : decode cX12_init 159 = .ok (.bipush 30, 2) := by decide +kernel
theorem dX12_init_161 : decode cX12_init 161 = .ok (.newarray .boolean, 2) := by decide +kernel
theorem dX12_init_163 : decode cX12_init 163 = .ok (.putfield 69, 3) := by decide +kernel
theorem dX12_init_166 : decode cX12_init 166 = .ok (.aload_n 0, 1) := by decide +kernel
theorem dX12_init_167 : decode cX12_init 167 = .ok (.bipush 64, 2) := by decide +kernel
theorem dX12_init_169 : decode cX12_init 169 = .ok (.newarray .int, 2) := by decide +kernel
theorem dX12_init_171 : decode cX12_init 171 = .ok (.dup, 1) := by decide +kernel
theorem dX12_init_172 : decode cX12_init 172 = .ok (.iconst 0, 1) := by decide +kernel
theorem dX12_init_173 : decode cX12_init 173 = .ok (.iconst (-1), 1) := by decide +kernel
theorem dX12_init_174 : decode cX12_init 174 = .ok (.iastore, 1) := by decide +kernel
theorem dX12_init_175 : decode cX12_init 175 = .ok (.dup, 1) := by decide +kernel
theorem dX12_init_176 : decode cX12_init 176 = .ok (.iconst 1, 1) := by decide +kernel
theorem dX12_init_177 : decode cX12_init 177 = .ok (.iconst (-1), 1) := by decide +kernel
theorem dX12_init_178 : decode cX12_init 178 = .ok (.iastore, 1) := by decide +kernel
theorem dX12_init_179 : decode cX12_init 179 = .ok (.dup, 1) := by decide +kernel
theorem dX12_init_180 : decode cX12_init 180 = .ok (.iconst 2, 1) := by decide +kernel
theorem dX12_init_181 : decode cX12_init 181 = .ok (.iconst (-1), 1) := by decide +kernel
theorem dX12_init_182 : decode cX12_init 182 = .ok (.iastore, 1) := by decide +kernel
theorem dX12_init_183 : decode cX12_init 183 = .ok (.dup, 1) := by decide +kernel
theorem dX12_init_184 : decode cX12_init 184 = .ok (.iconst 3, 1) := by decide +kernel
theorem dX12_init_185 : decode cX12_init 185 = .ok (.iconst (-1), 1) := by decide +kernel
theorem dX12_init_186 : decode cX12_init 186 = .ok (.iastore, 1) := by decide +kernel
theorem dX12_init_187 : decode cX12_init 187 = .ok (.dup, 1) := by decide +kernel
theorem dX12_init_188 : decode cX12_init 188 = .ok (.iconst 4, 1) := by decide +kernel
theorem dX12_init_189 : decode cX12_init 189 = .ok (.iconst (-1), 1) := by decide +kernel
theorem dX12_init_190 : decode cX12_init 190 = .ok (.iastore, 1) := by decide +kernel
theorem dX12_init_191 : decode cX12_init 191 = .ok (.dup, 1) := by decide +kernel
theorem dX12_init_192 : decode cX12_init 192 = .ok (.iconst 5, 1) := by decide +kernel
theorem dX12_init_193 : decode cX12_init 193 = .ok (.iconst (-1), 1) := by decide +kernel
theorem dX12_init_194 : decode cX12_init 194 = .ok (.iastore, 1) := by decide +kernel
theorem dX12_init_195 : decode cX12_init 195 = .ok (.dup, 1) := by decide +kernel
theorem dX12_init_196 : decode cX12_init 196 = .ok (.bipush 6, 2) := by decide +kernel
theorem dX12_init_198 : decode cX12_init 198 = .ok (.iconst (-1), 1) := by decide +kernel
theorem dX12_init_199 : decode cX12_init 199 = .ok (.iastore, 1) := by decide +kernel
theorem dX12_init_200 : decode cX12_init 200 = .ok (.dup, 1) := by decide +kernel
theorem dX12_init_201 : decode cX12_init 201 = .ok (.bipush 7, 2) := by decide +kernel
theorem dX12_init_203 : decode cX12_init 203 = .ok (.iconst (-1), 1) := by decide +kernel
theorem dX12_init_204 : decode cX12_init 204 = .ok (.iastore, 1) := by decide +kernel
theorem dX12_init_205 : decode cX12_init 205 = .ok (.dup, 1) := by decide +kernel
theorem dX12_init_206 : decode cX12_init 206 = .ok (.bipush 8, 2) := by decide +kernel
theorem dX12_init_208 : decode cX12_init 208 = .ok (.iconst (-1), 1) := by decide +kernel
theorem dX12_init_209 : decode cX12_init 209 = .ok (.iastore, 1) := by decide +kernel
theorem dX12_init_210 : decode cX12_init 210 = .ok (.dup, 1) := by decide +kernel
theorem dX12_init_211 : decode cX12_init 211 = .ok (.bipush 9, 2) := by decide +kernel
theorem dX12_init_213 : decode cX12_init 213 = .ok (.iconst (-1), 1) := by decide +kernel
theorem dX12_init_214 : decode cX12_init 214 = .ok (.iastore, 1) := by decide +kernel
theorem dX12_init_215 : decode cX12_init 215 = .ok (.dup, 1) := by decide +kernel
theorem dX12_init_216 : decode cX12_init 216 = .ok (.bipush 10, 2) := by decide +kernel
theorem dX12_init_218 : decode cX12_init 218 = .ok (.iconst (-1), 1) := by decide +kernel
theorem dX12_init_219 : decode cX12_init 219 = .ok (.iastore, 1) := by decide +kernel
theorem dX12_init_220 : decode cX12_init 220 = .ok (.dup, 1) := by decide +kernel
theorem dX12_init_221 : decode cX12_init 221 = .ok (.bipush 11, 2) := by decide +kernel
theorem dX12_init_223 : decode cX12_init 223 = .ok (.iconst (-1), 1) := by decide +kernel
theorem dX12_init_224 : decode cX12_init 224 = .ok (.iastore, 1) := by decide +kernel
theorem dX12_init_225 : decode cX12_init 225 = .ok (.dup, 1) := by decide +kernel
theorem dX12_init_226 : decode cX12_init 226 = .ok (.bipush 12, 2) := by decide +kernel
theorem dX12_init_228 : decode cX12_init 228 = .ok (.iconst (-1), 1) := by decide +kernel
theorem dX12_init_229 : decode cX12_init 229 = .ok (.iastore, 1) := by decide +kernel
theorem dX12_init_230 : decode cX12_init 230 = .ok (.dup, 1) := by decide +kernel
theorem dX12_init_231 : decode cX12_init 231 = .ok (.bipush 13, 2) := by decide +kernel
theorem dX12_init_233 : decode cX12_init 233 = .ok (.iconst (-1), 1) := by decide +kernel
theorem dX12_init_234 : decode cX12_init 234 = .ok (.iastore, 1) := by decide +kernel
theorem dX12_init_235 : decode cX12_init 235 = .ok (.dup, 1) := by decide +kernel
theorem dX12_init_236 : decode cX12_init 236 = .ok (.bipush 14, 2) := by decide +kernel
theorem dX12_init_238 : decode cX12_init 238 = .ok (.iconst (-1), 1) := by decide +kernel
theorem dX12_init_239 : decode cX12_init 239 = .ok (.iastore, 1) := by decide +kernel
theorem dX12_init_240 : decode cX12_init 240 = .ok (.dup, 1) := by decide +kernel
theorem dX12_init_241 : decode cX12_init 241 = .ok (.bipush 15, 2) := by decide +kernel
theorem dX12_init_243 : decode cX12_init 243 = .ok (.iconst (-1), 1) := by decide +kernel
theorem dX12_init_244 : decode cX12_init 244 = .ok (.iastore, 1) := by decide +kernel
theorem dX12_init_245 : decode cX12_init 245 = .ok (.dup, 1) := by decide +kernel
theorem dX12_init_246 : decode cX12_init 246 = .ok (.bipush 16, 2) := by decide +kernel
theorem dX12_init_248 : decode cX12_init 248 = .ok (.iconst (-1), 1) := by decide +kernel
theorem dX12_init_249 : decode cX12_init 249 = .ok (.iastore, 1) := by decide +kernel
theorem dX12_init_250 : decode cX12_init 250 = .ok (.dup, 1) := by decide +kernel
theorem dX12_init_251 : decode cX12_init 251 = .ok (.bipush 17, 2) := by decide +kernel
theorem dX12_init_253 : decode cX12_init 253 = .ok (.iconst (-1), 1) := by decide +kernel
theorem dX12_init_254 : decode cX12_init 254 = .ok (.iastore, 1) := by decide +kernel
theorem dX12_init_255 : decode cX12_init 255 = .ok (.dup, 1) := by decide +kernel
theorem dX12_init_256 : decode cX12_init 256 = .ok (.bipush 18, 2) := by decide +kernel
theorem dX12_init_258 : decode cX12_init 258 = .ok (.iconst (-1), 1) := by decide +kernel
theorem dX12_init_259 : decode cX12_init 259 = .ok (.iastore, 1) := by decide +kernel
theorem dX12_init_260 : decode cX12_init 260 = .ok (.dup, 1) := by decide +kernel
theorem dX12_init_261 : decode cX12_init 261 = .ok (.bipush 19, 2) := by decide +kernel
theorem dX12_init_263 : decode cX12_init 263 = .ok (.iconst (-1), 1) := by decide +kernel
theorem dX12_init_264 : decode cX12_init 264 = .ok (.iastore, 1) := by decide +kernel
theorem dX12_init_265 : decode cX12_init 265 = .ok (.dup, 1) := by decide +kernel
theorem dX12_init_266 : decode cX12_init 266 = .ok (.bipush 20, 2) := by decide +kernel
theorem dX12_init_268 : decode cX12_init 268 = .ok (.iconst (-1), 1) := by decide +kernel
theorem dX12_init_269 : decode cX12_init 269 = .ok (.iastore, 1) := by decide +kernel
theorem dX12_init_270 : decode cX12_init 270 = .ok (.dup, 1) := by decide +kernel
theorem dX12_init_271 : decode cX12_init 271 = .ok (.bipush 21, 2) := by decide +kernel
theorem dX12_init_273 : decode cX12_init 273 = .ok (.iconst (-1), 1) := by decide +kernel
theorem dX12_init_274 : decode cX12_init 274 = .ok (.iastore, 1) := by decide +kernel
theorem dX12_init_275 : decode cX12_init 275 = .ok (.dup, 1) := by decide +kernel
theorem dX12_init_276 : decode cX12_init 276 = .ok (.bipush 22, 2) := by decide +kernel
theorem dX12_init_278 : decode cX12_init 278 = .ok (.iconst (-1), 1) := by decide +kernel
theorem dX12_init_279 : decode cX12_init 279 = .ok (.iastore, 1) := by decide +kernel
theorem dX12_init_280 : decode cX12_init 280 = .ok (.dup, 1) := by decide +kernel
theorem dX12_init_281 : decode cX12_init 281 = .ok (.bipush 23, 2) := by decide +kernel
theorem dX12_init_283 : decode cX12_init 283 = .ok (.iconst (-1), 1) := by decide +kernel
theorem dX12_init_284 : decode cX12_init 284 = .ok (.iastore, 1) := by decide +kernel
theorem dX12_init_285 : decode cX12_init 285 = .ok (.dup, 1) := by decide +kernel
theorem dX12_init_286 : decode cX12_init 286 = .ok (.bipush 24, 2) := by decide +kernel
theorem dX12_init_288 : decode cX12_init 288 = .ok (.iconst (-1), 1) := by decide +kernel
theorem dX12_init_289 : decode cX12_init 289 = .ok (.iastore, 1) := by decide +kernel
theorem dX12_init_290 : decode cX12_init 290 = .ok (.dup, 1) := by decide +kernel
theorem dX12_init_291 : decode cX12_init 291 = .ok (.bipush 25, 2) := by decide +kernel
theorem dX12_init_293 : decode cX12_init 293 = .ok (.iconst (-1), 1) := by decide +kernel
theorem dX12_init_294 : decode cX12_init 294 = .ok (.iastore, 1) := by decide +kernel
theorem dX12_init_295 : decode cX12_init 295 = .ok (.dup, 1) := by decide +kernel
theorem dX12_init_296 : decode cX12_init 296 = .ok (.bipush 26, 2) := by decide +kernel
theorem dX12_init_298 : decode cX12_init 298 = .ok (.iconst (-1), 1) := by decide +kernel
theorem dX12_init_299 : decode cX12_init 299 = .ok (.iastore, 1) := by decide +kernel
theorem dX12_init_300 : decode cX12_init 300 = .ok (.dup, 1) := by decide +kernel
theorem dX12_init_301 : decode cX12_init 301 = .ok (.bipush 27, 2) := by decide +kernel
theorem dX12_init_303 : decode cX12_init 303 = .ok (.iconst (-1), 1) := by decide +kernel
theorem dX12_init_304 : decode cX12_init 304 = .ok (.iastore, 1) := by decide +kernel
theorem dX12_init_305 : decode cX12_init 305 = .ok (.dup, 1) := by decide +kernel
theorem dX12_init_306 : decode cX12_init 306 = .ok (.bipush 28, 2) := by decide +kernel
theorem dX12_init_308 : decode cX12_init 308 = .ok (.iconst (-1), 1) := by decide +kernel
theorem dX12_init_309 : decode cX12_init 309 = .ok (.iastore, 1) := by decide +kernel
theorem dX12_init_310 : decode cX12_init 310 = .ok (.dup, 1) := by decide +kernel
theorem dX12_init_311 : decode cX12_init 311 = .ok (.bipush 29, 2) := by decide +kernel
theorem dX12_init_313 : decode cX12_init 313 = .ok (.iconst (-1), 1) := by decide +kernel
theorem dX12_init_314 : decode cX12_init 314 = .ok (.iastore, 1) := by decide +kernel
theorem dX12_init_315 : decode cX12_init 315 = .ok (.dup, 1) := by decide +kernel
theorem dX12_init_316 : decode cX12_init 316 = .ok (.bipush 30, 2) := by decide +kernel
theorem dX12_init_318 : decode cX12_init 318 = .ok (.iconst (-1), 1) := by decide +kernel
theorem dX12_init_319 : decode cX12_init 319 = .ok (.iastore, 1) := by decide +kernel
theorem dX12_init_320 : decode cX12_init 320 = .ok (.dup, 1) := by decide +kernel
theorem dX12_init_321 : decode cX12_init 321 = .ok (.bipush 31, 2) := by decide +kernel
theorem dX12_init_323 : decode cX12_init 323 = .ok (.iconst (-1), 1) := by decide +kernel
theorem dX12_init_324 : decode cX12_init 324 = .ok (.iastore, 1) := by decide +kernel
theorem dX12_init_325 : decode cX12_init 325 = .ok (.dup, 1) := by decide +kernel
theorem dX12_init_326 : decode cX12_init 326 = .ok (.bipush 32, 2) := by decide +kernel
theorem dX12_init_328 : decode cX12_init 328 = .ok (.iconst (-1), 1) := by decide +kernel
theorem dX12_init_329 : decode cX12_init 329 = .ok (.iastore, 1) := by decide +kernel
theorem dX12_init_330 : decode cX12_init 330 = .ok (.dup, 1) := by decide +kernel
theorem dX12_init_331 : decode cX12_init 331 = .ok (.bipush 33, 2) := by decide +kernel
theorem dX12_init_333 : decode cX12_init 333 = .ok (.iconst (-1), 1) := by decide +kernel
theorem dX12_init_334 : decode cX12_init 334 = .ok (.iastore, 1) := by decide +kernel
theorem dX12_init_335 : decode cX12_init 335 = .ok (.dup, 1) := by decide +kernel
theorem dX12_init_336 : decode cX12_init 336 = .ok (.bipush 34, 2) := by decide +kernel
theorem dX12_init_338 : decode cX12_init 338 = .ok (.iconst (-1), 1) := by decide +kernel
theorem dX12_init_339 : decode cX12_init 339 = .ok (.iastore, 1) := by decide +kernel
theorem dX12_init_340 : decode cX12_init 340 = .ok (.dup, 1) := by decide +kernel
theorem dX12_init_341 : decode cX12_init 341 = .ok (.bipush 35, 2) := by decide +kernel
theorem dX12_init_343 : decode cX12_init 343 = .ok (.iconst (-1), 1) := by decide +kernel
theorem dX12_init_344 : decode cX12_init 344 = .ok (.iastore, 1) := by decide +kernel
theorem dX12_init_345 : decode cX12_init 345 = .ok (.dup, 1) := by decide +kernel
theorem dX12_init_346 : decode cX12_init 346 = .ok (.bipush 36, 2) := by decide +kernel
theorem dX12_init_348 : decode cX12_init 348 = .ok (.iconst (-1), 1) := by decide +kernel
theorem dX12_init_349 : decode cX12_init 349 = .ok (.iastore, 1) := by decide +kernel
theorem dX12_init_350 : decode cX12_init 350 = .ok (.dup, 1) := by decide +kernel
theorem dX12_init_351 : decode cX12_init 351 = .ok (.bipush 37, 2) := by decide +kernel
theorem dX12_init_353 : decode cX12_init 353 = .ok (.iconst (-1), 1) := by decide +kernel
theorem dX12_init_354 : decode cX12_init 354 = .ok (.iastore, 1) := by decide +kernel
theorem dX12_init_355 : decode cX12_init 355 = .ok (.dup, 1) := by decide +kernel
theorem dX12_init_356 : decode cX12_init 356 = .ok (.bipush 38, 2) := by decide +kernel
theorem dX12_init_358 : decode cX12_init 358 = .ok (.iconst (-1), 1) := by decide +kernel
theorem dX12_init_359 : decode cX12_init 359 = .ok (.iastore, 1) := by decide +kernel
theorem dX12_init_360 : decode cX12_init 360 = .ok (.dup, 1) := by decide +kernel
theorem dX12_init_361 : decode cX12_init 361 = .ok (.bipush 39, 2) := by decide +kernel
theorem dX12_init_363 : decode cX12_init 363 = .ok (.iconst (-1), 1) := by decide +kernel
theorem dX12_init_364 : decode cX12_init 364 = .ok (.iastore, 1) := by decide +kernel
theorem dX12_init_365 : decode cX12_init 365 = .ok (.dup, 1) := by decide +kernel
theorem dX12_init_366 : decode cX12_init 366 = .ok (.bipush 40, 2) := by decide +kernel
theorem dX12_init_368 : decode cX12_init 368 = .ok (.iconst (-1), 1) := by decide +kernel
theorem dX12_init_369 : decode cX12_init 369 = .ok (.iastore, 1) := by decide +kernel
theorem dX12_init_370 : decode cX12_init 370 = .ok (.dup, 1) := by decide +kernel
theorem dX12_init_371 : decode cX12_init 371 = .ok (.bipush 41, 2) := by decide +kernel
theorem dX12_init_373 : decode cX12_init 373 = .ok (.iconst (-1), 1) := by decide +kernel
theorem dX12_init_374 : decode cX12_init 374 = .ok (.iastore, 1) := by decide +kernel
theorem dX12_init_375 : decode cX12_init 375 = .ok (.dup, 1) := by decide +kernel
theorem dX12_init_376 : decode cX12_init 376 = .ok (.bipush 42, 2) := by decide +kernel
theorem dX12_init_378 : decode cX12_init 378 = .ok (.iconst (-1), 1) := by decide +kernel
theorem dX12_init_379 : decode cX12_init 379 = .ok (.iastore, 1) := by decide +kernel
theorem dX12_init_380 : decode cX12_init 380 = .ok (.dup, 1) := by decide +kernel
theorem dX12_init_381 : decode cX12_init 381 = .ok (.bipush 43, 2) := by decide +kernel
theorem dX12_init_383 : decode cX12_init 383 = .ok (.iconst (-1), 1) := by decide +kernel
theorem dX12_init_384 : decode cX12_init 384 = .ok (.iastore, 1) := by decide +kernel
theorem dX12_init_385 : decode cX12_init 385 = .ok (.dup, 1) := by decide +kernel
theorem dX12_init_386 : decode cX12_init 386 = .ok (.bipush 44, 2) := by decide +kernel
theorem dX12_init_388 : decode cX12_init 388 = .ok (.iconst (-1), 1) := by decide +kernel
theorem dX12_init_389 : decode cX12_init 389 = .ok (.iastore, 1) := by decide +kernel
theorem dX12_init_390 : decode cX12_init 390 = .ok (.dup, 1) := by decide +kernel
theorem dX12_init_391 : decode cX12_init 391 = .ok (.bipush 45, 2) := by decide +kernel
theorem dX12_init_393 : decode cX12_init 393 = .ok (.iconst (-1), 1) := by decide +kernel
theorem dX12_init_394 : decode cX12_init 394 = .ok (.iastore, 1) := by decide +kernel
theorem dX12_init_395 : decode cX12_init 395 = .ok (.dup, 1) := by decide +kernel
theorem dX12_init_396 : decode cX12_init 396 = .ok (.bipush 46, 2) := by decide +kernel
theorem dX12_init_398 : decode cX12_init 398 = .ok (.iconst (-1), 1) := by decide +kernel
theorem dX12_init_399 : decode cX12_init 399 = .ok (.iastore, 1) := by decide +kernel
theorem dX12_init_400 : decode cX12_init 400 = .ok (.dup, 1) := by decide +kernel
theorem dX12_init_401 : decode cX12_init 401 = .ok (.bipush 47, 2) := by decide +kernel
theorem dX12_init_403 : decode cX12_init 403 = .ok (.iconst (-1), 1) := by decide +kernel
theorem dX12_init_404 : decode cX12_init 404 = .ok (.iastore, 1) := by decide +kernel
theorem dX12_init_405 : decode cX12_init 405 = .ok (.dup, 1) := by decide +kernel
theorem dX12_init_406 : decode cX12_init 406 = .ok (.bipush 48, 2) := by decide +kernel
theorem dX12_init_408 : decode cX12_init 408 = .ok (.iconst (-1), 1) := by decide +kernel
theorem dX12_init_409 : decode cX12_init 409 = .ok (.iastore, 1) := by decide +kernel
theorem dX12_init_410 : decode cX12_init 410 = .ok (.dup, 1) := by decide +kernel
theorem dX12_init_411 : decode cX12_init 411 = .ok (.bipush 49, 2) := by decide +kernel
theorem dX12_init_413 : decode cX12_init 413 = .ok (.iconst (-1), 1) := by decide +kernel
theorem dX12_init_414 : decode cX12_init 414 = .ok (.iastore, 1) := by decide +kernel
theorem dX12_init_415 : decode cX12_init 415 = .ok (.dup, 1) := by decide +kernel
theorem dX12_init_416 : decode cX12_init 416 = .ok (.bipush 50, 2) := by decide +kernel
theorem dX12_init_418 : decode cX12_init 418 = .ok (.iconst (-1), 1) := by decide +kernel
theorem dX12_init_419 : decode cX12_init 419 = .ok (.iastore, 1) := by decide +kernel
theorem dX12_init_420 : decode cX12_init 420 = .ok (.dup, 1) := by decide +kernel
theorem dX12_init_421 : decode cX12_init 421 = .ok (.bipush 51, 2) := by decide +kernel
theorem dX12_init_423 : decode cX12_init 423 = .ok (.iconst (-1), 1) := by decide +kernel
theorem dX12_init_424 : decode cX12_init 424 = .ok (.iastore, 1) := by decide +kernel
theorem dX12_init_425 : decode cX12_init 425 = .ok (.dup, 1) := by decide +kernel
theorem dX12_init_426 : decode cX12_init 426 = .ok (.bipush 52, 2) := by decide +kernel
theorem dX12_init_428 : decode cX12_init 428 = .ok (.iconst (-1), 1) := by decide +kernel
theorem dX12_init_429 : decode cX12_init 429 = .ok (.iastore, 1) := by decide +kernel
theorem dX12_init_430 : decode cX12_init 430 = .ok (.dup, 1) := by decide +kernel
theorem dX12_init_431 : decode cX12_init 431 = .ok (.bipush 53, 2) := by decide +kernel
theorem dX12_init_433 : decode cX12_init 433 = .ok (.iconst (-1), 1) := by decide +kernel
theorem dX12_init_434 : decode cX12_init 434 = .ok (.iastore, 1) := by decide +kernel
theorem dX12_init_435 : decode cX12_init 435 = .ok (.dup, 1) := by decide +kernel
theorem dX12_init_436 : decode cX12_init 436 = .ok (.bipush 54, 2) := by decide +kernel
theorem dX12_init_438 : decode cX12_init 438 = .ok (.iconst (-1), 1) := by decide +kernel
theorem dX12_init_439 : decode cX12_init 439 = .ok (.iastore, 1) := by decide +kernel
theorem dX12_init_440 : decode cX12_init 440 = .ok (.dup, 1) := by decide +kernel
theorem dX12_init_441 : decode cX12_init 441 = .ok (.bipush 55, 2) := by decide +kernel
theorem dX12_init_443 : decode cX12_init 443 = .ok (.iconst (-1), 1) := by decide +kernel
theorem dX12_init_444 : decode cX12_init 444 = .ok (.iastore, 1) := by decide +kernel
theorem dX12_init_445 : decode cX12_init 445 = .ok (.dup, 1) := by decide +kernel
theorem dX12_init_446 : decode cX12_init 446 = .ok (.bipush 56, 2) := by decide +kernel
theorem dX12_init_448 : decode cX12_init 448 = .ok (.iconst (-1), 1) := by decide +kernel
theorem dX12_init_449 : decode cX12_init 449 = .ok (.iastore, 1) := by decide +kernel
theorem dX12_init_450 : decode cX12_init 450 = .ok (.dup, 1) := by decide +kernel
theorem dX12_init_451 : decode cX12_init 451 = .ok (.bipush 57, 2) := by decide +kernel
theorem dX12_init_453 : decode cX12_init 453 = .ok (.iconst (-1), 1) := by decide +kernel
theorem dX12_init_454 : decode cX12_init 454 = .ok (.iastore, 1) := by decide +kernel
theorem dX12_init_455 : decode cX12_init 455 = .ok (.dup, 1) := by decide +kernel
theorem dX12_init_456 : decode cX12_init 456 = .ok (.bipush 58, 2) := by decide +kernel
theorem dX12_init_458 : decode cX12_init 458 = .ok (.iconst (-1), 1) := by decide +kernel
theorem dX12_init_459 : decode cX12_init 459 = .ok (.iastore, 1) := by decide +kernel
theorem dX12_init_460 : decode cX12_init 460 = .ok (.dup, 1) := by decide +kernel
theorem dX12_init_461 : decode cX12_init 461 = .ok (.bipush 59, 2) := by decide +kernel
theorem dX12_init_463 : decode cX12_init 463 = .ok (.iconst (-1), 1) := by decide +kernel
theorem dX12_init_464 : decode cX12_init 464 = .ok (.iastore, 1) := by decide +kernel
theorem dX12_init_465 : decode cX12_init 465 = .ok (.dup, 1) := by decide +kernel
theorem dX12_init_466 : decode cX12_init 466 = .ok (.bipush 60, 2) := by decide +kernel
theorem dX12_init_468 : decode cX12_init 468 = .ok (.iconst (-1), 1) := by decide +kernel
theorem dX12_init_469 : decode cX12_init 469 = .ok (.iastore, 1) := by decide +kernel
theorem dX12_init_470 : decode cX12_init 470 = .ok (.dup, 1) := by decide +kernel
theorem dX12_init_471 : decode cX12_init 471 = .ok (.bipush 61, 2) := by decide +kernel
theorem dX12_init_473 : decode cX12_init 473 = .ok (.iconst (-1), 1) := by decide +kernel
theorem dX12_init_474 : decode cX12_init 474 = .ok (.iastore, 1) := by decide +kernel
theorem dX12_init_475 : decode cX12_init 475 = .ok (.dup, 1) := by decide +kernel
theorem dX12_init_476 : decode cX12_init 476 = .ok (.bipush 62, 2) := by decide +kernel
theorem dX12_init_478 : decode cX12_init 478 = .ok (.iconst (-1), 1) := by decide +kernel
theorem dX12_init_479 : decode cX12_init 479 = .ok (.iastore, 1) := by decide +kernel
theorem dX12_init_480 : decode cX12_init 480 = .ok (.dup, 1) := by decide +kernel
theorem dX12_init_481 : decode cX12_init 481 = .ok (.bipush 63, 2) := by decide +kernel
theorem dX12_init_483 : decode cX12_init 483 = .ok (.iconst (-1), 1) := by decide +kernel
theorem dX12_init_484 : decode cX12_init 484 = .ok (.iastore, 1) := by decide +kernel
theorem dX12_init_485 : decode cX12_init 485 = .ok (.putfield 72, 3) := by decide +kernel
theorem dX12_init_488 : decode cX12_init 488 = .ok (.aload_n 0, 1) := by decide +kernel
theorem dX12_init_489 : decode cX12_init 489 = .ok (.bipush 20, 2) := by decide +kernel
theorem dX12_init_491 : decode cX12_init 491 = .ok (.newarray .int, 2) := by decide +kernel
theorem dX12_init_493 : decode cX12_init 493 = .ok (.putfield 75, 3) := by decide +kernel
theorem dX12_init_496 : decode cX12_init 496 = .ok (.aload_n 0, 1) := by decide +kernel
theorem dX12_init_497 : decode cX12_init 497 = .ok (.bipush 20, 2) := by decide +kernel
theorem dX12_init_499 : decode cX12_init 499 = .ok (.newarray .int, 2) := by decide +kernel
theorem dX12_init_501 : decode cX12_init 501 = .ok (.putfield 78, 3) := by decide +kernel
theorem dX12_init_504 : decode cX12_init 504 = .ok (.aload_n 0, 1) := by decide +kernel
theorem dX12_init_505 : decode cX12_init 505 = .ok (.bipush 20, 2) := by decide +kernel
theorem dX12_init_507 : decode cX12_init 507 = .ok (.newarray .int, 2) := by decide +kernel
theorem dX12_init_509 : decode cX12_init 509 = .ok (.putfield 81, 3) := by decide +kernel
theorem dX12_init_512 : decode cX12_init 512 = .ok (.aload_n 0, 1) := by decide +kernel
theorem dX12_init_513 : decode cX12_init 513 = .ok (.bipush 20, 2) := by decide +kernel
theorem dX12_init_515 : decode cX12_init 515 = .ok (.newarray .int, 2) := by decide +kernel
theorem dX12_init_517 : decode cX12_init 517 = .ok (.putfield 84, 3) := by decide +kernel
theorem dX12_init_520 : decode cX12_init 520 = .ok (.aload_n 0, 1) := by decide +kernel
theorem dX12_init_521 : decode cX12_init 521 = .ok (.bipush 80, 2) := by decide +kernel
theorem dX12_init_523 : decode cX12_init 523 = .ok (.newarray .int, 2) := by decide +kernel
theorem dX12_init_525 : decode cX12_init 525 = .ok (.putfield 87, 3) := by decide +kernel
theorem dX12_init_528 : decode cX12_init 528 = .ok (.aload_n 0, 1) := by decide +kernel
theorem dX12_init_529 : decode cX12_init 529 = .ok (.sipush 200, 3) := by decide +kernel
theorem dX12_init_532 : decode cX12_init 532 = .ok (.newarray .int, 2) := by decide +kernel
theorem dX12_init_534 : decode cX12_init 534 = .ok (.putfield 90, 3) := by decide +kernel
theorem dX12_init_537 : decode cX12_init 537 = .ok (.aload_n 0, 1) := by decide +kernel
theorem dX12_init_538 : decode cX12_init 538 = .ok (.iconst (-1), 1) := by decide +kernel
theorem dX12_init_539 : decode cX12_init 539 = .ok (.putfield 93, 3) := by decide +kernel
theorem dX12_init_542 : decode cX12_init 542 = .ok (.aload_n 0, 1) := by decide +kernel
theorem dX12_init_543 : decode cX12_init 543 = .ok (.bipush 40, 2) := by decide +kernel
theorem dX12_init_545 : decode cX12_init 545 = .ok (.newarray .int, 2) := by decide +kernel
theorem dX12_init_547 : decode cX12_init 547 = .ok (.putfield 96, 3) := by decide +kernel
theorem dX12_init_550 : decode cX12_init 550 = .ok (.aload_n 0, 1) := by decide +kernel
theorem dX12_init_551 : decode cX12_init 551 = .ok (.bipush 40, 2) := by decide +kernel
theorem dX12_init_553 : decode cX12_init 553 = .ok (.newarray .int, 2) := by decide +kernel
theorem dX12_init_555 : decode cX12_init 555 = .ok (.putfield 99, 3) := by decide +kernel
theorem dX12_init_558 : decode cX12_init 558 = .ok (.aload_n 0, 1) := by decide +kernel
theorem dX12_init_559 : decode cX12_init 559 = .ok (.bipush 40, 2) := by decide +kernel
theorem dX12_init_561 : decode cX12_init 561 = .ok (.newarray .int, 2) := by decide +kernel
theorem dX12_init_563 : decode cX12_init 563 = .ok (.putfield 102, 3) := by decide +kernel
theorem dX12_init_566 : decode cX12_init 566 = .ok (.aload_n 0, 1) := by decide +kernel
theorem dX12_init_567 : decode cX12_init 567 = .ok (.bipush 40, 2) := by decide +kernel
theorem dX12_init_569 : decode cX12_init 569 = .ok (.newarray .int, 2) := by decide +kernel
theorem dX12_init_571 : decode cX12_init 571 = .ok (.putfield 105, 3) := by decide +kernel
theorem dX12_init_574 : decode cX12_init 574 = .ok (.return_, 1) := by decide +kernel
theorem dX12_in_0 : decode cX12_in 0 = .ok (.lload_n 0, 1) := by decide +kernel
theorem dX12_in_1 : decode cX12_in 1 = .ok (.lload_n 2, 1) := by decide +kernel
theorem dX12_in_2 : decode cX12_in 2 = .ok (.lcmp, 1) := by decide +kernel
theorem dX12_in_3 : decode cX12_in 3 = .ok (.ifCond .lt 14, 3) := by decide +kernel
theorem dX12_in_6 : decode cX12_in 6 = .ok (.lload_n 0, 1) := by decide +kernel
theorem dX12_in_7 : decode cX12_in 7 = .ok (.lload 4, 2) := by decide +kernel
theorem dX12_in_9 : decode cX12_in 9 = .ok (.lcmp, 1) := by decide +kernel
theorem dX12_in_10 : decode cX12_in 10 = .ok (.ifCond .gt 7, 3) := by decide +kernel
theorem dX12_in_13 : decode cX12_in 13 = .ok (.iconst 1, 1) := by decide +kernel
theorem dX12_in_14 : decode cX12_in 14 = .ok (.goto 4, 3) := by decide +kernel
theorem dX12_in_17 : decode cX12_in 17 = .ok (.iconst 0, 1) := by decide +kernel
theorem dX12_in_18 : decode cX12_in 18 = .ok (.ireturn, 1) := by decide +kernel
theorem dX12_told_0 : decode cX12_told 0 = .ok (.aload_n 0, 1) := by decide +kernel
theorem dX12_told_1 : decode cX12_told 1 = .ok (.iload_n 1, 1) := by decide +kernel
theorem dX12_told_2 : decode cX12_told 2 = .ok (.ifCond .ge 7, 3) := by decide +kernel
theorem dX12_told_5 : decode cX12_told 5 = .ok (.iload_n 1, 1) := by decide +kernel
theorem dX12_told_6 : decode cX12_told 6 = .ok (.goto 4, 3) := by decide +kernel
theorem dX12_told_9 : decode cX12_told 9 = .ok (.iconst 0, 1) := by decide +kernel
theorem dX12_told_10 : decode cX12_told 10 = .ok (.putfield 111, 3) := by decide +kernel
theorem dX12_told_13 : decode cX12_told 13 = .ok (.iload_n 1, 1) := by decide +kernel
theorem dX12_told_14 : decode cX12_told 14 = .ok (.ireturn, 1) := by decide +kernel
theorem dX12_isKnown_0 : decode cX12_isKnown 0 = .ok (.iload_n 0, 1) := by decide +kernel
theorem dX12_isKnown_1 : decode cX12_isKnown 1 = .ok (.i2l, 1) := by decide +kernel
theorem dX12_isKnown_2 : decode cX12_isKnown 2 = .ok (.lconst 0, 1) := by decide +kernel
theorem dX12_isKnown_3 : decode cX12_isKnown 3 = .ok (.ldc2_w 114, 3) := by decide +kernel
theorem dX12_isKnown_6 : decode cX12_isKnown 6 = .ok (.invokestatic 116, 3) := by decide +kernel
theorem dX12_isKnown_9 : decode cX12_isKnown 9 = .ok (.ireturn, 1) := by decide +kernel
theorem dX12_isPlace_0 : decode cX12_isPlace 0 = .ok (.iload_n 0, 1) := by decide +kernel
theorem dX12_isPlace_1 : decode cX12_isPlace 1 = .ok (.i2l, 1) := by decide +kernel
theorem dX12_isPlace_2 : decode cX12_isPlace 2 = .ok (.lconst 0, 1) := by decide +kernel
theorem dX12_isPlace_3 : decode cX12_isPlace 3 = .ok (.ldc2_w 120, 3) := by decide +kernel
theorem dX12_isPlace_6 : decode cX12_isPlace 6 = .ok (.invokestatic 116, 3) := by decide +kernel
theorem dX12_isPlace_9 : decode cX12_isPlace 9 = .ok (.ireturn, 1) := by decide +kernel
theorem dX12_isBoard_0 : decode cX12_isBoard 0 = .ok (.iload_n 1, 1) := by decide +kernel
theorem dX12_isBoard_1 : decode cX12_isBoard 1 = .ok (.i2l, 1) := by decide +kernel
theorem dX12_isBoard_2 : decode cX12_isBoard 2 = .ok (.lconst 0, 1) := by decide +kernel
theorem dX12_isBoard_3 : decode cX12_isBoard 3 = .ok (.aload_n 0, 1) := by decide +kernel
theorem dX12_isBoard_4 : decode cX12_isBoard 4 = .ok (.getfield 122, 3) := by decide +kernel
theorem dX12_isBoard_7 : decode cX12_isBoard 7 = .ok (.i2l, 1) := by decide +kernel
theorem dX12_isBoard_8 : decode cX12_isBoard 8 = .ok (.lconst 1, 1) := by decide +kernel
theorem dX12_isBoard_9 : decode cX12_isBoard 9 = .ok (.lsub, 1) := by decide +kernel
theorem dX12_isBoard_10 : decode cX12_isBoard 10 = .ok (.invokestatic 116, 3) := by decide +kernel
theorem dX12_isBoard_13 : decode cX12_isBoard 13 = .ok (.ireturn, 1) := by decide +kernel
theorem dX12_board_0 : decode cX12_board 0 = .ok (.aload_n 0, 1) := by decide +kernel
theorem dX12_board_1 : decode cX12_board 1 = .ok (.iconst 0, 1) := by decide +kernel
theorem dX12_board_2 : decode cX12_board 2 = .ok (.putfield 108, 3) := by decide +kernel
theorem dX12_board_5 : decode cX12_board 5 = .ok (.iload_n 1, 1) := by decide +kernel
theorem dX12_board_6 : decode cX12_board 6 = .ok (.invokestatic 125, 3) := by decide +kernel
theorem dX12_board_9 : decode cX12_board 9 = .ok (.ifCond .eq 10, 3) := by decide +kernel
theorem dX12_board_12 : decode cX12_board 12 = .ok (.iload_n 2, 1) := by decide +kernel
theorem dX12_board_13 : decode cX12_board 13 = .ok (.invokestatic 125, 3) := by decide +kernel
theorem dX12_board_16 : decode cX12_board 16 = .ok (.ifCond .ne 9, 3) := by decide +kernel
theorem dX12_board_19 : decode cX12_board 19 = .ok (.aload_n 0, 1) := by decide +kernel
theorem dX12_board_20 : decode cX12_board 20 = .ok (.iconst (-1), 1) := by decide +kernel
theorem dX12_board_21 : decode cX12_board 21 = .ok (.invokevirtual 129, 3) := by decide +kernel
theorem dX12_board_24 : decode cX12_board 24 = .ok (.ireturn, 1) := by decide +kernel
theorem dX12_board_25 : decode cX12_board 25 = .ok (.aload_n 0, 1) := by decide +kernel
theorem dX12_board_26 : decode cX12_board 26 = .ok (.getfield 122, 3) := by decide +kernel
theorem dX12_board_29 : decode cX12_board 29 = .ok (.bipush 30, 2) := by decide +kernel
theorem dX12_board_31 : decode cX12_board 31 = .ok (.if_icmp .ne 10, 3) := by decide +kernel
theorem dX12_board_34 : decode cX12_board 34 = .ok (.aload_n 0, 1) := by decide +kernel
theorem dX12_board_35 : decode cX12_board 35 = .ok (.bipush (-5), 2) := by decide +kernel
theorem dX12_board_37 : decode cX12_board 37 = .ok (.invokevirtual 129, 3) := by decide +kernel
theorem dX12_board_40 : decode cX12_board 40 = .ok (.ireturn, 1) := by decide +kernel
theorem dX12_board_41 : decode cX12_board 41 = .ok (.aload_n 0, 1) := by decide +kernel
theorem dX12_board_42 : decode cX12_board 42 = .ok (.getfield 7, 3) := by decide +kernel
theorem dX12_board_45 : decode cX12_board 45 = .ok (.aload_n 0, 1) := by decide +kernel
theorem dX12_board_46 : decode cX12_board 46 = .ok (.getfield 122, 3) := by decide +kernel
theorem dX12_board_49 : decode cX12_board 49 = .ok (.iload_n 1, 1) := by decide +kernel
theorem dX12_board_50 : decode cX12_board 50 = .ok (.iastore, 1) := by decide +kernel
theorem dX12_board_51 : decode cX12_board 51 = .ok (.aload_n 0, 1) := by decide +kernel
theorem dX12_board_52 : decode cX12_board 52 = .ok (.getfield 13, 3) := by decide +kernel
theorem dX12_board_55 : decode cX12_board 55 = .ok (.aload_n 0, 1) := by decide +kernel
theorem dX12_board_56 : decode cX12_board 56 = .ok (.getfield 122, 3) := by decide +kernel
theorem dX12_board_59 : decode cX12_board 59 = .ok (.iload_n 2, 1) := by decide +kernel
theorem dX12_board_60 : decode cX12_board 60 = .ok (.iastore, 1) := by decide +kernel
theorem dX12_board_61 : decode cX12_board 61 = .ok (.aload_n 0, 1) := by decide +kernel
theorem dX12_board_62 : decode cX12_board 62 = .ok (.getfield 16, 3) := by decide +kernel
theorem dX12_board_65 : decode cX12_board 65 = .ok (.aload_n 0, 1) := by decide +kernel
theorem dX12_board_66 : decode cX12_board 66 = .ok (.getfield 122, 3) := by decide +kernel
theorem dX12_board_69 : decode cX12_board 69 = .ok (.iconst (-1), 1) := by decide +kernel
theorem dX12_board_70 : decode cX12_board 70 = .ok (.iastore, 1) := by decide +kernel
theorem dX12_board_71 : decode cX12_board 71 = .ok (.aload_n 0, 1) := by decide +kernel
theorem dX12_board_72 : decode cX12_board 72 = .ok (.dup, 1) := by decide +kernel
theorem dX12_board_73 : decode cX12_board 73 = .ok (.getfield 122, 3) := by decide +kernel
theorem dX12_board_76 : decode cX12_board 76 = .ok (.iconst 1, 1) := by decide +kernel
theorem dX12_board_77 : decode cX12_board 77 = .ok (.iadd, 1) := by decide +kernel
theorem dX12_board_78 : decode cX12_board 78 = .ok (.putfield 122, 3) := by decide +kernel
theorem dX12_board_81 : decode cX12_board 81 = .ok (.aload_n 0, 1) := by decide +kernel
theorem dX12_board_82 : decode cX12_board 82 = .ok (.aload_n 0, 1) := by decide +kernel
theorem dX12_board_83 : decode cX12_board 83 = .ok (.getfield 122, 3) := by decide +kernel
theorem dX12_board_86 : decode cX12_board 86 = .ok (.iconst 1, 1) := by decide +kernel
theorem dX12_board_87 : decode cX12_board 87 = .ok (.isub, 1) := by decide +kernel
theorem dX12_board_88 : decode cX12_board 88 = .ok (.invokevirtual 129, 3) := by decide +kernel
theorem dX12_board_91 : decode cX12_board 91 = .ok (.ireturn, 1) := by decide +kernel
theorem dX12_dent_0 : decode cX12_dent 0 = .ok (.aload_n 0, 1) := by decide +kernel
theorem dX12_dent_1 : decode cX12_dent 1 = .ok (.iconst 0, 1) := by decide +kernel
theorem dX12_dent_2 : decode cX12_dent 2 = .ok (.putfield 108, 3) := by decide +kernel
theorem dX12_dent_5 : decode cX12_dent 5 = .ok (.iload_n 2, 1) := by decide +kernel
theorem dX12_dent_6 : decode cX12_dent 6 = .ok (.i2l, 1) := by decide +kernel
theorem dX12_dent_7 : decode cX12_dent 7 = .ok (.lconst 0, 1) := by decide +kernel
theorem dX12_dent_8 : decode cX12_dent 8 = .ok (.ldc2_w 133, 3) := by decide +kernel
theorem dX12_dent_11 : decode cX12_dent 11 = .ok (.invokestatic 116, 3) := by decide +kernel
theorem dX12_dent_14 : decode cX12_dent 14 = .ok (.ifCond .eq 36, 3) := by decide +kernel
theorem dX12_dent_17 : decode cX12_dent 17 = .ok (.iload_n 3, 1) := by decide +kernel
theorem dX12_dent_18 : decode cX12_dent 18 = .ok (.i2l, 1) := by decide +kernel
theorem dX12_dent_19 : decode cX12_dent 19 = .ok (.lconst 0, 1) := by decide +kernel
theorem dX12_dent_20 : decode cX12_dent 20 = .ok (.ldc2_w 135, 3) := by decide +kernel
theorem dX12_dent_23 : decode cX12_dent 23 = .ok (.invokestatic 116, 3) := by decide +kernel
theorem dX12_dent_26 : decode cX12_dent 26 = .ok (.ifCond .eq 24, 3) := by decide +kernel
theorem dX12_dent_29 : decode cX12_dent 29 = .ok (.iload 4, 2) := by decide +kernel
theorem dX12_dent_31 : decode cX12_dent 31 = .ok (.i2l, 1) := by decide +kernel
theorem dX12_dent_32 : decode cX12_dent 32 = .ok (.lconst 1, 1) := by decide +kernel
theorem dX12_dent_33 : decode cX12_dent 33 = .ok (.ldc2_w 137, 3) := by decide +kernel
theorem dX12_dent_36 : decode cX12_dent 36 = .ok (.invokestatic 116, 3) := by decide +kernel
theorem dX12_dent_39 : decode cX12_dent 39 = .ok (.ifCond .eq 11, 3) := by decide +kernel
theorem dX12_dent_42 : decode cX12_dent 42 = .ok (.iload 5, 2) := by decide +kernel
theorem dX12_dent_44 : decode cX12_dent 44 = .ok (.invokestatic 139, 3) := by decide +kernel
theorem dX12_dent_47 : decode cX12_dent 47 = .ok (.ifCond .ne 9, 3) := by decide +kernel
theorem dX12_dent_50 : decode cX12_dent 50 = .ok (.aload_n 0, 1) := by decide +kernel
theorem dX12_dent_51 : decode cX12_dent 51 = .ok (.iconst (-1), 1) := by decide +kernel
theorem dX12_dent_52 : decode cX12_dent 52 = .ok (.invokevirtual 129, 3) := by decide +kernel
theorem dX12_dent_55 : decode cX12_dent 55 = .ok (.ireturn, 1) := by decide +kernel
theorem dX12_dent_56 : decode cX12_dent 56 = .ok (.aload_n 0, 1) := by decide +kernel
theorem dX12_dent_57 : decode cX12_dent 57 = .ok (.iload_n 1, 1) := by decide +kernel
theorem dX12_dent_58 : decode cX12_dent 58 = .ok (.invokevirtual 142, 3) := by decide +kernel
theorem dX12_dent_61 : decode cX12_dent 61 = .ok (.ifCond .ne 10, 3) := by decide +kernel
theorem dX12_dent_64 : decode cX12_dent 64 = .ok (.aload_n 0, 1) := by decide +kernel
theorem dX12_dent_65 : decode cX12_dent 65 = .ok (.bipush (-2), 2) := by decide +kernel
theorem dX12_dent_67 : decode cX12_dent 67 = .ok (.invokevirtual 129, 3) := by decide +kernel
theorem dX12_dent_70 : decode cX12_dent 70 = .ok (.ireturn, 1) := by decide +kernel
theorem dX12_dent_71 : decode cX12_dent 71 = .ok (.aload_n 0, 1) := by decide +kernel
theorem dX12_dent_72 : decode cX12_dent 72 = .ok (.getfield 145, 3) := by decide +kernel
theorem dX12_dent_75 : decode cX12_dent 75 = .ok (.sipush 300, 3) := by decide +kernel
theorem dX12_dent_78 : decode cX12_dent 78 = .ok (.if_icmp .ne 10, 3) := by decide +kernel
theorem dX12_dent_81 : decode cX12_dent 81 = .ok (.aload_n 0, 1) := by decide +kernel
theorem dX12_dent_82 : decode cX12_dent 82 = .ok (.bipush (-5), 2) := by decide +kernel
theorem dX12_dent_84 : decode cX12_dent 84 = .ok (.invokevirtual 129, 3) := by decide +kernel
theorem dX12_dent_87 : decode cX12_dent 87 = .ok (.ireturn, 1) := by decide +kernel
theorem dX12_dent_88 : decode cX12_dent 88 = .ok (.aload_n 0, 1) := by decide +kernel
theorem dX12_dent_89 : decode cX12_dent 89 = .ok (.getfield 19, 3) := by decide +kernel
theorem dX12_dent_92 : decode cX12_dent 92 = .ok (.aload_n 0, 1) := by decide +kernel
theorem dX12_dent_93 : decode cX12_dent 93 = .ok (.getfield 145, 3) := by decide +kernel
theorem dX12_dent_96 : decode cX12_dent 96 = .ok (.bipush 80, 2) := by decide +kernel
theorem dX12_dent_98 : decode cX12_dent 98 = .ok (.iload_n 1, 1) := by decide +kernel
theorem dX12_dent_99 : decode cX12_dent 99 = .ok (.imul, 1) := by decide +kernel
theorem dX12_dent_100 : decode cX12_dent 100 = .ok (.bipush 8, 2) := by decide +kernel
theorem dX12_dent_102 : decode cX12_dent 102 = .ok (.iload_n 2, 1) := by decide +kernel
theorem dX12_dent_103 : decode cX12_dent 103 = .ok (.imul, 1) := by decide +kernel
theorem dX12_dent_104 : decode cX12_dent 104 = .ok (.iadd, 1) := by decide +kernel
theorem dX12_dent_105 : decode cX12_dent 105 = .ok (.iload_n 3, 1) := by decide +kernel
theorem dX12_dent_106 : decode cX12_dent 106 = .ok (.iadd, 1) := by decide +kernel
theorem dX12_dent_107 : decode cX12_dent 107 = .ok (.iastore, 1) := by decide +kernel
theorem dX12_dent_108 : decode cX12_dent 108 = .ok (.aload_n 0, 1) := by decide +kernel
theorem dX12_dent_109 : decode cX12_dent 109 = .ok (.getfield 22, 3) := by decide +kernel
theorem dX12_dent_112 : decode cX12_dent 112 = .ok (.aload_n 0, 1) := by decide +kernel
theorem dX12_dent_113 : decode cX12_dent 113 = .ok (.getfield 145, 3) := by decide +kernel
theorem dX12_dent_116 : decode cX12_dent 116 = .ok (.iload 4, 2) := by decide +kernel
theorem dX12_dent_118 : decode cX12_dent 118 = .ok (.iastore, 1) := by decide +kernel
theorem dX12_dent_119 : decode cX12_dent 119 = .ok (.aload_n 0, 1) := by decide +kernel
theorem dX12_dent_120 : decode cX12_dent 120 = .ok (.getfield 25, 3) := by decide +kernel
theorem dX12_dent_123 : decode cX12_dent 123 = .ok (.aload_n 0, 1) := by decide +kernel
theorem dX12_dent_124 : decode cX12_dent 124 = .ok (.getfield 145, 3) := by decide +kernel
theorem dX12_dent_127 : decode cX12_dent 127 = .ok (.iload 5, 2) := by decide +kernel
theorem dX12_dent_129 : decode cX12_dent 129 = .ok (.iastore, 1) := by decide +kernel
theorem dX12_dent_130 : decode cX12_dent 130 = .ok (.aload_n 0, 1) := by decide +kernel
theorem dX12_dent_131 : decode cX12_dent 131 = .ok (.dup, 1) := by decide +kernel
theorem dX12_dent_132 : decode cX12_dent 132 = .ok (.getfield 145, 3) := by decide +kernel
theorem dX12_dent_135 : decode cX12_dent 135 = .ok (.iconst 1, 1) := by decide +kernel
theorem dX12_dent_136 : decode cX12_dent 136 = .ok (.iadd, 1) := by decide +kernel
theorem dX12_dent_137 : decode cX12_dent 137 = .ok (.putfield 145, 3) := by decide +kernel
theorem dX12_dent_140 : decode cX12_dent 140 = .ok (.aload_n 0, 1) := by decide +kernel
theorem dX12_dent_141 : decode cX12_dent 141 = .ok (.aload_n 0, 1) := by decide +kernel
theorem dX12_dent_142 : decode cX12_dent 142 = .ok (.getfield 145, 3) := by decide +kernel
theorem dX12_dent_145 : decode cX12_dent 145 = .ok (.invokevirtual 129, 3) := by decide +kernel
theorem dX12_dent_148 : decode cX12_dent 148 = .ok (.ireturn, 1) := by decide +kernel
theorem dX12_clear_0 : decode cX12_clear 0 = .ok (.aload_n 0, 1) := by decide +kernel
theorem dX12_clear_1 : decode cX12_clear 1 = .ok (.iconst 0, 1) := by decide +kernel
theorem dX12_clear_2 : decode cX12_clear 2 = .ok (.putfield 108, 3) := by decide +kernel
theorem dX12_clear_5 : decode cX12_clear 5 = .ok (.iload_n 2, 1) := by decide +kernel
theorem dX12_clear_6 : decode cX12_clear 6 = .ok (.invokestatic 139, 3) := by decide +kernel
theorem dX12_clear_9 : decode cX12_clear 9 = .ok (.ifCond .ne 9, 3) := by decide +kernel
theorem dX12_clear_12 : decode cX12_clear 12 = .ok (.aload_n 0, 1) := by decide +kernel
theorem dX12_clear_13 : decode cX12_clear 13 = .ok (.iconst (-1), 1) := by decide +kernel
theorem dX12_clear_14 : decode cX12_clear 14 = .ok (.invokevirtual 129, 3) := by decide +kernel
theorem dX12_clear_17 : decode cX12_clear 17 = .ok (.ireturn, 1) := by decide +kernel
theorem dX12_clear_18 : decode cX12_clear 18 = .ok (.aload_n 0, 1) := by decide +kernel
theorem dX12_clear_19 : decode cX12_clear 19 = .ok (.iload_n 1, 1) := by decide +kernel
theorem dX12_clear_20 : decode cX12_clear 20 = .ok (.invokevirtual 142, 3) := by decide +kernel
theorem dX12_clear_23 : decode cX12_clear 23 = .ok (.ifCond .ne 10, 3) := by decide +kernel
theorem dX12_clear_26 : decode cX12_clear 26 = .ok (.aload_n 0, 1) := by decide +kernel
theorem dX12_clear_27 : decode cX12_clear 27 = .ok (.bipush (-2), 2) := by decide +kernel
theorem dX12_clear_29 : decode cX12_clear 29 = .ok (.invokevirtual 129, 3) := by decide +kernel
theorem dX12_clear_32 : decode cX12_clear 32 = .ok (.ireturn, 1) := by decide +kernel
theorem dX12_clear_33 : decode cX12_clear 33 = .ok (.aload_n 0, 1) := by decide +kernel
theorem dX12_clear_34 : decode cX12_clear 34 = .ok (.getfield 16, 3) := by decide +kernel
theorem dX12_clear_37 : decode cX12_clear 37 = .ok (.iload_n 1, 1) := by decide +kernel
theorem dX12_clear_38 : decode cX12_clear 38 = .ok (.aload_n 0, 1) := by decide +kernel
theorem dX12_clear_39 : decode cX12_clear 39 = .ok (.getfield 16, 3) := by decide +kernel
theorem dX12_clear_42 : decode cX12_clear 42 = .ok (.iload_n 1, 1) := by decide +kernel
theorem dX12_clear_43 : decode cX12_clear 43 = .ok (.iaload, 1) := by decide +kernel
theorem dX12_clear_44 : decode cX12_clear 44 = .ok (.iconst (-1), 1) := by decide +kernel
theorem dX12_clear_45 : decode cX12_clear 45 = .ok (.if_icmp .eq 13, 3) := by decide +kernel
theorem dX12_clear_48 : decode cX12_clear 48 = .ok (.iload_n 2, 1) := by decide +kernel
theorem dX12_clear_49 : decode cX12_clear 49 = .ok (.aload_n 0, 1) := by decide +kernel
theorem dX12_clear_50 : decode cX12_clear 50 = .ok (.getfield 16, 3) := by decide +kernel
theorem dX12_clear_53 : decode cX12_clear 53 = .ok (.iload_n 1, 1) := by decide +kernel
theorem dX12_clear_54 : decode cX12_clear 54 = .ok (.iaload, 1) := by decide +kernel
theorem dX12_clear_55 : decode cX12_clear 55 = .ok (.if_icmp .ge 7, 3) := by decide +kernel
theorem dX12_clear_58 : decode cX12_clear 58 = .ok (.iload_n 2, 1) := by decide +kernel
theorem dX12_clear_59 : decode cX12_clear 59 = .ok (.goto 9, 3) := by decide +kernel
theorem dX12_clear_62 : decode cX12_clear 62 = .ok (.aload_n 0, 1) := by decide +kernel
theorem dX12_clear_63 : decode cX12_clear 63 = .ok (.getfield 16, 3) := by decide +kernel
theorem dX12_clear_66 : decode cX12_clear 66 = .ok (.iload_n 1, 1) := by decide +kernel
theorem dX12_clear_67 : decode cX12_clear 67 = .ok (.iaload, 1) := by decide +kernel
theorem dX12_clear_68 : decode cX12_clear 68 = .ok (.iastore, 1) := by decide +kernel
theorem dX12_clear_69 : decode cX12_clear 69 = .ok (.aload_n 0, 1) := by decide +kernel
theorem dX12_clear_70 : decode cX12_clear 70 = .ok (.iconst 0, 1) := by decide +kernel
theorem dX12_clear_71 : decode cX12_clear 71 = .ok (.invokevirtual 129, 3) := by decide +kernel
theorem dX12_clear_74 : decode cX12_clear 74 = .ok (.ireturn, 1) := by decide +kernel
theorem dX12_table_0 : decode cX12_table 0 = .ok (.aload_n 0, 1) := by decide +kernel
theorem dX12_table_1 : decode cX12_table 1 = .ok (.iconst 0, 1) := by decide +kernel
theorem dX12_table_2 : decode cX12_table 2 = .ok (.putfield 108, 3) := by decide +kernel
theorem dX12_table_5 : decode cX12_table 5 = .ok (.iload_n 1, 1) := by decide +kernel
theorem dX12_table_6 : decode cX12_table 6 = .ok (.i2l, 1) := by decide +kernel
theorem dX12_table_7 : decode cX12_table 7 = .ok (.lconst 0, 1) := by decide +kernel
theorem dX12_table_8 : decode cX12_table 8 = .ok (.ldc2_w 135, 3) := by decide +kernel
theorem dX12_table_11 : decode cX12_table 11 = .ok (.invokestatic 116, 3) := by decide +kernel
theorem dX12_table_14 : decode cX12_table 14 = .ok (.ifCond .eq 27, 3) := by decide +kernel
theorem dX12_table_17 : decode cX12_table 17 = .ok (.iload_n 2, 1) := by decide +kernel
theorem dX12_table_18 : decode cX12_table 18 = .ok (.i2l, 1) := by decide +kernel
theorem dX12_table_19 : decode cX12_table 19 = .ok (.lconst 0, 1) := by decide +kernel
theorem dX12_table_20 : decode cX12_table 20 = .ok (.ldc2_w 137, 3) := by decide +kernel
theorem dX12_table_23 : decode cX12_table 23 = .ok (.invokestatic 116, 3) := by decide +kernel
theorem dX12_table_26 : decode cX12_table 26 = .ok (.ifCond .eq 15, 3) := by decide +kernel
theorem dX12_table_29 : decode cX12_table 29 = .ok (.iload_n 3, 1) := by decide +kernel
theorem dX12_table_30 : decode cX12_table 30 = .ok (.i2l, 1) := by decide +kernel
theorem dX12_table_31 : decode cX12_table 31 = .ok (.lconst 0, 1) := by decide +kernel
theorem dX12_table_32 : decode cX12_table 32 = .ok (.ldc2_w 148, 3) := by decide +kernel
theorem dX12_table_35 : decode cX12_table 35 = .ok (.invokestatic 116, 3) := by decide +kernel
theorem dX12_table_38 : decode cX12_table 38 = .ok (.ifCond .ne 9, 3) := by decide +kernel
theorem dX12_table_41 : decode cX12_table 41 = .ok (.aload_n 0, 1) := by decide +kernel
theorem dX12_table_42 : decode cX12_table 42 = .ok (.iconst (-1), 1) := by decide +kernel
theorem dX12_table_43 : decode cX12_table 43 = .ok (.invokevirtual 129, 3) := by decide +kernel
theorem dX12_table_46 : decode cX12_table 46 = .ok (.ireturn, 1) := by decide +kernel
theorem dX12_table_47 : decode cX12_table 47 = .ok (.aload_n 0, 1) := by decide +kernel
theorem dX12_table_48 : decode cX12_table 48 = .ok (.getfield 28, 3) := by decide +kernel
theorem dX12_table_51 : decode cX12_table 51 = .ok (.iload_n 1, 1) := by decide +kernel
theorem dX12_table_52 : decode cX12_table 52 = .ok (.iload_n 2, 1) := by decide +kernel
theorem dX12_table_53 : decode cX12_table 53 = .ok (.iastore, 1) := by decide +kernel
theorem dX12_table_54 : decode cX12_table 54 = .ok (.aload_n 0, 1) := by decide +kernel
theorem dX12_table_55 : decode cX12_table 55 = .ok (.getfield 31, 3) := by decide +kernel
theorem dX12_table_58 : decode cX12_table 58 = .ok (.iload_n 1, 1) := by decide +kernel
theorem dX12_table_59 : decode cX12_table 59 = .ok (.iload_n 3, 1) := by decide +kernel
theorem dX12_table_60 : decode cX12_table 60 = .ok (.iastore, 1) := by decide +kernel
theorem dX12_table_61 : decode cX12_table 61 = .ok (.aload_n 0, 1) := by decide +kernel
theorem dX12_table_62 : decode cX12_table 62 = .ok (.iconst 0, 1) := by decide +kernel
theorem dX12_table_63 : decode cX12_table 63 = .ok (.invokevirtual 129, 3) := by decide +kernel
theorem dX12_table_66 : decode cX12_table 66 = .ok (.ireturn, 1) := by decide +kernel
theorem dX12_add_0 : decode cX12_add 0 = .ok (.aload_n 0, 1) := by decide +kernel
theorem dX12_add_1 : decode cX12_add 1 = .ok (.getfield 150, 3) := by decide +kernel
theorem dX12_add_4 : decode cX12_add 4 = .ok (.istore_n 2, 1) := by decide +kernel
theorem dX12_add_5 : decode cX12_add 5 = .ok (.iload_n 2, 1) := by decide +kernel
theorem dX12_add_6 : decode cX12_add 6 = .ok (.ifCond .le 35, 3) := by decide +kernel
theorem dX12_add_9 : decode cX12_add 9 = .ok (.aload_n 0, 1) := by decide +kernel
theorem dX12_add_10 : decode cX12_add 10 = .ok (.getfield 49, 3) := by decide +kernel
theorem dX12_add_13 : decode cX12_add 13 = .ok (.iload_n 2, 1) := by decide +kernel
theorem dX12_add_14 : decode cX12_add 14 = .ok (.iconst 1, 1) := by decide +kernel
theorem dX12_add_15 : decode cX12_add 15 = .ok (.isub, 1) := by decide +kernel
theorem dX12_add_16 : decode cX12_add 16 = .ok (.iaload, 1) := by decide +kernel
theorem dX12_add_17 : decode cX12_add 17 = .ok (.iload_n 1, 1) := by decide +kernel
theorem dX12_add_18 : decode cX12_add 18 = .ok (.if_icmp .le 23, 3) := by decide +kernel
theorem dX12_add_21 : decode cX12_add 21 = .ok (.aload_n 0, 1) := by decide +kernel
theorem dX12_add_22 : decode cX12_add 22 = .ok (.getfield 49, 3) := by decide +kernel
theorem dX12_add_25 : decode cX12_add 25 = .ok (.iload_n 2, 1) := by decide +kernel
theorem dX12_add_26 : decode cX12_add 26 = .ok (.aload_n 0, 1) := by decide +kernel
theorem dX12_add_27 : decode cX12_add 27 = .ok (.getfield 49, 3) := by decide +kernel
theorem dX12_add_30 : decode cX12_add 30 = .ok (.iload_n 2, 1) := by decide +kernel
theorem dX12_add_31 : decode cX12_add 31 = .ok (.iconst 1, 1) := by decide +kernel
theorem dX12_add_32 : decode cX12_add 32 = .ok (.isub, 1) := by decide +kernel
theorem dX12_add_33 : decode cX12_add 33 = .ok (.iaload, 1) := by decide +kernel
theorem dX12_add_34 : decode cX12_add 34 = .ok (.iastore, 1) := by decide +kernel
theorem dX12_add_35 : decode cX12_add 35 = .ok (.iinc 2 (-1), 3) := by decide +kernel
theorem dX12_add_38 : decode cX12_add 38 = .ok (.goto (-33), 3) := by decide +kernel
theorem dX12_add_41 : decode cX12_add 41 = .ok (.aload_n 0, 1) := by decide +kernel
theorem dX12_add_42 : decode cX12_add 42 = .ok (.getfield 49, 3) := by decide +kernel
theorem dX12_add_45 : decode cX12_add 45 = .ok (.iload_n 2, 1) := by decide +kernel
theorem dX12_add_46 : decode cX12_add 46 = .ok (.iload_n 1, 1) := by decide +kernel
theorem dX12_add_47 : decode cX12_add 47 = .ok (.iastore, 1) := by decide +kernel
theorem dX12_add_48 : decode cX12_add 48 = .ok (.aload_n 0, 1) := by decide +kernel
theorem dX12_add_49 : decode cX12_add 49 = .ok (.dup, 1) := by decide +kernel
theorem dX12_add_50 : decode cX12_add 50 = .ok (.getfield 150, 3) := by decide +kernel
theorem dX12_add_53 : decode cX12_add 53 = .ok (.iconst 1, 1) := by decide +kernel
theorem dX12_add_54 : decode cX12_add 54 = .ok (.iadd, 1) := by decide +kernel
theorem dX12_add_55 : decode cX12_add 55 = .ok (.putfield 150, 3) := by decide +kernel
theorem dX12_add_58 : decode cX12_add 58 = .ok (.return_, 1) := by decide +kernel
theorem dX12_middle_0 : decode cX12_middle 0 = .ok (.aload_n 0, 1) := by decide +kernel
theorem dX12_middle_1 : decode cX12_middle 1 = .ok (.getfield 49, 3) := by decide +kernel
theorem dX12_middle_4 : decode cX12_middle 4 = .ok (.aload_n 0, 1) := by decide +kernel
theorem dX12_middle_5 : decode cX12_middle 5 = .ok (.getfield 150, 3) := by decide +kernel
theorem dX12_middle_8 : decode cX12_middle 8 = .ok (.iconst 1, 1) := by decide +kernel
theorem dX12_middle_9 : decode cX12_middle 9 = .ok (.isub, 1) := by decide +kernel
theorem dX12_middle_10 : decode cX12_middle 10 = .ok (.iconst 2, 1) := by decide +kernel
theorem dX12_middle_11 : decode cX12_middle 11 = .ok (.idiv, 1) := by decide +kernel
theorem dX12_middle_12 : decode cX12_middle 12 = .ok (.iaload, 1) := by decide +kernel
theorem dX12_middle_13 : decode cX12_middle 13 = .ok (.ireturn, 1) := by decide +kernel
theorem dX12_find_0 : decode cX12_find 0 = .ok (.iconst 0, 1) := by decide +kernel
theorem dX12_find_1 : decode cX12_find 1 = .ok (.istore_n 2, 1) := by decide +kernel
theorem dX12_find_2 : decode cX12_find 2 = .ok (.iload_n 2, 1) := by decide +kernel
theorem dX12_find_3 : decode cX12_find 3 = .ok (.sipush 2400, 3) := by decide +kernel
theorem dX12_find_6 : decode cX12_find 6 = .ok (.if_icmp .ge 16, 3) := by decide +kernel
theorem dX12_find_9 : decode cX12_find 9 = .ok (.aload_n 0, 1) := by decide +kernel
theorem dX12_find_10 : decode cX12_find 10 = .ok (.getfield 34, 3) := by decide +kernel
theorem dX12_find_13 : decode cX12_find 13 = .ok (.iload_n 2, 1) := by decide +kernel
theorem dX12_find_14 : decode cX12_find 14 = .ok (.iconst 0, 1) := by decide +kernel
theorem dX12_find_15 : decode cX12_find 15 = .ok (.iastore, 1) := by decide +kernel
theorem dX12_find_16 : decode cX12_find 16 = .ok (.iinc 2 1, 3) := by decide +kernel
theorem dX12_find_19 : decode cX12_find 19 = .ok (.goto (-17), 3) := by decide +kernel
theorem dX12_find_22 : decode cX12_find 22 = .ok (.iconst 0, 1) := by decide +kernel
theorem dX12_find_23 : decode cX12_find 23 = .ok (.istore_n 2, 1) := by decide +kernel
theorem dX12_find_24 : decode cX12_find 24 = .ok (.iload_n 2, 1) := by decide +kernel
theorem dX12_find_25 : decode cX12_find 25 = .ok (.aload_n 0, 1) := by decide +kernel
theorem dX12_find_26 : decode cX12_find 26 = .ok (.getfield 145, 3) := by decide +kernel
theorem dX12_find_29 : decode cX12_find 29 = .ok (.if_icmp .ge 36, 3) := by decide +kernel
theorem dX12_find_32 : decode cX12_find 32 = .ok (.aload_n 0, 1) := by decide +kernel
theorem dX12_find_33 : decode cX12_find 33 = .ok (.getfield 25, 3) := by decide +kernel
theorem dX12_find_36 : decode cX12_find 36 = .ok (.iload_n 2, 1) := by decide +kernel
theorem dX12_find_37 : decode cX12_find 37 = .ok (.iaload, 1) := by decide +kernel
theorem dX12_find_38 : decode cX12_find 38 = .ok (.iload_n 1, 1) := by decide +kernel
theorem dX12_find_39 : decode cX12_find 39 = .ok (.if_icmp .gt 20, 3) := by decide +kernel
theorem dX12_find_42 : decode cX12_find 42 = .ok (.aload_n 0, 1) := by decide +kernel
theorem dX12_find_43 : decode cX12_find 43 = .ok (.getfield 34, 3) := by decide +kernel
theorem dX12_find_46 : decode cX12_find 46 = .ok (.aload_n 0, 1) := by decide +kernel
theorem dX12_find_47 : decode cX12_find 47 = .ok (.getfield 19, 3) := by decide +kernel
theorem dX12_find_50 : decode cX12_find 50 = .ok (.iload_n 2, 1) := by decide +kernel
theorem dX12_find_51 : decode cX12_find 51 = .ok (.iaload, 1) := by decide +kernel
theorem dX12_find_52 : decode cX12_find 52 = .ok (.aload_n 0, 1) := by decide +kernel
theorem dX12_find_53 : decode cX12_find 53 = .ok (.getfield 22, 3) := by decide +kernel
theorem dX12_find_56 : decode cX12_find 56 = .ok (.iload_n 2, 1) := by decide +kernel
theorem dX12_find_57 : decode cX12_find 57 = .ok (.iaload, 1) := by decide +kernel
theorem dX12_find_58 : decode cX12_find 58 = .ok (.iastore, 1) := by decide +kernel
theorem dX12_find_59 : decode cX12_find 59 = .ok (.iinc 2 1, 3) := by decide +kernel
theorem dX12_find_62 : decode cX12_find 62 = .ok (.goto (-38), 3) := by decide +kernel
theorem dX12_find_65 : decode cX12_find 65 = .ok (.iconst 0, 1) := by decide +kernel
theorem dX12_find_66 : decode cX12_find 66 = .ok (.istore_n 2, 1) := by decide +kernel
theorem dX12_find_67 : decode cX12_find 67 = .ok (.iload_n 2, 1) := by decide +kernel
theorem dX12_find_68 : decode cX12_find 68 = .ok (.sipush 300, 3) := by decide +kernel
theorem dX12_find_71 : decode cX12_find 71 = .ok (.if_icmp .ge 88, 3) := by decide +kernel
theorem dX12_find_74 : decode cX12_find 74 = .ok (.aload_n 0, 1) := by decide +kernel
theorem dX12_find_75 : decode cX12_find 75 = .ok (.iconst 0, 1) := by decide +kernel
theorem dX12_find_76 : decode cX12_find 76 = .ok (.putfield 150, 3) := by decide +kernel
theorem dX12_find_79 : decode cX12_find 79 = .ok (.iconst 0, 1) := by decide +kernel
theorem dX12_find_80 : decode cX12_find 80 = .ok (.istore_n 3, 1) := by decide +kernel
theorem dX12_find_81 : decode cX12_find 81 = .ok (.iload_n 3, 1) := by decide +kernel
theorem dX12_find_82 : decode cX12_find 82 = .ok (.bipush 8, 2) := by decide +kernel
theorem dX12_find_84 : decode cX12_find 84 = .ok (.if_icmp .ge 38, 3) := by decide +kernel
theorem dX12_find_87 : decode cX12_find 87 = .ok (.aload_n 0, 1) := by decide +kernel
theorem dX12_find_88 : decode cX12_find 88 = .ok (.getfield 34, 3) := by decide +kernel
theorem dX12_find_91 : decode cX12_find 91 = .ok (.bipush 8, 2) := by decide +kernel
theorem dX12_find_93 : decode cX12_find 93 = .ok (.iload_n 2, 1) := by decide +kernel
theorem dX12_find_94 : decode cX12_find 94 = .ok (.imul, 1) := by decide +kernel
theorem dX12_find_95 : decode cX12_find 95 = .ok (.iload_n 3, 1) := by decide +kernel
theorem dX12_find_96 : decode cX12_find 96 = .ok (.iadd, 1) := by decide +kernel
theorem dX12_find_97 : decode cX12_find 97 = .ok (.iaload, 1) := by decide +kernel
theorem dX12_find_98 : decode cX12_find 98 = .ok (.ifCond .le 18, 3) := by decide +kernel
theorem dX12_find_101 : decode cX12_find 101 = .ok (.aload_n 0, 1) := by decide +kernel
theorem dX12_find_102 : decode cX12_find 102 = .ok (.aload_n 0, 1) := by decide +kernel
theorem dX12_find_103 : decode cX12_find 103 = .ok (.getfield 34, 3) := by decide +kernel
theorem dX12_find_106 : decode cX12_find 106 = .ok (.bipush 8, 2) := by decide +kernel
theorem dX12_find_108 : decode cX12_find 108 = .ok (.iload_n 2, 1) := by decide +kernel
theorem dX12_find_109 : decode cX12_find 109 = .ok (.imul, 1) := by decide +kernel
theorem dX12_find_110 : decode cX12_find 110 = .ok (.iload_n 3, 1) := by decide +kernel
theorem dX12_find_111 : decode cX12_find 111 = .ok (.iadd, 1) := by decide +kernel
theorem dX12_find_112 : decode cX12_find 112 = .ok (.iaload, 1) := by decide +kernel
theorem dX12_find_113 : decode cX12_find 113 = .ok (.invokevirtual 153, 3) := by decide +kernel
theorem dX12_find_116 : decode cX12_find 116 = .ok (.iinc 3 1, 3) := by decide +kernel
theorem dX12_find_119 : decode cX12_find 119 = .ok (.goto (-38), 3) := by decide +kernel
theorem dX12_find_122 : decode cX12_find 122 = .ok (.aload_n 0, 1) := by decide +kernel
theorem dX12_find_123 : decode cX12_find 123 = .ok (.getfield 43, 3) := by decide +kernel
theorem dX12_find_126 : decode cX12_find 126 = .ok (.iload_n 2, 1) := by decide +kernel
theorem dX12_find_127 : decode cX12_find 127 = .ok (.aload_n 0, 1) := by decide +kernel
theorem dX12_find_128 : decode cX12_find 128 = .ok (.getfield 150, 3) := by decide +kernel
theorem dX12_find_131 : decode cX12_find 131 = .ok (.iastore, 1) := by decide +kernel
theorem dX12_find_132 : decode cX12_find 132 = .ok (.aload_n 0, 1) := by decide +kernel
theorem dX12_find_133 : decode cX12_find 133 = .ok (.getfield 37, 3) := by decide +kernel
theorem dX12_find_136 : decode cX12_find 136 = .ok (.iload_n 2, 1) := by decide +kernel
theorem dX12_find_137 : decode cX12_find 137 = .ok (.aload_n 0, 1) := by decide +kernel
theorem dX12_find_138 : decode cX12_find 138 = .ok (.getfield 150, 3) := by decide +kernel
theorem dX12_find_141 : decode cX12_find 141 = .ok (.ifCond .ne 7, 3) := by decide +kernel
theorem dX12_find_144 : decode cX12_find 144 = .ok (.iconst (-1), 1) := by decide +kernel
theorem dX12_find_145 : decode cX12_find 145 = .ok (.goto 7, 3) := by decide +kernel
theorem dX12_find_148 : decode cX12_find 148 = .ok (.aload_n 0, 1) := by decide +kernel
theorem dX12_find_149 : decode cX12_find 149 = .ok (.invokevirtual 157, 3) := by decide +kernel
theorem dX12_find_152 : decode cX12_find 152 = .ok (.iastore, 1) := by decide +kernel
theorem dX12_find_153 : decode cX12_find 153 = .ok (.iinc 2 1, 3) := by decide +kernel
theorem dX12_find_156 : decode cX12_find 156 = .ok (.goto (-89), 3) := by decide +kernel
theorem dX12_find_159 : decode cX12_find 159 = .ok (.iconst 0, 1) := by decide +kernel
theorem dX12_find_160 : decode cX12_find 160 = .ok (.istore_n 2, 1) := by decide +kernel
theorem dX12_find_161 : decode cX12_find 161 = .ok (.iload_n 2, 1) := by decide +kernel
theorem dX12_find_162 : decode cX12_find 162 = .ok (.bipush 8, 2) := by decide +kernel
theorem dX12_find_164 : decode cX12_find 164 = .ok (.if_icmp .ge 96, 3) := by decide +kernel
theorem dX12_find_167 : decode cX12_find 167 = .ok (.aload_n 0, 1) := by decide +kernel
theorem dX12_find_168 : decode cX12_find 168 = .ok (.iconst 0, 1) := by decide +kernel
theorem dX12_find_169 : decode cX12_find 169 = .ok (.putfield 150, 3) := by decide +kernel
theorem dX12_find_172 : decode cX12_find 172 = .ok (.iconst 0, 1) := by decide +kernel
theorem dX12_find_173 : decode cX12_find 173 = .ok (.istore_n 3, 1) := by decide +kernel
theorem dX12_find_174 : decode cX12_find 174 = .ok (.iload_n 3, 1) := by decide +kernel
theorem dX12_find_175 : decode cX12_find 175 = .ok (.sipush 300, 3) := by decide +kernel
theorem dX12_find_178 : decode cX12_find 178 = .ok (.if_icmp .ge 55, 3) := by decide +kernel
theorem dX12_find_181 : decode cX12_find 181 = .ok (.aload_n 0, 1) := by decide +kernel
theorem dX12_find_182 : decode cX12_find 182 = .ok (.getfield 34, 3) := by decide +kernel
theorem dX12_find_185 : decode cX12_find 185 = .ok (.bipush 8, 2) := by decide +kernel
theorem dX12_find_187 : decode cX12_find 187 = .ok (.iload_n 3, 1) := by decide +kernel
theorem dX12_find_188 : decode cX12_find 188 = .ok (.imul, 1) := by decide +kernel
theorem dX12_find_189 : decode cX12_find 189 = .ok (.iload_n 2, 1) := by decide +kernel
theorem dX12_find_190 : decode cX12_find 190 = .ok (.iadd, 1) := by decide +kernel
theorem dX12_find_191 : decode cX12_find 191 = .ok (.iaload, 1) := by decide +kernel
theorem dX12_find_192 : decode cX12_find 192 = .ok (.ifCond .le 35, 3) := by decide +kernel
theorem dX12_find_195 : decode cX12_find 195 = .ok (.aload_n 0, 1) := by decide +kernel
theorem dX12_find_196 : decode cX12_find 196 = .ok (.getfield 43, 3) := by decide +kernel
theorem dX12_find_199 : decode cX12_find 199 = .ok (.iload_n 3, 1) := by decide +kernel
theorem dX12_find_200 : decode cX12_find 200 = .ok (.iaload, 1) := by decide +kernel
theorem dX12_find_201 : decode cX12_find 201 = .ok (.iconst 1, 1) := by decide +kernel
theorem dX12_find_202 : decode cX12_find 202 = .ok (.if_icmp .le 25, 3) := by decide +kernel
theorem dX12_find_205 : decode cX12_find 205 = .ok (.aload_n 0, 1) := by decide +kernel
theorem dX12_find_206 : decode cX12_find 206 = .ok (.aload_n 0, 1) := by decide +kernel
theorem dX12_find_207 : decode cX12_find 207 = .ok (.getfield 34, 3) := by decide +kernel
theorem dX12_find_210 : decode cX12_find 210 = .ok (.bipush 8, 2) := by decide +kernel
theorem dX12_find_212 : decode cX12_find 212 = .ok (.iload_n 3, 1) := by decide +kernel
theorem dX12_find_213 : decode cX12_find 213 = .ok (.imul, 1) := by decide +kernel
theorem dX12_find_214 : decode cX12_find 214 = .ok (.iload_n 2, 1) := by decide +kernel
theorem dX12_find_215 : decode cX12_find 215 = .ok (.iadd, 1) := by decide +kernel
theorem dX12_find_216 : decode cX12_find 216 = .ok (.iaload, 1) := by decide +kernel
theorem dX12_find_217 : decode cX12_find 217 = .ok (.aload_n 0, 1) := by decide +kernel
theorem dX12_find_218 : decode cX12_find 218 = .ok (.getfield 37, 3) := by decide +kernel
theorem dX12_find_221 : decode cX12_find 221 = .ok (.iload_n 3, 1) := by decide +kernel
theorem dX12_find_222 : decode cX12_find 222 = .ok (.iaload, 1) := by decide +kernel
theorem dX12_find_223 : decode cX12_find 223 = .ok (.isub, 1) := by decide +kernel
theorem dX12_find_224 : decode cX12_find 224 = .ok (.invokevirtual 153, 3) := by decide +kernel
theorem dX12_find_227 : decode cX12_find 227 = .ok (.iinc 3 1, 3) := by decide +kernel
theorem dX12_find_230 : decode cX12_find 230 = .ok (.goto (-56), 3) := by decide +kernel
theorem dX12_find_233 : decode cX12_find 233 = .ok (.aload_n 0, 1) := by decide +kernel
theorem dX12_find_234 : decode cX12_find 234 = .ok (.getfield 46, 3) := by decide +kernel
theorem dX12_find_237 : decode cX12_find 237 = .ok (.iload_n 2, 1) := by decide +kernel
theorem dX12_find_238 : decode cX12_find 238 = .ok (.aload_n 0, 1) := by decide +kernel
theorem dX12_find_239 : decode cX12_find 239 = .ok (.getfield 150, 3) := by decide +kernel
theorem dX12_find_242 : decode cX12_find 242 = .ok (.ifCond .ne 7, 3) := by decide +kernel
theorem dX12_find_245 : decode cX12_find 245 = .ok (.iconst 0, 1) := by decide +kernel
theorem dX12_find_246 : decode cX12_find 246 = .ok (.goto 7, 3) := by decide +kernel
theorem dX12_find_249 : decode cX12_find 249 = .ok (.aload_n 0, 1) := by decide +kernel
theorem dX12_find_250 : decode cX12_find 250 = .ok (.invokevirtual 157, 3) := by decide +kernel
theorem dX12_find_253 : decode cX12_find 253 = .ok (.iastore, 1) := by decide +kernel
theorem dX12_find_254 : decode cX12_find 254 = .ok (.iinc 2 1, 3) := by decide +kernel
theorem dX12_find_257 : decode cX12_find 257 = .ok (.goto (-96), 3) := by decide +kernel
theorem dX12_find_260 : decode cX12_find 260 = .ok (.iconst 0, 1) := by decide +kernel
theorem dX12_find_261 : decode cX12_find 261 = .ok (.istore_n 2, 1) := by decide +kernel
theorem dX12_find_262 : decode cX12_find 262 = .ok (.iload_n 2, 1) := by decide +kernel
theorem dX12_find_263 : decode cX12_find 263 = .ok (.sipush 300, 3) := by decide +kernel
theorem dX12_find_266 : decode cX12_find 266 = .ok (.if_icmp .ge 99, 3) := by decide +kernel
theorem dX12_find_269 : decode cX12_find 269 = .ok (.aload_n 0, 1) := by decide +kernel
theorem dX12_find_270 : decode cX12_find 270 = .ok (.iconst 0, 1) := by decide +kernel
theorem dX12_find_271 : decode cX12_find 271 = .ok (.putfield 150, 3) := by decide +kernel
theorem dX12_find_274 : decode cX12_find 274 = .ok (.iconst 0, 1) := by decide +kernel
theorem dX12_find_275 : decode cX12_find 275 = .ok (.istore_n 3, 1) := by decide +kernel
theorem dX12_find_276 : decode cX12_find 276 = .ok (.iload_n 3, 1) := by decide +kernel
theorem dX12_find_277 : decode cX12_find 277 = .ok (.bipush 8, 2) := by decide +kernel
theorem dX12_find_279 : decode cX12_find 279 = .ok (.if_icmp .ge 59, 3) := by decide +kernel
theorem dX12_find_282 : decode cX12_find 282 = .ok (.aload_n 0, 1) := by decide +kernel
theorem dX12_find_283 : decode cX12_find 283 = .ok (.getfield 34, 3) := by decide +kernel
theorem dX12_find_286 : decode cX12_find 286 = .ok (.bipush 8, 2) := by decide +kernel
theorem dX12_find_288 : decode cX12_find 288 = .ok (.iload_n 2, 1) := by decide +kernel
theorem dX12_find_289 : decode cX12_find 289 = .ok (.imul, 1) := by decide +kernel
theorem dX12_find_290 : decode cX12_find 290 = .ok (.iload_n 3, 1) := by decide +kernel
theorem dX12_find_291 : decode cX12_find 291 = .ok (.iadd, 1) := by decide +kernel
theorem dX12_find_292 : decode cX12_find 292 = .ok (.iaload, 1) := by decide +kernel
theorem dX12_find_293 : decode cX12_find 293 = .ok (.ifCond .le 39, 3) := by decide +kernel
theorem dX12_find_296 : decode cX12_find 296 = .ok (.aload_n 0, 1) := by decide +kernel
theorem dX12_find_297 : decode cX12_find 297 = .ok (.getfield 34, 3) := by decide +kernel
theorem dX12_find_300 : decode cX12_find 300 = .ok (.bipush 8, 2) := by decide +kernel
theorem dX12_find_302 : decode cX12_find 302 = .ok (.iload_n 2, 1) := by decide +kernel
theorem dX12_find_303 : decode cX12_find 303 = .ok (.imul, 1) := by decide +kernel
theorem dX12_find_304 : decode cX12_find 304 = .ok (.iload_n 3, 1) := by decide +kernel
theorem dX12_find_305 : decode cX12_find 305 = .ok (.iadd, 1) := by decide +kernel
theorem dX12_find_306 : decode cX12_find 306 = .ok (.iaload, 1) := by decide +kernel
theorem dX12_find_307 : decode cX12_find 307 = .ok (.aload_n 0, 1) := by decide +kernel
theorem dX12_find_308 : decode cX12_find 308 = .ok (.getfield 46, 3) := by decide +kernel
theorem dX12_find_311 : decode cX12_find 311 = .ok (.iload_n 3, 1) := by decide +kernel
theorem dX12_find_312 : decode cX12_find 312 = .ok (.iaload, 1) := by decide +kernel
theorem dX12_find_313 : decode cX12_find 313 = .ok (.isub, 1) := by decide +kernel
theorem dX12_find_314 : decode cX12_find 314 = .ok (.istore 4, 2) := by decide +kernel
theorem dX12_find_316 : decode cX12_find 316 = .ok (.aload_n 0, 1) := by decide +kernel
theorem dX12_find_317 : decode cX12_find 317 = .ok (.iload 4, 2) := by decide +kernel
theorem dX12_find_319 : decode cX12_find 319 = .ok (.iconst 1, 1) := by decide +kernel
theorem dX12_find_320 : decode cX12_find 320 = .ok (.if_icmp .ge 7, 3) := by decide +kernel
theorem dX12_find_323 : decode cX12_find 323 = .ok (.iconst 1, 1) := by decide +kernel
theorem dX12_find_324 : decode cX12_find 324 = .ok (.goto 5, 3) := by decide +kernel
theorem dX12_find_327 : decode cX12_find 327 = .ok (.iload 4, 2) := by decide +kernel
theorem dX12_find_329 : decode cX12_find 329 = .ok (.invokevirtual 153, 3) := by decide +kernel
theorem dX12_find_332 : decode cX12_find 332 = .ok (.iinc 3 1, 3) := by decide +kernel
theorem dX12_find_335 : decode cX12_find 335 = .ok (.goto (-59), 3) := by decide +kernel
theorem dX12_find_338 : decode cX12_find 338 = .ok (.aload_n 0, 1) := by decide +kernel
theorem dX12_find_339 : decode cX12_find 339 = .ok (.getfield 40, 3) := by decide +kernel
theorem dX12_find_342 : decode cX12_find 342 = .ok (.iload_n 2, 1) := by decide +kernel
theorem dX12_find_343 : decode cX12_find 343 = .ok (.aload_n 0, 1) := by decide +kernel
theorem dX12_find_344 : decode cX12_find 344 = .ok (.getfield 150, 3) := by decide +kernel
theorem dX12_find_347 : decode cX12_find 347 = .ok (.ifCond .ne 7, 3) := by decide +kernel
theorem dX12_find_350 : decode cX12_find 350 = .ok (.iconst (-1), 1) := by decide +kernel
theorem dX12_find_351 : decode cX12_find 351 = .ok (.goto 7, 3) := by decide +kernel
theorem dX12_find_354 : decode cX12_find 354 = .ok (.aload_n 0, 1) := by decide +kernel
theorem dX12_find_355 : decode cX12_find 355 = .ok (.invokevirtual 157, 3) := by decide +kernel
theorem dX12_find_358 : decode cX12_find 358 = .ok (.iastore, 1) := by decide +kernel
theorem dX12_find_359 : decode cX12_find 359 = .ok (.iinc 2 1, 3) := by decide +kernel
theorem dX12_find_362 : decode cX12_find 362 = .ok (.goto (-100), 3) := by decide +kernel
theorem dX12_find_365 : decode cX12_find 365 = .ok (.iconst 0, 1) := by decide +kernel
theorem dX12_find_366 : decode cX12_find 366 = .ok (.istore_n 2, 1) := by decide +kernel
theorem dX12_find_367 : decode cX12_find 367 = .ok (.iload_n 2, 1) := by decide +kernel
theorem dX12_find_368 : decode cX12_find 368 = .ok (.aload_n 0, 1) := by decide +kernel
theorem dX12_find_369 : decode cX12_find 369 = .ok (.getfield 122, 3) := by decide +kernel
theorem dX12_find_372 : decode cX12_find 372 = .ok (.if_icmp .ge 146, 3) := by decide +kernel
theorem dX12_find_375 : decode cX12_find 375 = .ok (.aload_n 0, 1) := by decide +kernel
theorem dX12_find_376 : decode cX12_find 376 = .ok (.getfield 52, 3) := by decide +kernel
theorem dX12_find_379 : decode cX12_find 379 = .ok (.iload_n 2, 1) := by decide +kernel
theorem dX12_find_380 : decode cX12_find 380 = .ok (.iconst 0, 1) := by decide +kernel
theorem dX12_find_381 : decode cX12_find 381 = .ok (.iastore, 1) := by decide +kernel
theorem dX12_find_382 : decode cX12_find 382 = .ok (.aload_n 0, 1) := by decide +kernel
theorem dX12_find_383 : decode cX12_find 383 = .ok (.getfield 55, 3) := by decide +kernel
theorem dX12_find_386 : decode cX12_find 386 = .ok (.iload_n 2, 1) := by decide +kernel
theorem dX12_find_387 : decode cX12_find 387 = .ok (.iconst 0, 1) := by decide +kernel
theorem dX12_find_388 : decode cX12_find 388 = .ok (.iastore, 1) := by decide +kernel
theorem dX12_find_389 : decode cX12_find 389 = .ok (.iconst 0, 1) := by decide +kernel
theorem dX12_find_390 : decode cX12_find 390 = .ok (.istore_n 3, 1) := by decide +kernel
theorem dX12_find_391 : decode cX12_find 391 = .ok (.iload_n 3, 1) := by decide +kernel
theorem dX12_find_392 : decode cX12_find 392 = .ok (.bipush 10, 2) := by decide +kernel
theorem dX12_find_394 : decode cX12_find 394 = .ok (.if_icmp .ge 78, 3) := by decide +kernel
theorem dX12_find_397 : decode cX12_find 397 = .ok (.bipush 10, 2) := by decide +kernel
theorem dX12_find_399 : decode cX12_find 399 = .ok (.iload_n 2, 1) := by decide +kernel
theorem dX12_find_400 : decode cX12_find 400 = .ok (.imul, 1) := by decide +kernel
theorem dX12_find_401 : decode cX12_find 401 = .ok (.iload_n 3, 1) := by decide +kernel
theorem dX12_find_402 : decode cX12_find 402 = .ok (.iadd, 1) := by decide +kernel
theorem dX12_find_403 : decode cX12_find 403 = .ok (.istore 4, 2) := by decide +kernel
theorem dX12_find_405 : decode cX12_find 405 = .ok (.aload_n 0, 1) := by decide +kernel
theorem dX12_find_406 : decode cX12_find 406 = .ok (.getfield 43, 3) := by decide +kernel
theorem dX12_find_409 : decode cX12_find 409 = .ok (.iload 4, 2) := by decide +kernel
theorem dX12_find_411 : decode cX12_find 411 = .ok (.iaload, 1) := by decide +kernel
theorem dX12_find_412 : decode cX12_find 412 = .ok (.ifCond .le 54, 3) := by decide +kernel
theorem dX12_find_415 : decode cX12_find 415 = .ok (.aload_n 0, 1) := by decide +kernel
theorem dX12_find_416 : decode cX12_find 416 = .ok (.getfield 55, 3) := by decide +kernel
theorem dX12_find_419 : decode cX12_find 419 = .ok (.iload_n 2, 1) := by decide +kernel
theorem dX12_find_420 : decode cX12_find 420 = .ok (.dup2, 1) := by decide +kernel
theorem dX12_find_421 : decode cX12_find 421 = .ok (.iaload, 1) := by decide +kernel
theorem dX12_find_422 : decode cX12_find 422 = .ok (.iconst 1, 1) := by decide +kernel
theorem dX12_find_423 : decode cX12_find 423 = .ok (.iadd, 1) := by decide +kernel
theorem dX12_find_424 : decode cX12_find 424 = .ok (.iastore, 1) := by decide +kernel
theorem dX12_find_425 : decode cX12_find 425 = .ok (.aload_n 0, 1) := by decide +kernel
theorem dX12_find_426 : decode cX12_find 426 = .ok (.aload_n 0, 1) := by decide +kernel
theorem dX12_find_427 : decode cX12_find 427 = .ok (.getfield 40, 3) := by decide +kernel
theorem dX12_find_430 : decode cX12_find 430 = .ok (.iload 4, 2) := by decide +kernel
theorem dX12_find_432 : decode cX12_find 432 = .ok (.iaload, 1) := by decide +kernel
theorem dX12_find_433 : decode cX12_find 433 = .ok (.invokevirtual 161, 3) := by decide +kernel
theorem dX12_find_436 : decode cX12_find 436 = .ok (.istore 5, 2) := by decide +kernel
theorem dX12_find_438 : decode cX12_find 438 = .ok (.aload_n 0, 1) := by decide +kernel
theorem dX12_find_439 : decode cX12_find 439 = .ok (.getfield 52, 3) := by decide +kernel
theorem dX12_find_442 : decode cX12_find 442 = .ok (.iload_n 2, 1) := by decide +kernel
theorem dX12_find_443 : decode cX12_find 443 = .ok (.iload 5, 2) := by decide +kernel
theorem dX12_find_445 : decode cX12_find 445 = .ok (.aload_n 0, 1) := by decide +kernel
theorem dX12_find_446 : decode cX12_find 446 = .ok (.getfield 52, 3) := by decide +kernel
theorem dX12_find_449 : decode cX12_find 449 = .ok (.iload_n 2, 1) := by decide +kernel
theorem dX12_find_450 : decode cX12_find 450 = .ok (.iaload, 1) := by decide +kernel
theorem dX12_find_451 : decode cX12_find 451 = .ok (.if_icmp .le 8, 3) := by decide +kernel
theorem dX12_find_454 : decode cX12_find 454 = .ok (.iload 5, 2) := by decide +kernel
theorem dX12_find_456 : decode cX12_find 456 = .ok (.goto 9, 3) := by decide +kernel
theorem dX12_find_459 : decode cX12_find 459 = .ok (.aload_n 0, 1) := by decide +kernel
theorem dX12_find_460 : decode cX12_find 460 = .ok (.getfield 52, 3) := by decide +kernel
theorem dX12_find_463 : decode cX12_find 463 = .ok (.iload_n 2, 1) := by decide +kernel
theorem dX12_find_464 : decode cX12_find 464 = .ok (.iaload, 1) := by decide +kernel
theorem dX12_find_465 : decode cX12_find 465 = .ok (.iastore, 1) := by decide +kernel
theorem dX12_find_466 : decode cX12_find 466 = .ok (.iinc 3 1, 3) := by decide +kernel
theorem dX12_find_469 : decode cX12_find 469 = .ok (.goto (-78), 3) := by decide +kernel
theorem dX12_find_472 : decode cX12_find 472 = .ok (.aload_n 0, 1) := by decide +kernel
theorem dX12_find_473 : decode cX12_find 473 = .ok (.getfield 58, 3) := by decide +kernel
theorem dX12_find_476 : decode cX12_find 476 = .ok (.iload_n 2, 1) := by decide +kernel
theorem dX12_find_477 : decode cX12_find 477 = .ok (.aload_n 0, 1) := by decide +kernel
theorem dX12_find_478 : decode cX12_find 478 = .ok (.getfield 55, 3) := by decide +kernel
theorem dX12_find_481 : decode cX12_find 481 = .ok (.iload_n 2, 1) := by decide +kernel
theorem dX12_find_482 : decode cX12_find 482 = .ok (.iaload, 1) := by decide +kernel
theorem dX12_find_483 : decode cX12_find 483 = .ok (.ifCond .gt 23, 3) := by decide +kernel
theorem dX12_find_486 : decode cX12_find 486 = .ok (.aload_n 0, 1) := by decide +kernel
theorem dX12_find_487 : decode cX12_find 487 = .ok (.getfield 16, 3) := by decide +kernel
theorem dX12_find_490 : decode cX12_find 490 = .ok (.iload_n 2, 1) := by decide +kernel
theorem dX12_find_491 : decode cX12_find 491 = .ok (.iaload, 1) := by decide +kernel
theorem dX12_find_492 : decode cX12_find 492 = .ok (.iconst (-1), 1) := by decide +kernel
theorem dX12_find_493 : decode cX12_find 493 = .ok (.if_icmp .eq 17, 3) := by decide +kernel
theorem dX12_find_496 : decode cX12_find 496 = .ok (.aload_n 0, 1) := by decide +kernel
theorem dX12_find_497 : decode cX12_find 497 = .ok (.getfield 16, 3) := by decide +kernel
theorem dX12_find_500 : decode cX12_find 500 = .ok (.iload_n 2, 1) := by decide +kernel
theorem dX12_find_501 : decode cX12_find 501 = .ok (.iaload, 1) := by decide +kernel
theorem dX12_find_502 : decode cX12_find 502 = .ok (.iload_n 1, 1) := by decide +kernel
theorem dX12_find_503 : decode cX12_find 503 = .ok (.if_icmp .gt 7, 3) := by decide +kernel
theorem dX12_find_506 : decode cX12_find 506 = .ok (.iconst 1, 1) := by decide +kernel
theorem dX12_find_507 : decode cX12_find 507 = .ok (.goto 4, 3) := by decide +kernel
theorem dX12_find_510 : decode cX12_find 510 = .ok (.iconst 0, 1) := by decide +kernel
theorem dX12_find_511 : decode cX12_find 511 = .ok (.bastore, 1) := by decide +kernel
theorem dX12_find_512 : decode cX12_find 512 = .ok (.iinc 2 1, 3) := by decide +kernel
theorem dX12_find_515 : decode cX12_find 515 = .ok (.goto (-148), 3) := by decide +kernel
theorem dX12_find_518 : decode cX12_find 518 = .ok (.return_, 1) := by decide +kernel
theorem dX12_sizeOf_0 : decode cX12_sizeOf 0 = .ok (.iconst (-1), 1) := by decide +kernel
theorem dX12_sizeOf_1 : decode cX12_sizeOf 1 = .ok (.istore_n 2, 1) := by decide +kernel
theorem dX12_sizeOf_2 : decode cX12_sizeOf 2 = .ok (.iconst 0, 1) := by decide +kernel
theorem dX12_sizeOf_3 : decode cX12_sizeOf 3 = .ok (.istore_n 3, 1) := by decide +kernel
theorem dX12_sizeOf_4 : decode cX12_sizeOf 4 = .ok (.iload_n 3, 1) := by decide +kernel
theorem dX12_sizeOf_5 : decode cX12_sizeOf 5 = .ok (.bipush 8, 2) := by decide +kernel
theorem dX12_sizeOf_7 : decode cX12_sizeOf 7 = .ok (.if_icmp .ge 44, 3) := by decide +kernel
theorem dX12_sizeOf_10 : decode cX12_sizeOf 10 = .ok (.aload_n 0, 1) := by decide +kernel
theorem dX12_sizeOf_11 : decode cX12_sizeOf 11 = .ok (.getfield 28, 3) := by decide +kernel
theorem dX12_sizeOf_14 : decode cX12_sizeOf 14 = .ok (.iload_n 3, 1) := by decide +kernel
theorem dX12_sizeOf_15 : decode cX12_sizeOf 15 = .ok (.iaload, 1) := by decide +kernel
theorem dX12_sizeOf_16 : decode cX12_sizeOf 16 = .ok (.iload_n 1, 1) := by decide +kernel
theorem dX12_sizeOf_17 : decode cX12_sizeOf 17 = .ok (.if_icmp .gt 26, 3) := by decide +kernel
theorem dX12_sizeOf_20 : decode cX12_sizeOf 20 = .ok (.iload_n 2, 1) := by decide +kernel
theorem dX12_sizeOf_21 : decode cX12_sizeOf 21 = .ok (.ifCond .lt 18, 3) := by decide +kernel
theorem dX12_sizeOf_24 : decode cX12_sizeOf 24 = .ok (.aload_n 0, 1) := by decide +kernel
theorem dX12_sizeOf_25 : decode cX12_sizeOf 25 = .ok (.getfield 28, 3) := by decide +kernel
theorem dX12_sizeOf_28 : decode cX12_sizeOf 28 = .ok (.iload_n 3, 1) := by decide +kernel
theorem dX12_sizeOf_29 : decode cX12_sizeOf 29 = .ok (.iaload, 1) := by decide +kernel
theorem dX12_sizeOf_30 : decode cX12_sizeOf 30 = .ok (.aload_n 0, 1) := by decide +kernel
theorem dX12_sizeOf_31 : decode cX12_sizeOf 31 = .ok (.getfield 28, 3) := by decide +kernel
theorem dX12_sizeOf_34 : decode cX12_sizeOf 34 = .ok (.iload_n 2, 1) := by decide +kernel
theorem dX12_sizeOf_35 : decode cX12_sizeOf 35 = .ok (.iaload, 1) := by decide +kernel
theorem dX12_sizeOf_36 : decode cX12_sizeOf 36 = .ok (.if_icmp .lt 7, 3) := by decide +kernel
theorem dX12_sizeOf_39 : decode cX12_sizeOf 39 = .ok (.iload_n 3, 1) := by decide +kernel
theorem dX12_sizeOf_40 : decode cX12_sizeOf 40 = .ok (.goto 4, 3) := by decide +kernel
theorem dX12_sizeOf_43 : decode cX12_sizeOf 43 = .ok (.iload_n 2, 1) := by decide +kernel
theorem dX12_sizeOf_44 : decode cX12_sizeOf 44 = .ok (.istore_n 2, 1) := by decide +kernel
theorem dX12_sizeOf_45 : decode cX12_sizeOf 45 = .ok (.iinc 3 1, 3) := by decide +kernel
theorem dX12_sizeOf_48 : decode cX12_sizeOf 48 = .ok (.goto (-44), 3) := by decide +kernel
theorem dX12_sizeOf_51 : decode cX12_sizeOf 51 = .ok (.iload_n 2, 1) := by decide +kernel
theorem dX12_sizeOf_52 : decode cX12_sizeOf 52 = .ok (.ifCond .ge 7, 3) := by decide +kernel
theorem dX12_sizeOf_55 : decode cX12_sizeOf 55 = .ok (.iconst 0, 1) := by decide +kernel
theorem dX12_sizeOf_56 : decode cX12_sizeOf 56 = .ok (.goto 9, 3) := by decide +kernel
theorem dX12_sizeOf_59 : decode cX12_sizeOf 59 = .ok (.aload_n 0, 1) := by decide +kernel
theorem dX12_sizeOf_60 : decode cX12_sizeOf 60 = .ok (.getfield 31, 3) := by decide +kernel
theorem dX12_sizeOf_63 : decode cX12_sizeOf 63 = .ok (.iload_n 2, 1) := by decide +kernel
theorem dX12_sizeOf_64 : decode cX12_sizeOf 64 = .ok (.iaload, 1) := by decide +kernel
theorem dX12_sizeOf_65 : decode cX12_sizeOf 65 = .ok (.ireturn, 1) := by decide +kernel
theorem dX12_of_0 : decode cX12_of 0 = .ok (.aload_n 0, 1) := by decide +kernel
theorem dX12_of_1 : decode cX12_of 1 = .ok (.iconst 0, 1) := by decide +kernel
theorem dX12_of_2 : decode cX12_of 2 = .ok (.putfield 108, 3) := by decide +kernel
theorem dX12_of_5 : decode cX12_of 5 = .ok (.aload_n 0, 1) := by decide +kernel
theorem dX12_of_6 : decode cX12_of 6 = .ok (.iload_n 1, 1) := by decide +kernel
theorem dX12_of_7 : decode cX12_of 7 = .ok (.invokevirtual 142, 3) := by decide +kernel
theorem dX12_of_10 : decode cX12_of 10 = .ok (.ifCond .eq 22, 3) := by decide +kernel
theorem dX12_of_13 : decode cX12_of 13 = .ok (.iload_n 2, 1) := by decide +kernel
theorem dX12_of_14 : decode cX12_of 14 = .ok (.i2l, 1) := by decide +kernel
theorem dX12_of_15 : decode cX12_of 15 = .ok (.lconst 0, 1) := by decide +kernel
theorem dX12_of_16 : decode cX12_of 16 = .ok (.ldc2_w 133, 3) := by decide +kernel
theorem dX12_of_19 : decode cX12_of 19 = .ok (.invokestatic 116, 3) := by decide +kernel
theorem dX12_of_22 : decode cX12_of 22 = .ok (.ifCond .eq 10, 3) := by decide +kernel
theorem dX12_of_25 : decode cX12_of 25 = .ok (.iload_n 3, 1) := by decide +kernel
theorem dX12_of_26 : decode cX12_of 26 = .ok (.invokestatic 139, 3) := by decide +kernel
theorem dX12_of_29 : decode cX12_of 29 = .ok (.ifCond .ne 5, 3) := by decide +kernel
theorem dX12_of_32 : decode cX12_of 32 = .ok (.iconst (-1), 1) := by decide +kernel
theorem dX12_of_33 : decode cX12_of 33 = .ok (.ireturn, 1) := by decide +kernel
theorem dX12_of_34 : decode cX12_of 34 = .ok (.aload_n 0, 1) := by decide +kernel
theorem dX12_of_35 : decode cX12_of 35 = .ok (.iload_n 3, 1) := by decide +kernel
theorem dX12_of_36 : decode cX12_of 36 = .ok (.invokevirtual 164, 3) := by decide +kernel
theorem dX12_of_39 : decode cX12_of 39 = .ok (.bipush 10, 2) := by decide +kernel
theorem dX12_of_41 : decode cX12_of 41 = .ok (.iload_n 1, 1) := by decide +kernel
theorem dX12_of_42 : decode cX12_of 42 = .ok (.imul, 1) := by decide +kernel
theorem dX12_of_43 : decode cX12_of 43 = .ok (.iload_n 2, 1) := by decide +kernel
theorem dX12_of_44 : decode cX12_of 44 = .ok (.iadd, 1) := by decide +kernel
theorem dX12_of_45 : decode cX12_of 45 = .ok (.istore 5, 2) := by decide +kernel
theorem dX12_of_47 : decode cX12_of 47 = .ok (.aload_n 0, 1) := by decide +kernel
theorem dX12_of_48 : decode cX12_of 48 = .ok (.getfield 43, 3) := by decide +kernel
theorem dX12_of_51 : decode cX12_of 51 = .ok (.iload 5, 2) := by decide +kernel
theorem dX12_of_53 : decode cX12_of 53 = .ok (.iaload, 1) := by decide +kernel
theorem dX12_of_54 : decode cX12_of 54 = .ok (.ifCond .ne 5, 3) := by decide +kernel
theorem dX12_of_57 : decode cX12_of 57 = .ok (.iconst (-1), 1) := by decide +kernel
theorem dX12_of_58 : decode cX12_of 58 = .ok (.ireturn, 1) := by decide +kernel
theorem dX12_of_59 : decode cX12_of 59 = .ok (.iload 4, 2) := by decide +kernel
theorem dX12_of_61 : decode cX12_of 61 = .ok (.ifCond .ne 13, 3) := by decide +kernel
theorem dX12_of_64 : decode cX12_of 64 = .ok (.aload_n 0, 1) := by decide +kernel
theorem dX12_of_65 : decode cX12_of 65 = .ok (.getfield 37, 3) := by decide +kernel
theorem dX12_of_68 : decode cX12_of 68 = .ok (.iload 5, 2) := by decide +kernel
theorem dX12_of_70 : decode cX12_of 70 = .ok (.iaload, 1) := by decide +kernel
theorem dX12_of_71 : decode cX12_of 71 = .ok (.goto 56, 3) := by decide +kernel
theorem dX12_of_74 : decode cX12_of 74 = .ok (.iload 4, 2) := by decide +kernel
theorem dX12_of_76 : decode cX12_of 76 = .ok (.iconst 1, 1) := by decide +kernel
theorem dX12_of_77 : decode cX12_of 77 = .ok (.if_icmp .ne 13, 3) := by decide +kernel
theorem dX12_of_80 : decode cX12_of 80 = .ok (.aload_n 0, 1) := by decide +kernel
theorem dX12_of_81 : decode cX12_of 81 = .ok (.getfield 40, 3) := by decide +kernel
theorem dX12_of_84 : decode cX12_of 84 = .ok (.iload 5, 2) := by decide +kernel
theorem dX12_of_86 : decode cX12_of 86 = .ok (.iaload, 1) := by decide +kernel
theorem dX12_of_87 : decode cX12_of 87 = .ok (.goto 40, 3) := by decide +kernel
theorem dX12_of_90 : decode cX12_of 90 = .ok (.iload 4, 2) := by decide +kernel
theorem dX12_of_92 : decode cX12_of 92 = .ok (.iconst 2, 1) := by decide +kernel
theorem dX12_of_93 : decode cX12_of 93 = .ok (.if_icmp .ne 17, 3) := by decide +kernel
theorem dX12_of_96 : decode cX12_of 96 = .ok (.aload_n 0, 1) := by decide +kernel
theorem dX12_of_97 : decode cX12_of 97 = .ok (.aload_n 0, 1) := by decide +kernel
theorem dX12_of_98 : decode cX12_of 98 = .ok (.getfield 40, 3) := by decide +kernel
theorem dX12_of_101 : decode cX12_of 101 = .ok (.iload 5, 2) := by decide +kernel
theorem dX12_of_103 : decode cX12_of 103 = .ok (.iaload, 1) := by decide +kernel
theorem dX12_of_104 : decode cX12_of 104 = .ok (.invokevirtual 161, 3) := by decide +kernel
theorem dX12_of_107 : decode cX12_of 107 = .ok (.goto 20, 3) := by decide +kernel
theorem dX12_of_110 : decode cX12_of 110 = .ok (.iload 4, 2) := by decide +kernel
theorem dX12_of_112 : decode cX12_of 112 = .ok (.iconst 3, 1) := by decide +kernel
theorem dX12_of_113 : decode cX12_of 113 = .ok (.if_icmp .ne 13, 3) := by decide +kernel
theorem dX12_of_116 : decode cX12_of 116 = .ok (.aload_n 0, 1) := by decide +kernel
theorem dX12_of_117 : decode cX12_of 117 = .ok (.getfield 43, 3) := by decide +kernel
theorem dX12_of_120 : decode cX12_of 120 = .ok (.iload 5, 2) := by decide +kernel
theorem dX12_of_122 : decode cX12_of 122 = .ok (.iaload, 1) := by decide +kernel
theorem dX12_of_123 : decode cX12_of 123 = .ok (.goto 4, 3) := by decide +kernel
theorem dX12_of_126 : decode cX12_of 126 = .ok (.iconst (-1), 1) := by decide +kernel
theorem dX12_of_127 : decode cX12_of 127 = .ok (.ireturn, 1) := by decide +kernel
theorem dX12_leaning_0 : decode cX12_leaning 0 = .ok (.aload_n 0, 1) := by decide +kernel
theorem dX12_leaning_1 : decode cX12_leaning 1 = .ok (.iconst 0, 1) := by decide +kernel
theorem dX12_leaning_2 : decode cX12_leaning 2 = .ok (.putfield 108, 3) := by decide +kernel
theorem dX12_leaning_5 : decode cX12_leaning 5 = .ok (.iload_n 1, 1) := by decide +kernel
theorem dX12_leaning_6 : decode cX12_leaning 6 = .ok (.i2l, 1) := by decide +kernel
theorem dX12_leaning_7 : decode cX12_leaning 7 = .ok (.lconst 0, 1) := by decide +kernel
theorem dX12_leaning_8 : decode cX12_leaning 8 = .ok (.ldc2_w 135, 3) := by decide +kernel
theorem dX12_leaning_11 : decode cX12_leaning 11 = .ok (.invokestatic 116, 3) := by decide +kernel
theorem dX12_leaning_14 : decode cX12_leaning 14 = .ok (.ifCond .eq 10, 3) := by decide +kernel
theorem dX12_leaning_17 : decode cX12_leaning 17 = .ok (.iload_n 2, 1) := by decide +kernel
theorem dX12_leaning_18 : decode cX12_leaning 18 = .ok (.invokestatic 139, 3) := by decide +kernel
theorem dX12_leaning_21 : decode cX12_leaning 21 = .ok (.ifCond .ne 7, 3) := by decide +kernel
theorem dX12_leaning_24 : decode cX12_leaning 24 = .ok (.sipush (-1000), 3) := by decide +kernel
theorem dX12_leaning_27 : decode cX12_leaning 27 = .ok (.ireturn, 1) := by decide +kernel
theorem dX12_leaning_28 : decode cX12_leaning 28 = .ok (.aload_n 0, 1) := by decide +kernel
theorem dX12_leaning_29 : decode cX12_leaning 29 = .ok (.iload_n 2, 1) := by decide +kernel
theorem dX12_leaning_30 : decode cX12_leaning 30 = .ok (.invokevirtual 164, 3) := by decide +kernel
theorem dX12_leaning_33 : decode cX12_leaning 33 = .ok (.aload_n 0, 1) := by decide +kernel
theorem dX12_leaning_34 : decode cX12_leaning 34 = .ok (.getfield 46, 3) := by decide +kernel
theorem dX12_leaning_37 : decode cX12_leaning 37 = .ok (.iload_n 1, 1) := by decide +kernel
theorem dX12_leaning_38 : decode cX12_leaning 38 = .ok (.iaload, 1) := by decide +kernel
theorem dX12_leaning_39 : decode cX12_leaning 39 = .ok (.ireturn, 1) := by decide +kernel
theorem dX12_seen_0 : decode cX12_seen 0 = .ok (.aload_n 0, 1) := by decide +kernel
theorem dX12_seen_1 : decode cX12_seen 1 = .ok (.iconst 0, 1) := by decide +kernel
theorem dX12_seen_2 : decode cX12_seen 2 = .ok (.putfield 108, 3) := by decide +kernel
theorem dX12_seen_5 : decode cX12_seen 5 = .ok (.aload_n 0, 1) := by decide +kernel
theorem dX12_seen_6 : decode cX12_seen 6 = .ok (.iload_n 1, 1) := by decide +kernel
theorem dX12_seen_7 : decode cX12_seen 7 = .ok (.invokevirtual 142, 3) := by decide +kernel
theorem dX12_seen_10 : decode cX12_seen 10 = .ok (.ifCond .eq 10, 3) := by decide +kernel
theorem dX12_seen_13 : decode cX12_seen 13 = .ok (.iload_n 2, 1) := by decide +kernel
theorem dX12_seen_14 : decode cX12_seen 14 = .ok (.invokestatic 139, 3) := by decide +kernel
theorem dX12_seen_17 : decode cX12_seen 17 = .ok (.ifCond .ne 5, 3) := by decide +kernel
theorem dX12_seen_20 : decode cX12_seen 20 = .ok (.iconst (-1), 1) := by decide +kernel
theorem dX12_seen_21 : decode cX12_seen 21 = .ok (.ireturn, 1) := by decide +kernel
theorem dX12_seen_22 : decode cX12_seen 22 = .ok (.aload_n 0, 1) := by decide +kernel
theorem dX12_seen_23 : decode cX12_seen 23 = .ok (.iload_n 2, 1) := by decide +kernel
theorem dX12_seen_24 : decode cX12_seen 24 = .ok (.invokevirtual 164, 3) := by decide +kernel
theorem dX12_seen_27 : decode cX12_seen 27 = .ok (.iload_n 3, 1) := by decide +kernel
theorem dX12_seen_28 : decode cX12_seen 28 = .ok (.ifCond .ne 25, 3) := by decide +kernel
theorem dX12_seen_31 : decode cX12_seen 31 = .ok (.aload_n 0, 1) := by decide +kernel
theorem dX12_seen_32 : decode cX12_seen 32 = .ok (.getfield 58, 3) := by decide +kernel
theorem dX12_seen_35 : decode cX12_seen 35 = .ok (.iload_n 1, 1) := by decide +kernel
theorem dX12_seen_36 : decode cX12_seen 36 = .ok (.baload, 1) := by decide +kernel
theorem dX12_seen_37 : decode cX12_seen 37 = .ok (.ifCond .eq 12, 3) := by decide +kernel
theorem dX12_seen_40 : decode cX12_seen 40 = .ok (.aload_n 0, 1) := by decide +kernel
theorem dX12_seen_41 : decode cX12_seen 41 = .ok (.getfield 52, 3) := by decide +kernel
theorem dX12_seen_44 : decode cX12_seen 44 = .ok (.iload_n 1, 1) := by decide +kernel
theorem dX12_seen_45 : decode cX12_seen 45 = .ok (.iaload, 1) := by decide +kernel
theorem dX12_seen_46 : decode cX12_seen 46 = .ok (.goto 44, 3) := by decide +kernel
theorem dX12_seen_49 : decode cX12_seen 49 = .ok (.iconst (-1), 1) := by decide +kernel
theorem dX12_seen_50 : decode cX12_seen 50 = .ok (.goto 40, 3) := by decide +kernel
theorem dX12_seen_53 : decode cX12_seen 53 = .ok (.iload_n 3, 1) := by decide +kernel
theorem dX12_seen_54 : decode cX12_seen 54 = .ok (.iconst 1, 1) := by decide +kernel
theorem dX12_seen_55 : decode cX12_seen 55 = .ok (.if_icmp .ne 12, 3) := by decide +kernel
theorem dX12_seen_58 : decode cX12_seen 58 = .ok (.aload_n 0, 1) := by decide +kernel
theorem dX12_seen_59 : decode cX12_seen 59 = .ok (.getfield 55, 3) := by decide +kernel
theorem dX12_seen_62 : decode cX12_seen 62 = .ok (.iload_n 1, 1) := by decide +kernel
theorem dX12_seen_63 : decode cX12_seen 63 = .ok (.iaload, 1) := by decide +kernel
theorem dX12_seen_64 : decode cX12_seen 64 = .ok (.goto 26, 3) := by decide +kernel
theorem dX12_seen_67 : decode cX12_seen 67 = .ok (.iload_n 3, 1) := by decide +kernel
theorem dX12_seen_68 : decode cX12_seen 68 = .ok (.iconst 2, 1) := by decide +kernel
theorem dX12_seen_69 : decode cX12_seen 69 = .ok (.if_icmp .ne 20, 3) := by decide +kernel
theorem dX12_seen_72 : decode cX12_seen 72 = .ok (.aload_n 0, 1) := by decide +kernel
theorem dX12_seen_73 : decode cX12_seen 73 = .ok (.getfield 58, 3) := by decide +kernel
theorem dX12_seen_76 : decode cX12_seen 76 = .ok (.iload_n 1, 1) := by decide +kernel
theorem dX12_seen_77 : decode cX12_seen 77 = .ok (.baload, 1) := by decide +kernel
theorem dX12_seen_78 : decode cX12_seen 78 = .ok (.ifCond .eq 7, 3) := by decide +kernel
theorem dX12_seen_81 : decode cX12_seen 81 = .ok (.iconst 1, 1) := by decide +kernel
theorem dX12_seen_82 : decode cX12_seen 82 = .ok (.goto 8, 3) := by decide +kernel
theorem dX12_seen_85 : decode cX12_seen 85 = .ok (.iconst 0, 1) := by decide +kernel
theorem dX12_seen_86 : decode cX12_seen 86 = .ok (.goto 4, 3) := by decide +kernel
theorem dX12_seen_89 : decode cX12_seen 89 = .ok (.iconst (-1), 1) := by decide +kernel
theorem dX12_seen_90 : decode cX12_seen 90 = .ok (.ireturn, 1) := by decide +kernel
theorem dX12_isNear_0 : decode cX12_isNear 0 = .ok (.aload_n 0, 1) := by decide +kernel
theorem dX12_isNear_1 : decode cX12_isNear 1 = .ok (.getfield 7, 3) := by decide +kernel
theorem dX12_isNear_4 : decode cX12_isNear 4 = .ok (.iload_n 2, 1) := by decide +kernel
