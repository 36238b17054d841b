theorem dX9_hitsAlong_3 : decode cX9_hitsAlong 3 = .ok (.istore 4, 2) := by decide +kernel
theorem dX9_hitsAlong_5 : decode cX9_hitsAlong 5 = .ok (.iload 4, 2) := by decide +kernel
theorem dX9_hitsAlong_7 : decode cX9_hitsAlong 7 = .ok (.aload_n 0, 1) := by decide +kernel
theorem dX9_hitsAlong_8 : decode cX9_hitsAlong 8 = .ok (.getfield 25, 3) := by decide +kernel
theorem dX9_hitsAlong_11 : decode cX9_hitsAlong 11 = .ok (.getfield 33, 3) := by decide +kernel
theorem dX9_hitsAlong_14 : decode cX9_hitsAlong 14 = .ok (.if_icmp .ge 33, 3) := by decide +kernel
theorem dX9_hitsAlong_17 : decode cX9_hitsAlong 17 = .ok (.aload_n 0, 1) := by decide +kernel
theorem dX9_hitsAlong_18 : decode cX9_hitsAlong 18 = .ok (.getfield 9, 3) := by decide +kernel
theorem dX9_hitsAlong_21 : decode cX9_hitsAlong 21 = .ok (.iload 4, 2) := by decide +kernel
theorem dX9_hitsAlong_23 : decode cX9_hitsAlong 23 = .ok (.baload, 1) := by decide +kernel
theorem dX9_hitsAlong_24 : decode cX9_hitsAlong 24 = .ok (.ifCond .eq 17, 3) := by decide +kernel
theorem dX9_hitsAlong_27 : decode cX9_hitsAlong 27 = .ok (.aload_n 0, 1) := by decide +kernel
theorem dX9_hitsAlong_28 : decode cX9_hitsAlong 28 = .ok (.iload_n 1, 1) := by decide +kernel
theorem dX9_hitsAlong_29 : decode cX9_hitsAlong 29 = .ok (.iload_n 2, 1) := by decide +kernel
theorem dX9_hitsAlong_30 : decode cX9_hitsAlong 30 = .ok (.iload 4, 2) := by decide +kernel
theorem dX9_hitsAlong_32 : decode cX9_hitsAlong 32 = .ok (.invokevirtual 50, 3) := by decide +kernel
theorem dX9_hitsAlong_35 : decode cX9_hitsAlong 35 = .ok (.ifCond .eq 6, 3) := by decide +kernel
theorem dX9_hitsAlong_38 : decode cX9_hitsAlong 38 = .ok (.iinc 3 1, 3) := by decide +kernel
theorem dX9_hitsAlong_41 : decode cX9_hitsAlong 41 = .ok (.iinc 4 1, 3) := by decide +kernel
theorem dX9_hitsAlong_44 : decode cX9_hitsAlong 44 = .ok (.goto (-39), 3) := by decide +kernel
theorem dX9_hitsAlong_47 : decode cX9_hitsAlong 47 = .ok (.iload_n 3, 1) := by decide +kernel
theorem dX9_hitsAlong_48 : decode cX9_hitsAlong 48 = .ok (.ireturn, 1) := by decide +kernel
theorem dX9_isNear_0 : decode cX9_isNear 0 = .ok (.aload_n 0, 1) := by decide +kernel
theorem dX9_isNear_1 : decode cX9_isNear 1 = .ok (.getfield 25, 3) := by decide +kernel
theorem dX9_isNear_4 : decode cX9_isNear 4 = .ok (.getfield 53, 3) := by decide +kernel
theorem dX9_isNear_7 : decode cX9_isNear 7 = .ok (.iload_n 2, 1) := by decide +kernel
theorem dX9_isNear_8 : decode cX9_isNear 8 = .ok (.iaload, 1) := by decide +kernel
theorem dX9_isNear_9 : decode cX9_isNear 9 = .ok (.aload_n 0, 1) := by decide +kernel
theorem dX9_isNear_10 : decode cX9_isNear 10 = .ok (.getfield 25, 3) := by decide +kernel
theorem dX9_isNear_13 : decode cX9_isNear 13 = .ok (.getfield 53, 3) := by decide +kernel
theorem dX9_isNear_16 : decode cX9_isNear 16 = .ok (.iload_n 1, 1) := by decide +kernel
theorem dX9_isNear_17 : decode cX9_isNear 17 = .ok (.iaload, 1) := by decide +kernel
theorem dX9_isNear_18 : decode cX9_isNear 18 = .ok (.isub, 1) := by decide +kernel
theorem dX9_isNear_19 : decode cX9_isNear 19 = .ok (.istore 4, 2) := by decide +kernel
theorem dX9_isNear_21 : decode cX9_isNear 21 = .ok (.aload_n 0, 1) := by decide +kernel
theorem dX9_isNear_22 : decode cX9_isNear 22 = .ok (.getfield 25, 3) := by decide +kernel
theorem dX9_isNear_25 : decode cX9_isNear 25 = .ok (.getfield 57, 3) := by decide +kernel
theorem dX9_isNear_28 : decode cX9_isNear 28 = .ok (.iload_n 2, 1) := by decide +kernel
theorem dX9_isNear_29 : decode cX9_isNear 29 = .ok (.iaload, 1) := by decide +kernel
theorem dX9_isNear_30 : decode cX9_isNear 30 = .ok (.aload_n 0, 1) := by decide +kernel
theorem dX9_isNear_31 : decode cX9_isNear 31 = .ok (.getfield 25, 3) := by decide +kernel
theorem dX9_isNear_34 : decode cX9_isNear 34 = .ok (.getfield 57, 3) := by decide +kernel
theorem dX9_isNear_37 : decode cX9_isNear 37 = .ok (.iload_n 1, 1) := by decide +kernel
theorem dX9_isNear_38 : decode cX9_isNear 38 = .ok (.iaload, 1) := by decide +kernel
theorem dX9_isNear_39 : decode cX9_isNear 39 = .ok (.isub, 1) := by decide +kernel
theorem dX9_isNear_40 : decode cX9_isNear 40 = .ok (.istore 5, 2) := by decide +kernel
theorem dX9_isNear_42 : decode cX9_isNear 42 = .ok (.aload_n 0, 1) := by decide +kernel
theorem dX9_isNear_43 : decode cX9_isNear 43 = .ok (.getfield 25, 3) := by decide +kernel
theorem dX9_isNear_46 : decode cX9_isNear 46 = .ok (.getfield 53, 3) := by decide +kernel
theorem dX9_isNear_49 : decode cX9_isNear 49 = .ok (.iload_n 3, 1) := by decide +kernel
theorem dX9_isNear_50 : decode cX9_isNear 50 = .ok (.iaload, 1) := by decide +kernel
theorem dX9_isNear_51 : decode cX9_isNear 51 = .ok (.aload_n 0, 1) := by decide +kernel
theorem dX9_isNear_52 : decode cX9_isNear 52 = .ok (.getfield 25, 3) := by decide +kernel
theorem dX9_isNear_55 : decode cX9_isNear 55 = .ok (.getfield 53, 3) := by decide +kernel
theorem dX9_isNear_58 : decode cX9_isNear 58 = .ok (.iload_n 1, 1) := by decide +kernel
theorem dX9_isNear_59 : decode cX9_isNear 59 = .ok (.iaload, 1) := by decide +kernel
theorem dX9_isNear_60 : decode cX9_isNear 60 = .ok (.isub, 1) := by decide +kernel
theorem dX9_isNear_61 : decode cX9_isNear 61 = .ok (.istore 6, 2) := by decide +kernel
theorem dX9_isNear_63 : decode cX9_isNear 63 = .ok (.aload_n 0, 1) := by decide +kernel
theorem dX9_isNear_64 : decode cX9_isNear 64 = .ok (.getfield 25, 3) := by decide +kernel
theorem dX9_isNear_67 : decode cX9_isNear 67 = .ok (.getfield 57, 3) := by decide +kernel
theorem dX9_isNear_70 : decode cX9_isNear 70 = .ok (.iload_n 3, 1) := by decide +kernel
theorem dX9_isNear_71 : decode cX9_isNear 71 = .ok (.iaload, 1) := by decide +kernel
theorem dX9_isNear_72 : decode cX9_isNear 72 = .ok (.aload_n 0, 1) := by decide +kernel
theorem dX9_isNear_73 : decode cX9_isNear 73 = .ok (.getfield 25, 3) := by decide +kernel
theorem dX9_isNear_76 : decode cX9_isNear 76 = .ok (.getfield 57, 3) := by decide +kernel
theorem dX9_isNear_79 : decode cX9_isNear 79 = .ok (.iload_n 1, 1) := by decide +kernel
theorem dX9_isNear_80 : decode cX9_isNear 80 = .ok (.iaload, 1) := by decide +kernel
theorem dX9_isNear_81 : decode cX9_isNear 81 = .ok (.isub, 1) := by decide +kernel
theorem dX9_isNear_82 : decode cX9_isNear 82 = .ok (.istore 7, 2) := by decide +kernel
theorem dX9_isNear_84 : decode cX9_isNear 84 = .ok (.iload 4, 2) := by decide +kernel
theorem dX9_isNear_86 : decode cX9_isNear 86 = .ok (.iload 7, 2) := by decide +kernel
theorem dX9_isNear_88 : decode cX9_isNear 88 = .ok (.imul, 1) := by decide +kernel
theorem dX9_isNear_89 : decode cX9_isNear 89 = .ok (.iload 5, 2) := by decide +kernel
theorem dX9_isNear_91 : decode cX9_isNear 91 = .ok (.iload 6, 2) := by decide +kernel
theorem dX9_isNear_93 : decode cX9_isNear 93 = .ok (.imul, 1) := by decide +kernel
theorem dX9_isNear_94 : decode cX9_isNear 94 = .ok (.isub, 1) := by decide +kernel
theorem dX9_isNear_95 : decode cX9_isNear 95 = .ok (.istore 8, 2) := by decide +kernel
theorem dX9_isNear_97 : decode cX9_isNear 97 = .ok (.iload 8, 2) := by decide +kernel
theorem dX9_isNear_99 : decode cX9_isNear 99 = .ok (.iload 8, 2) := by decide +kernel
theorem dX9_isNear_101 : decode cX9_isNear 101 = .ok (.imul, 1) := by decide +kernel
theorem dX9_isNear_102 : decode cX9_isNear 102 = .ok (.aload_n 0, 1) := by decide +kernel
theorem dX9_isNear_103 : decode cX9_isNear 103 = .ok (.getfield 15, 3) := by decide +kernel
theorem dX9_isNear_106 : decode cX9_isNear 106 = .ok (.aload_n 0, 1) := by decide +kernel
theorem dX9_isNear_107 : decode cX9_isNear 107 = .ok (.getfield 15, 3) := by decide +kernel
theorem dX9_isNear_110 : decode cX9_isNear 110 = .ok (.imul, 1) := by decide +kernel
theorem dX9_isNear_111 : decode cX9_isNear 111 = .ok (.iload 4, 2) := by decide +kernel
theorem dX9_isNear_113 : decode cX9_isNear 113 = .ok (.iload 4, 2) := by decide +kernel
theorem dX9_isNear_115 : decode cX9_isNear 115 = .ok (.imul, 1) := by decide +kernel
theorem dX9_isNear_116 : decode cX9_isNear 116 = .ok (.iload 5, 2) := by decide +kernel
theorem dX9_isNear_118 : decode cX9_isNear 118 = .ok (.iload 5, 2) := by decide +kernel
theorem dX9_isNear_120 : decode cX9_isNear 120 = .ok (.imul, 1) := by decide +kernel
theorem dX9_isNear_121 : decode cX9_isNear 121 = .ok (.iadd, 1) := by decide +kernel
theorem dX9_isNear_122 : decode cX9_isNear 122 = .ok (.imul, 1) := by decide +kernel
theorem dX9_isNear_123 : decode cX9_isNear 123 = .ok (.if_icmp .gt 7, 3) := by decide +kernel
theorem dX9_isNear_126 : decode cX9_isNear 126 = .ok (.iconst 1, 1) := by decide +kernel
theorem dX9_isNear_127 : decode cX9_isNear 127 = .ok (.goto 4, 3) := by decide +kernel
theorem dX9_isNear_130 : decode cX9_isNear 130 = .ok (.iconst 0, 1) := by decide +kernel
theorem dX9_isNear_131 : decode cX9_isNear 131 = .ok (.ireturn, 1) := by decide +kernel
theorem dX10_init_0 : decode cX10_init 0 = .ok (.aload_n 0, 1) := by decide +kernel
theorem dX10_init_1 : decode cX10_init 1 = .ok (.invokespecial 3, 3) := by decide +kernel
theorem dX10_init_4 : decode cX10_init 4 = .ok (.aload_n 0, 1) := by decide +kernel
theorem dX10_init_5 : decode cX10_init 5 = .ok (.sipush 2400, 3) := by decide +kernel
theorem dX10_init_8 : decode cX10_init 8 = .ok (.newarray .int, 2) := by decide +kernel
theorem dX10_init_10 : decode cX10_init 10 = .ok (.putfield 9, 3) := by decide +kernel
theorem dX10_init_13 : decode cX10_init 13 = .ok (.aload_n 0, 1) := by decide +kernel
theorem dX10_init_14 : decode cX10_init 14 = .ok (.sipush 300, 3) := by decide +kernel
theorem dX10_init_17 : decode cX10_init 17 = .ok (.newarray .int, 2) := by decide +kernel
theorem dX10_init_19 : decode cX10_init 19 = .ok (.putfield 15, 3) := by decide +kernel
theorem dX10_init_22 : decode cX10_init 22 = .ok (.aload_n 0, 1) := by decide +kernel
theorem dX10_init_23 : decode cX10_init 23 = .ok (.sipush 300, 3) := by decide +kernel
theorem dX10_init_26 : decode cX10_init 26 = .ok (.newarray .int, 2) := by decide +kernel
theorem dX10_init_28 : decode cX10_init 28 = .ok (.putfield 18, 3) := by decide +kernel
theorem dX10_init_31 : decode cX10_init 31 = .ok (.aload_n 0, 1) := by decide +kernel
theorem dX10_init_32 : decode cX10_init 32 = .ok (.bipush 8, 2) := by decide +kernel
theorem dX10_init_34 : decode cX10_init 34 = .ok (.newarray .int, 2) := by decide +kernel
theorem dX10_init_36 : decode cX10_init 36 = .ok (.putfield 21, 3) := by decide +kernel
theorem dX10_init_39 : decode cX10_init 39 = .ok (.aload_n 0, 1) := by decide +kernel
theorem dX10_init_40 : decode cX10_init 40 = .ok (.sipush 300, 3) := by decide +kernel
theorem dX10_init_43 : decode cX10_init 43 = .ok (.newarray .int, 2) := by decide +kernel
theorem dX10_init_45 : decode cX10_init 45 = .ok (.putfield 24, 3) := by decide +kernel
theorem dX10_init_48 : decode cX10_init 48 = .ok (.aload_n 0, 1) := by decide +kernel
theorem dX10_init_49 : decode cX10_init 49 = .ok (.iconst (-1), 1) := by decide +kernel
theorem dX10_init_50 : decode cX10_init 50 = .ok (.putfield 27, 3) := by decide +kernel
theorem dX10_init_53 : decode cX10_init 53 = .ok (.aload_n 0, 1) := by decide +kernel
theorem dX10_init_54 : decode cX10_init 54 = .ok (.iconst (-1), 1) := by decide +kernel
theorem dX10_init_55 : decode cX10_init 55 = .ok (.putfield 31, 3) := by decide +kernel
theorem dX10_init_58 : decode cX10_init 58 = .ok (.aload_n 0, 1) := by decide +kernel
theorem dX10_init_59 : decode cX10_init 59 = .ok (.aload_n 1, 1) := by decide +kernel
theorem dX10_init_60 : decode cX10_init 60 = .ok (.putfield 34, 3) := by decide +kernel
theorem dX10_init_63 : decode cX10_init 63 = .ok (.aload_n 0, 1) := by decide +kernel
theorem dX10_init_64 : decode cX10_init 64 = .ok (.aload_n 2, 1) := by decide +kernel
theorem dX10_init_65 : decode cX10_init 65 = .ok (.putfield 38, 3) := by decide +kernel
theorem dX10_init_68 : decode cX10_init 68 = .ok (.aload_n 0, 1) := by decide +kernel
theorem dX10_init_69 : decode cX10_init 69 = .ok (.aload_n 3, 1) := by decide +kernel
theorem dX10_init_70 : decode cX10_init 70 = .ok (.putfield 42, 3) := by decide +kernel
theorem dX10_init_73 : decode cX10_init 73 = .ok (.return_, 1) := by decide +kernel
theorem dX10_forget_0 : decode cX10_forget 0 = .ok (.aload_n 0, 1) := by decide +kernel
theorem dX10_forget_1 : decode cX10_forget 1 = .ok (.iconst (-1), 1) := by decide +kernel
theorem dX10_forget_2 : decode cX10_forget 2 = .ok (.putfield 31, 3) := by decide +kernel
theorem dX10_forget_5 : decode cX10_forget 5 = .ok (.return_, 1) := by decide +kernel
theorem dX10_show_0 : decode cX10_show 0 = .ok (.aload_n 0, 1) := by decide +kernel
theorem dX10_show_1 : decode cX10_show 1 = .ok (.iload_n 1, 1) := by decide +kernel
theorem dX10_show_2 : decode cX10_show 2 = .ok (.putfield 27, 3) := by decide +kernel
theorem dX10_show_5 : decode cX10_show 5 = .ok (.aload_n 0, 1) := by decide +kernel
theorem dX10_show_6 : decode cX10_show 6 = .ok (.getfield 31, 3) := by decide +kernel
theorem dX10_show_9 : decode cX10_show 9 = .ok (.iload_n 1, 1) := by decide +kernel
theorem dX10_show_10 : decode cX10_show 10 = .ok (.if_icmp .ne 4, 3) := by decide +kernel
theorem dX10_show_13 : decode cX10_show 13 = .ok (.return_, 1) := by decide +kernel
theorem dX10_show_14 : decode cX10_show 14 = .ok (.aload_n 0, 1) := by decide +kernel
theorem dX10_show_15 : decode cX10_show 15 = .ok (.iload_n 1, 1) := by decide +kernel
theorem dX10_show_16 : decode cX10_show 16 = .ok (.putfield 31, 3) := by decide +kernel
theorem dX10_show_19 : decode cX10_show 19 = .ok (.aload_n 0, 1) := by decide +kernel
theorem dX10_show_20 : decode cX10_show 20 = .ok (.invokevirtual 46, 3) := by decide +kernel
theorem dX10_show_23 : decode cX10_show 23 = .ok (.aload_n 0, 1) := by decide +kernel
theorem dX10_show_24 : decode cX10_show 24 = .ok (.invokevirtual 49, 3) := by decide +kernel
theorem dX10_show_27 : decode cX10_show 27 = .ok (.istore_n 2, 1) := by decide +kernel
theorem dX10_show_28 : decode cX10_show 28 = .ok (.iconst 0, 1) := by decide +kernel
theorem dX10_show_29 : decode cX10_show 29 = .ok (.istore_n 3, 1) := by decide +kernel
theorem dX10_show_30 : decode cX10_show 30 = .ok (.iload_n 3, 1) := by decide +kernel
theorem dX10_show_31 : decode cX10_show 31 = .ok (.iload_n 2, 1) := by decide +kernel
theorem dX10_show_32 : decode cX10_show 32 = .ok (.if_icmp .ge 34, 3) := by decide +kernel
theorem dX10_show_35 : decode cX10_show 35 = .ok (.aload_n 0, 1) := by decide +kernel
theorem dX10_show_36 : decode cX10_show 36 = .ok (.getfield 18, 3) := by decide +kernel
theorem dX10_show_39 : decode cX10_show 39 = .ok (.iload_n 3, 1) := by decide +kernel
theorem dX10_show_40 : decode cX10_show 40 = .ok (.aload_n 0, 1) := by decide +kernel
theorem dX10_show_41 : decode cX10_show 41 = .ok (.getfield 15, 3) := by decide +kernel
theorem dX10_show_44 : decode cX10_show 44 = .ok (.iload_n 3, 1) := by decide +kernel
theorem dX10_show_45 : decode cX10_show 45 = .ok (.iaload, 1) := by decide +kernel
theorem dX10_show_46 : decode cX10_show 46 = .ok (.ifCond .ne 7, 3) := by decide +kernel
theorem dX10_show_49 : decode cX10_show 49 = .ok (.iconst 0, 1) := by decide +kernel
theorem dX10_show_50 : decode cX10_show 50 = .ok (.goto 9, 3) := by decide +kernel
theorem dX10_show_53 : decode cX10_show 53 = .ok (.aload_n 0, 1) := by decide +kernel
theorem dX10_show_54 : decode cX10_show 54 = .ok (.iload_n 3, 1) := by decide +kernel
theorem dX10_show_55 : decode cX10_show 55 = .ok (.iconst 0, 1) := by decide +kernel
theorem dX10_show_56 : decode cX10_show 56 = .ok (.invokevirtual 53, 3) := by decide +kernel
theorem dX10_show_59 : decode cX10_show 59 = .ok (.iastore, 1) := by decide +kernel
theorem dX10_show_60 : decode cX10_show 60 = .ok (.iinc 3 1, 3) := by decide +kernel
theorem dX10_show_63 : decode cX10_show 63 = .ok (.goto (-33), 3) := by decide +kernel
theorem dX10_show_66 : decode cX10_show 66 = .ok (.iconst 0, 1) := by decide +kernel
theorem dX10_show_67 : decode cX10_show 67 = .ok (.istore_n 3, 1) := by decide +kernel
theorem dX10_show_68 : decode cX10_show 68 = .ok (.iload_n 3, 1) := by decide +kernel
theorem dX10_show_69 : decode cX10_show 69 = .ok (.bipush 8, 2) := by decide +kernel
theorem dX10_show_71 : decode cX10_show 71 = .ok (.if_icmp .ge 20, 3) := by decide +kernel
theorem dX10_show_74 : decode cX10_show 74 = .ok (.aload_n 0, 1) := by decide +kernel
theorem dX10_show_75 : decode cX10_show 75 = .ok (.getfield 21, 3) := by decide +kernel
theorem dX10_show_78 : decode cX10_show 78 = .ok (.iload_n 3, 1) := by decide +kernel
theorem dX10_show_79 : decode cX10_show 79 = .ok (.aload_n 0, 1) := by decide +kernel
theorem dX10_show_80 : decode cX10_show 80 = .ok (.iload_n 3, 1) := by decide +kernel
theorem dX10_show_81 : decode cX10_show 81 = .ok (.invokevirtual 57, 3) := by decide +kernel
theorem dX10_show_84 : decode cX10_show 84 = .ok (.iastore, 1) := by decide +kernel
theorem dX10_show_85 : decode cX10_show 85 = .ok (.iinc 3 1, 3) := by decide +kernel
theorem dX10_show_88 : decode cX10_show 88 = .ok (.goto (-20), 3) := by decide +kernel
theorem dX10_show_91 : decode cX10_show 91 = .ok (.return_, 1) := by decide +kernel
theorem dX10_placeWidths_0 : decode cX10_placeWidths 0 = .ok (.aload_n 0, 1) := by decide +kernel
theorem dX10_placeWidths_1 : decode cX10_placeWidths 1 = .ok (.getfield 9, 3) := by decide +kernel
theorem dX10_placeWidths_4 : decode cX10_placeWidths 4 = .ok (.iconst 0, 1) := by decide +kernel
theorem dX10_placeWidths_5 : decode cX10_placeWidths 5 = .ok (.invokestatic 61, 3) := by decide +kernel
theorem dX10_placeWidths_8 : decode cX10_placeWidths 8 = .ok (.aload_n 0, 1) := by decide +kernel
theorem dX10_placeWidths_9 : decode cX10_placeWidths 9 = .ok (.getfield 15, 3) := by decide +kernel
theorem dX10_placeWidths_12 : decode cX10_placeWidths 12 = .ok (.iconst 0, 1) := by decide +kernel
theorem dX10_placeWidths_13 : decode cX10_placeWidths 13 = .ok (.invokestatic 61, 3) := by decide +kernel
theorem dX10_placeWidths_16 : decode cX10_placeWidths 16 = .ok (.iconst 0, 1) := by decide +kernel
theorem dX10_placeWidths_17 : decode cX10_placeWidths 17 = .ok (.istore_n 1, 1) := by decide +kernel
theorem dX10_placeWidths_18 : decode cX10_placeWidths 18 = .ok (.iload_n 1, 1) := by decide +kernel
theorem dX10_placeWidths_19 : decode cX10_placeWidths 19 = .ok (.aload_n 0, 1) := by decide +kernel
theorem dX10_placeWidths_20 : decode cX10_placeWidths 20 = .ok (.getfield 38, 3) := by decide +kernel
theorem dX10_placeWidths_23 : decode cX10_placeWidths 23 = .ok (.getfield 67, 3) := by decide +kernel
theorem dX10_placeWidths_26 : decode cX10_placeWidths 26 = .ok (.if_icmp .ge 56, 3) := by decide +kernel
theorem dX10_placeWidths_29 : decode cX10_placeWidths 29 = .ok (.aload_n 0, 1) := by decide +kernel
theorem dX10_placeWidths_30 : decode cX10_placeWidths 30 = .ok (.getfield 38, 3) := by decide +kernel
theorem dX10_placeWidths_33 : decode cX10_placeWidths 33 = .ok (.getfield 72, 3) := by decide +kernel
theorem dX10_placeWidths_36 : decode cX10_placeWidths 36 = .ok (.iload_n 1, 1) := by decide +kernel
theorem dX10_placeWidths_37 : decode cX10_placeWidths 37 = .ok (.iaload, 1) := by decide +kernel
theorem dX10_placeWidths_38 : decode cX10_placeWidths 38 = .ok (.aload_n 0, 1) := by decide +kernel
theorem dX10_placeWidths_39 : decode cX10_placeWidths 39 = .ok (.getfield 27, 3) := by decide +kernel
theorem dX10_placeWidths_42 : decode cX10_placeWidths 42 = .ok (.if_icmp .gt 34, 3) := by decide +kernel
theorem dX10_placeWidths_45 : decode cX10_placeWidths 45 = .ok (.aload_n 0, 1) := by decide +kernel
theorem dX10_placeWidths_46 : decode cX10_placeWidths 46 = .ok (.aload_n 0, 1) := by decide +kernel
theorem dX10_placeWidths_47 : decode cX10_placeWidths 47 = .ok (.getfield 38, 3) := by decide +kernel
theorem dX10_placeWidths_50 : decode cX10_placeWidths 50 = .ok (.getfield 75, 3) := by decide +kernel
theorem dX10_placeWidths_53 : decode cX10_placeWidths 53 = .ok (.iload_n 1, 1) := by decide +kernel
theorem dX10_placeWidths_54 : decode cX10_placeWidths 54 = .ok (.iaload, 1) := by decide +kernel
theorem dX10_placeWidths_55 : decode cX10_placeWidths 55 = .ok (.aload_n 0, 1) := by decide +kernel
theorem dX10_placeWidths_56 : decode cX10_placeWidths 56 = .ok (.getfield 38, 3) := by decide +kernel
theorem dX10_placeWidths_59 : decode cX10_placeWidths 59 = .ok (.getfield 78, 3) := by decide +kernel
theorem dX10_placeWidths_62 : decode cX10_placeWidths 62 = .ok (.iload_n 1, 1) := by decide +kernel
theorem dX10_placeWidths_63 : decode cX10_placeWidths 63 = .ok (.iaload, 1) := by decide +kernel
theorem dX10_placeWidths_64 : decode cX10_placeWidths 64 = .ok (.aload_n 0, 1) := by decide +kernel
theorem dX10_placeWidths_65 : decode cX10_placeWidths 65 = .ok (.getfield 38, 3) := by decide +kernel
theorem dX10_placeWidths_68 : decode cX10_placeWidths 68 = .ok (.getfield 81, 3) := by decide +kernel
theorem dX10_placeWidths_71 : decode cX10_placeWidths 71 = .ok (.iload_n 1, 1) := by decide +kernel
theorem dX10_placeWidths_72 : decode cX10_placeWidths 72 = .ok (.iaload, 1) := by decide +kernel
theorem dX10_placeWidths_73 : decode cX10_placeWidths 73 = .ok (.invokevirtual 84, 3) := by decide +kernel
theorem dX10_placeWidths_76 : decode cX10_placeWidths 76 = .ok (.iinc 1 1, 3) := by decide +kernel
theorem dX10_placeWidths_79 : decode cX10_placeWidths 79 = .ok (.goto (-61), 3) := by decide +kernel
theorem dX10_placeWidths_82 : decode cX10_placeWidths 82 = .ok (.return_, 1) := by decide +kernel
theorem dX10_placeWidth_0 : decode cX10_placeWidth 0 = .ok (.iload_n 1, 1) := by decide +kernel
theorem dX10_placeWidth_1 : decode cX10_placeWidth 1 = .ok (.invokestatic 88, 3) := by decide +kernel
theorem dX10_placeWidth_4 : decode cX10_placeWidth 4 = .ok (.ifCond .eq 13, 3) := by decide +kernel
theorem dX10_placeWidth_7 : decode cX10_placeWidth 7 = .ok (.iload_n 2, 1) := by decide +kernel
theorem dX10_placeWidth_8 : decode cX10_placeWidth 8 = .ok (.iconst 0, 1) := by decide +kernel
theorem dX10_placeWidth_9 : decode cX10_placeWidth 9 = .ok (.bipush 7, 2) := by decide +kernel
theorem dX10_placeWidth_11 : decode cX10_placeWidth 11 = .ok (.invokestatic 92, 3) := by decide +kernel
theorem dX10_placeWidth_14 : decode cX10_placeWidth 14 = .ok (.ifCond .ne 4, 3) := by decide +kernel
theorem dX10_placeWidth_17 : decode cX10_placeWidth 17 = .ok (.return_, 1) := by decide +kernel
theorem dX10_placeWidth_18 : decode cX10_placeWidth 18 = .ok (.iload_n 1, 1) := by decide +kernel
theorem dX10_placeWidth_19 : decode cX10_placeWidth 19 = .ok (.bipush 8, 2) := by decide +kernel
theorem dX10_placeWidth_21 : decode cX10_placeWidth 21 = .ok (.imul, 1) := by decide +kernel
theorem dX10_placeWidth_22 : decode cX10_placeWidth 22 = .ok (.iload_n 2, 1) := by decide +kernel
theorem dX10_placeWidth_23 : decode cX10_placeWidth 23 = .ok (.iadd, 1) := by decide +kernel
theorem dX10_placeWidth_24 : decode cX10_placeWidth 24 = .ok (.istore 4, 2) := by decide +kernel
theorem dX10_placeWidth_26 : decode cX10_placeWidth 26 = .ok (.aload_n 0, 1) := by decide +kernel
theorem dX10_placeWidth_27 : decode cX10_placeWidth 27 = .ok (.getfield 9, 3) := by decide +kernel
theorem dX10_placeWidth_30 : decode cX10_placeWidth 30 = .ok (.iload 4, 2) := by decide +kernel
theorem dX10_placeWidth_32 : decode cX10_placeWidth 32 = .ok (.iaload, 1) := by decide +kernel
theorem dX10_placeWidth_33 : decode cX10_placeWidth 33 = .ok (.ifCond .ne 13, 3) := by decide +kernel
theorem dX10_placeWidth_36 : decode cX10_placeWidth 36 = .ok (.aload_n 0, 1) := by decide +kernel
theorem dX10_placeWidth_37 : decode cX10_placeWidth 37 = .ok (.getfield 15, 3) := by decide +kernel
theorem dX10_placeWidth_40 : decode cX10_placeWidth 40 = .ok (.iload_n 1, 1) := by decide +kernel
theorem dX10_placeWidth_41 : decode cX10_placeWidth 41 = .ok (.dup2, 1) := by decide +kernel
theorem dX10_placeWidth_42 : decode cX10_placeWidth 42 = .ok (.iaload, 1) := by decide +kernel
theorem dX10_placeWidth_43 : decode cX10_placeWidth 43 = .ok (.iconst 1, 1) := by decide +kernel
theorem dX10_placeWidth_44 : decode cX10_placeWidth 44 = .ok (.iadd, 1) := by decide +kernel
theorem dX10_placeWidth_45 : decode cX10_placeWidth 45 = .ok (.iastore, 1) := by decide +kernel
theorem dX10_placeWidth_46 : decode cX10_placeWidth 46 = .ok (.aload_n 0, 1) := by decide +kernel
theorem dX10_placeWidth_47 : decode cX10_placeWidth 47 = .ok (.getfield 9, 3) := by decide +kernel
theorem dX10_placeWidth_50 : decode cX10_placeWidth 50 = .ok (.iload 4, 2) := by decide +kernel
theorem dX10_placeWidth_52 : decode cX10_placeWidth 52 = .ok (.iload_n 3, 1) := by decide +kernel
theorem dX10_placeWidth_53 : decode cX10_placeWidth 53 = .ok (.iastore, 1) := by decide +kernel
theorem dX10_placeWidth_54 : decode cX10_placeWidth 54 = .ok (.return_, 1) := by decide +kernel
theorem dX10_findLeaning_0 : decode cX10_findLeaning 0 = .ok (.iconst 0, 1) := by decide +kernel
theorem dX10_findLeaning_1 : decode cX10_findLeaning 1 = .ok (.istore_n 2, 1) := by decide +kernel
theorem dX10_findLeaning_2 : decode cX10_findLeaning 2 = .ok (.aload_n 0, 1) := by decide +kernel
theorem dX10_findLeaning_3 : decode cX10_findLeaning 3 = .ok (.invokevirtual 49, 3) := by decide +kernel
theorem dX10_findLeaning_6 : decode cX10_findLeaning 6 = .ok (.istore_n 3, 1) := by decide +kernel
theorem dX10_findLeaning_7 : decode cX10_findLeaning 7 = .ok (.iconst 0, 1) := by decide +kernel
theorem dX10_findLeaning_8 : decode cX10_findLeaning 8 = .ok (.istore 4, 2) := by decide +kernel
theorem dX10_findLeaning_10 : decode cX10_findLeaning 10 = .ok (.iload 4, 2) := by decide +kernel
theorem dX10_findLeaning_12 : decode cX10_findLeaning 12 = .ok (.iload_n 3, 1) := by decide +kernel
theorem dX10_findLeaning_13 : decode cX10_findLeaning 13 = .ok (.if_icmp .ge 62, 3) := by decide +kernel
theorem dX10_findLeaning_16 : decode cX10_findLeaning 16 = .ok (.aload_n 0, 1) := by decide +kernel
theorem dX10_findLeaning_17 : decode cX10_findLeaning 17 = .ok (.getfield 15, 3) := by decide +kernel
theorem dX10_findLeaning_20 : decode cX10_findLeaning 20 = .ok (.iload 4, 2) := by decide +kernel
theorem dX10_findLeaning_22 : decode cX10_findLeaning 22 = .ok (.iaload, 1) := by decide +kernel
theorem dX10_findLeaning_23 : decode cX10_findLeaning 23 = .ok (.iconst 2, 1) := by decide +kernel
theorem dX10_findLeaning_24 : decode cX10_findLeaning 24 = .ok (.if_icmp .ge 7, 3) := by decide +kernel
theorem dX10_findLeaning_27 : decode cX10_findLeaning 27 = .ok (.iconst 0, 1) := by decide +kernel
theorem dX10_findLeaning_28 : decode cX10_findLeaning 28 = .ok (.goto 15, 3) := by decide +kernel
theorem dX10_findLeaning_31 : decode cX10_findLeaning 31 = .ok (.aload_n 0, 1) := by decide +kernel
theorem dX10_findLeaning_32 : decode cX10_findLeaning 32 = .ok (.getfield 9, 3) := by decide +kernel
theorem dX10_findLeaning_35 : decode cX10_findLeaning 35 = .ok (.iload 4, 2) := by decide +kernel
theorem dX10_findLeaning_37 : decode cX10_findLeaning 37 = .ok (.bipush 8, 2) := by decide +kernel
theorem dX10_findLeaning_39 : decode cX10_findLeaning 39 = .ok (.imul, 1) := by decide +kernel
theorem dX10_findLeaning_40 : decode cX10_findLeaning 40 = .ok (.iload_n 1, 1) := by decide +kernel
theorem dX10_findLeaning_41 : decode cX10_findLeaning 41 = .ok (.iadd, 1) := by decide +kernel
theorem dX10_findLeaning_42 : decode cX10_findLeaning 42 = .ok (.iaload, 1) := by decide +kernel
theorem dX10_findLeaning_43 : decode cX10_findLeaning 43 = .ok (.istore 5, 2) := by decide +kernel
theorem dX10_findLeaning_45 : decode cX10_findLeaning 45 = .ok (.iload 5, 2) := by decide +kernel
theorem dX10_findLeaning_47 : decode cX10_findLeaning 47 = .ok (.ifCond .le 22, 3) := by decide +kernel
theorem dX10_findLeaning_50 : decode cX10_findLeaning 50 = .ok (.aload_n 0, 1) := by decide +kernel
theorem dX10_findLeaning_51 : decode cX10_findLeaning 51 = .ok (.getfield 24, 3) := by decide +kernel
theorem dX10_findLeaning_54 : decode cX10_findLeaning 54 = .ok (.iload_n 2, 1) := by decide +kernel
theorem dX10_findLeaning_55 : decode cX10_findLeaning 55 = .ok (.iload 5, 2) := by decide +kernel
theorem dX10_findLeaning_57 : decode cX10_findLeaning 57 = .ok (.aload_n 0, 1) := by decide +kernel
theorem dX10_findLeaning_58 : decode cX10_findLeaning 58 = .ok (.getfield 18, 3) := by decide +kernel
theorem dX10_findLeaning_61 : decode cX10_findLeaning 61 = .ok (.iload 4, 2) := by decide +kernel
theorem dX10_findLeaning_63 : decode cX10_findLeaning 63 = .ok (.iaload, 1) := by decide +kernel
theorem dX10_findLeaning_64 : decode cX10_findLeaning 64 = .ok (.isub, 1) := by decide +kernel
theorem dX10_findLeaning_65 : decode cX10_findLeaning 65 = .ok (.iastore, 1) := by decide +kernel
theorem dX10_findLeaning_66 : decode cX10_findLeaning 66 = .ok (.iinc 2 1, 3) := by decide +kernel
theorem dX10_findLeaning_69 : decode cX10_findLeaning 69 = .ok (.iinc 4 1, 3) := by decide +kernel
theorem dX10_findLeaning_72 : decode cX10_findLeaning 72 = .ok (.goto (-62), 3) := by decide +kernel
theorem dX10_findLeaning_75 : decode cX10_findLeaning 75 = .ok (.aload_n 0, 1) := by decide +kernel
theorem dX10_findLeaning_76 : decode cX10_findLeaning 76 = .ok (.iload_n 2, 1) := by decide +kernel
theorem dX10_findLeaning_77 : decode cX10_findLeaning 77 = .ok (.invokevirtual 96, 3) := by decide +kernel
theorem dX10_findLeaning_80 : decode cX10_findLeaning 80 = .ok (.ireturn, 1) := by decide +kernel
theorem dX10_middleLess_0 : decode cX10_middleLess 0 = .ok (.iconst 0, 1) := by decide +kernel
theorem dX10_middleLess_1 : decode cX10_middleLess 1 = .ok (.istore_n 3, 1) := by decide +kernel
theorem dX10_middleLess_2 : decode cX10_middleLess 2 = .ok (.iconst 0, 1) := by decide +kernel
theorem dX10_middleLess_3 : decode cX10_middleLess 3 = .ok (.istore 4, 2) := by decide +kernel
theorem dX10_middleLess_5 : decode cX10_middleLess 5 = .ok (.iload 4, 2) := by decide +kernel
theorem dX10_middleLess_7 : decode cX10_middleLess 7 = .ok (.bipush 8, 2) := by decide +kernel
theorem dX10_middleLess_9 : decode cX10_middleLess 9 = .ok (.if_icmp .ge 56, 3) := by decide +kernel
theorem dX10_middleLess_12 : decode cX10_middleLess 12 = .ok (.aload_n 0, 1) := by decide +kernel
theorem dX10_middleLess_13 : decode cX10_middleLess 13 = .ok (.getfield 9, 3) := by decide +kernel
theorem dX10_middleLess_16 : decode cX10_middleLess 16 = .ok (.iload_n 1, 1) := by decide +kernel
theorem dX10_middleLess_17 : decode cX10_middleLess 17 = .ok (.bipush 8, 2) := by decide +kernel
theorem dX10_middleLess_19 : decode cX10_middleLess 19 = .ok (.imul, 1) := by decide +kernel
theorem dX10_middleLess_20 : decode cX10_middleLess 20 = .ok (.iload 4, 2) := by decide +kernel
theorem dX10_middleLess_22 : decode cX10_middleLess 22 = .ok (.iadd, 1) := by decide +kernel
theorem dX10_middleLess_23 : decode cX10_middleLess 23 = .ok (.iaload, 1) := by decide +kernel
theorem dX10_middleLess_24 : decode cX10_middleLess 24 = .ok (.istore 5, 2) := by decide +kernel
theorem dX10_middleLess_26 : decode cX10_middleLess 26 = .ok (.iload 5, 2) := by decide +kernel
theorem dX10_middleLess_28 : decode cX10_middleLess 28 = .ok (.ifCond .le 31, 3) := by decide +kernel
theorem dX10_middleLess_31 : decode cX10_middleLess 31 = .ok (.aload_n 0, 1) := by decide +kernel
theorem dX10_middleLess_32 : decode cX10_middleLess 32 = .ok (.getfield 24, 3) := by decide +kernel
theorem dX10_middleLess_35 : decode cX10_middleLess 35 = .ok (.iload_n 3, 1) := by decide +kernel
theorem dX10_middleLess_36 : decode cX10_middleLess 36 = .ok (.iload_n 2, 1) := by decide +kernel
theorem dX10_middleLess_37 : decode cX10_middleLess 37 = .ok (.ifCond .eq 16, 3) := by decide +kernel
theorem dX10_middleLess_40 : decode cX10_middleLess 40 = .ok (.iload 5, 2) := by decide +kernel
theorem dX10_middleLess_42 : decode cX10_middleLess 42 = .ok (.aload_n 0, 1) := by decide +kernel
theorem dX10_middleLess_43 : decode cX10_middleLess 43 = .ok (.getfield 21, 3) := by decide +kernel
theorem dX10_middleLess_46 : decode cX10_middleLess 46 = .ok (.iload 4, 2) := by decide +kernel
theorem dX10_middleLess_48 : decode cX10_middleLess 48 = .ok (.iaload, 1) := by decide +kernel
theorem dX10_middleLess_49 : decode cX10_middleLess 49 = .ok (.isub, 1) := by decide +kernel
theorem dX10_middleLess_50 : decode cX10_middleLess 50 = .ok (.goto 5, 3) := by decide +kernel
theorem dX10_middleLess_53 : decode cX10_middleLess 53 = .ok (.iload 5, 2) := by decide +kernel
theorem dX10_middleLess_55 : decode cX10_middleLess 55 = .ok (.iastore, 1) := by decide +kernel
theorem dX10_middleLess_56 : decode cX10_middleLess 56 = .ok (.iinc 3 1, 3) := by decide +kernel
theorem dX10_middleLess_59 : decode cX10_middleLess 59 = .ok (.iinc 4 1, 3) := by decide +kernel
theorem dX10_middleLess_62 : decode cX10_middleLess 62 = .ok (.goto (-57), 3) := by decide +kernel
theorem dX10_middleLess_65 : decode cX10_middleLess 65 = .ok (.aload_n 0, 1) := by decide +kernel
theorem dX10_middleLess_66 : decode cX10_middleLess 66 = .ok (.iload_n 3, 1) := by decide +kernel
theorem dX10_middleLess_67 : decode cX10_middleLess 67 = .ok (.invokevirtual 96, 3) := by decide +kernel
theorem dX10_middleLess_70 : decode cX10_middleLess 70 = .ok (.ireturn, 1) := by decide +kernel
theorem dX10_middleOfRow_0 : decode cX10_middleOfRow 0 = .ok (.iload_n 1, 1) := by decide +kernel
theorem dX10_middleOfRow_1 : decode cX10_middleOfRow 1 = .ok (.iconst 1, 1) := by decide +kernel
theorem dX10_middleOfRow_2 : decode cX10_middleOfRow 2 = .ok (.sipush 300, 3) := by decide +kernel
theorem dX10_middleOfRow_5 : decode cX10_middleOfRow 5 = .ok (.invokestatic 92, 3) := by decide +kernel
theorem dX10_middleOfRow_8 : decode cX10_middleOfRow 8 = .ok (.ifCond .ne 5, 3) := by decide +kernel
theorem dX10_middleOfRow_11 : decode cX10_middleOfRow 11 = .ok (.iconst 0, 1) := by decide +kernel
theorem dX10_middleOfRow_12 : decode cX10_middleOfRow 12 = .ok (.ireturn, 1) := by decide +kernel
theorem dX10_middleOfRow_13 : decode cX10_middleOfRow 13 = .ok (.iconst 1, 1) := by decide +kernel
theorem dX10_middleOfRow_14 : decode cX10_middleOfRow 14 = .ok (.istore_n 2, 1) := by decide +kernel
theorem dX10_middleOfRow_15 : decode cX10_middleOfRow 15 = .ok (.iload_n 2, 1) := by decide +kernel
theorem dX10_middleOfRow_16 : decode cX10_middleOfRow 16 = .ok (.iload_n 1, 1) := by decide +kernel
theorem dX10_middleOfRow_17 : decode cX10_middleOfRow 17 = .ok (.if_icmp .ge 67, 3) := by decide +kernel
theorem dX10_middleOfRow_20 : decode cX10_middleOfRow 20 = .ok (.aload_n 0, 1) := by decide +kernel
theorem dX10_middleOfRow_21 : decode cX10_middleOfRow 21 = .ok (.getfield 24, 3) := by decide +kernel
theorem dX10_middleOfRow_24 : decode cX10_middleOfRow 24 = .ok (.iload_n 2, 1) := by decide +kernel
theorem dX10_middleOfRow_25 : decode cX10_middleOfRow 25 = .ok (.iaload, 1) := by decide +kernel
theorem dX10_middleOfRow_26 : decode cX10_middleOfRow 26 = .ok (.istore_n 3, 1) := by decide +kernel
theorem dX10_middleOfRow_27 : decode cX10_middleOfRow 27 = .ok (.iload_n 2, 1) := by decide +kernel
theorem dX10_middleOfRow_28 : decode cX10_middleOfRow 28 = .ok (.istore 4, 2) := by decide +kernel
theorem dX10_middleOfRow_30 : decode cX10_middleOfRow 30 = .ok (.iload 4, 2) := by decide +kernel
theorem dX10_middleOfRow_32 : decode cX10_middleOfRow 32 = .ok (.ifCond .le 38, 3) := by decide +kernel
theorem dX10_middleOfRow_35 : decode cX10_middleOfRow 35 = .ok (.aload_n 0, 1) := by decide +kernel
theorem dX10_middleOfRow_36 : decode cX10_middleOfRow 36 = .ok (.getfield 24, 3) := by decide +kernel
theorem dX10_middleOfRow_39 : decode cX10_middleOfRow 39 = .ok (.iload 4, 2) := by decide +kernel
theorem dX10_middleOfRow_41 : decode cX10_middleOfRow 41 = .ok (.iconst 1, 1) := by decide +kernel
theorem dX10_middleOfRow_42 : decode cX10_middleOfRow 42 = .ok (.isub, 1) := by decide +kernel
theorem dX10_middleOfRow_43 : decode cX10_middleOfRow 43 = .ok (.iaload, 1) := by decide +kernel
theorem dX10_middleOfRow_44 : decode cX10_middleOfRow 44 = .ok (.iload_n 3, 1) := by decide +kernel
theorem dX10_middleOfRow_45 : decode cX10_middleOfRow 45 = .ok (.if_icmp .le 25, 3) := by decide +kernel
theorem dX10_middleOfRow_48 : decode cX10_middleOfRow 48 = .ok (.aload_n 0, 1) := by decide +kernel
theorem dX10_middleOfRow_49 : decode cX10_middleOfRow 49 = .ok (.getfield 24, 3) := by decide +kernel
theorem dX10_middleOfRow_52 : decode cX10_middleOfRow 52 = .ok (.iload 4, 2) := by decide +kernel
theorem dX10_middleOfRow_54 : decode cX10_middleOfRow 54 = .ok (.aload_n 0, 1) := by decide +kernel
theorem dX10_middleOfRow_55 : decode cX10_middleOfRow 55 = .ok (.getfield 24, 3) := by decide +kernel
theorem dX10_middleOfRow_58 : decode cX10_middleOfRow 58 = .ok (.iload 4, 2) := by decide +kernel
theorem dX10_middleOfRow_60 : decode cX10_middleOfRow 60 = .ok (.iconst 1, 1) := by decide +kernel
theorem dX10_middleOfRow_61 : decode cX10_middleOfRow 61 = .ok (.isub, 1) := by decide +kernel
theorem dX10_middleOfRow_62 : decode cX10_middleOfRow 62 = .ok (.iaload, 1) := by decide +kernel
theorem dX10_middleOfRow_63 : decode cX10_middleOfRow 63 = .ok (.iastore, 1) := by decide +kernel
theorem dX10_middleOfRow_64 : decode cX10_middleOfRow 64 = .ok (.iinc 4 (-1), 3) := by decide +kernel
theorem dX10_middleOfRow_67 : decode cX10_middleOfRow 67 = .ok (.goto (-37), 3) := by decide +kernel
theorem dX10_middleOfRow_70 : decode cX10_middleOfRow 70 = .ok (.aload_n 0, 1) := by decide +kernel
theorem dX10_middleOfRow_71 : decode cX10_middleOfRow 71 = .ok (.getfield 24, 3) := by decide +kernel
theorem dX10_middleOfRow_74 : decode cX10_middleOfRow 74 = .ok (.iload 4, 2) := by decide +kernel
theorem dX10_middleOfRow_76 : decode cX10_middleOfRow 76 = .ok (.iload_n 3, 1) := by decide +kernel
theorem dX10_middleOfRow_77 : decode cX10_middleOfRow 77 = .ok (.iastore, 1) := by decide +kernel
theorem dX10_middleOfRow_78 : decode cX10_middleOfRow 78 = .ok (.iinc 2 1, 3) := by decide +kernel
theorem dX10_middleOfRow_81 : decode cX10_middleOfRow 81 = .ok (.goto (-66), 3) := by decide +kernel
theorem dX10_middleOfRow_84 : decode cX10_middleOfRow 84 = .ok (.aload_n 0, 1) := by decide +kernel
theorem dX10_middleOfRow_85 : decode cX10_middleOfRow 85 = .ok (.getfield 24, 3) := by decide +kernel
theorem dX10_middleOfRow_88 : decode cX10_middleOfRow 88 = .ok (.iload_n 1, 1) := by decide +kernel
theorem dX10_middleOfRow_89 : decode cX10_middleOfRow 89 = .ok (.iconst 1, 1) := by decide +kernel
theorem dX10_middleOfRow_90 : decode cX10_middleOfRow 90 = .ok (.isub, 1) := by decide +kernel
theorem dX10_middleOfRow_91 : decode cX10_middleOfRow 91 = .ok (.iconst 2, 1) := by decide +kernel
theorem dX10_middleOfRow_92 : decode cX10_middleOfRow 92 = .ok (.idiv, 1) := by decide +kernel
theorem dX10_middleOfRow_93 : decode cX10_middleOfRow 93 = .ok (.iaload, 1) := by decide +kernel
theorem dX10_middleOfRow_94 : decode cX10_middleOfRow 94 = .ok (.ireturn, 1) := by decide +kernel
theorem dX10_cellsInUse_0 : decode cX10_cellsInUse 0 = .ok (.sipush 300, 3) := by decide +kernel
theorem dX10_cellsInUse_3 : decode cX10_cellsInUse 3 = .ok (.aload_n 0, 1) := by decide +kernel
theorem dX10_cellsInUse_4 : decode cX10_cellsInUse 4 = .ok (.getfield 34, 3) := by decide +kernel
theorem dX10_cellsInUse_7 : decode cX10_cellsInUse 7 = .ok (.getfield 99, 3) := by decide +kernel
theorem dX10_cellsInUse_10 : decode cX10_cellsInUse 10 = .ok (.bipush 10, 2) := by decide +kernel
theorem dX10_cellsInUse_12 : decode cX10_cellsInUse 12 = .ok (.imul, 1) := by decide +kernel
theorem dX10_cellsInUse_13 : decode cX10_cellsInUse 13 = .ok (.invokestatic 102, 3) := by decide +kernel
theorem dX10_cellsInUse_16 : decode cX10_cellsInUse 16 = .ok (.ireturn, 1) := by decide +kernel
theorem dX10_isCell_0 : decode cX10_isCell 0 = .ok (.iload_n 0, 1) := by decide +kernel
theorem dX10_isCell_1 : decode cX10_isCell 1 = .ok (.iconst 0, 1) := by decide +kernel
theorem dX10_isCell_2 : decode cX10_isCell 2 = .ok (.sipush 299, 3) := by decide +kernel
theorem dX10_isCell_5 : decode cX10_isCell 5 = .ok (.invokestatic 92, 3) := by decide +kernel
theorem dX10_isCell_8 : decode cX10_isCell 8 = .ok (.ireturn, 1) := by decide +kernel
theorem dX10_handsOf_0 : decode cX10_handsOf 0 = .ok (.iload_n 1, 1) := by decide +kernel
theorem dX10_handsOf_1 : decode cX10_handsOf 1 = .ok (.invokestatic 88, 3) := by decide +kernel
theorem dX10_handsOf_4 : decode cX10_handsOf 4 = .ok (.ifCond .eq 12, 3) := by decide +kernel
theorem dX10_handsOf_7 : decode cX10_handsOf 7 = .ok (.aload_n 0, 1) := by decide +kernel
theorem dX10_handsOf_8 : decode cX10_handsOf 8 = .ok (.getfield 15, 3) := by decide +kernel
theorem dX10_handsOf_11 : decode cX10_handsOf 11 = .ok (.iload_n 1, 1) := by decide +kernel
theorem dX10_handsOf_12 : decode cX10_handsOf 12 = .ok (.iaload, 1) := by decide +kernel
theorem dX10_handsOf_13 : decode cX10_handsOf 13 = .ok (.goto 4, 3) := by decide +kernel
theorem dX10_handsOf_16 : decode cX10_handsOf 16 = .ok (.iconst 0, 1) := by decide +kernel
theorem dX10_handsOf_17 : decode cX10_handsOf 17 = .ok (.ireturn, 1) := by decide +kernel
theorem dX10_rawWidth_0 : decode cX10_rawWidth 0 = .ok (.iload_n 1, 1) := by decide +kernel
theorem dX10_rawWidth_1 : decode cX10_rawWidth 1 = .ok (.invokestatic 88, 3) := by decide +kernel
theorem dX10_rawWidth_4 : decode cX10_rawWidth 4 = .ok (.ifCond .eq 12, 3) := by decide +kernel
theorem dX10_rawWidth_7 : decode cX10_rawWidth 7 = .ok (.aload_n 0, 1) := by decide +kernel
theorem dX10_rawWidth_8 : decode cX10_rawWidth 8 = .ok (.getfield 18, 3) := by decide +kernel
theorem dX10_rawWidth_11 : decode cX10_rawWidth 11 = .ok (.iload_n 1, 1) := by decide +kernel
theorem dX10_rawWidth_12 : decode cX10_rawWidth 12 = .ok (.iaload, 1) := by decide +kernel
theorem dX10_rawWidth_13 : decode cX10_rawWidth 13 = .ok (.goto 4, 3) := by decide +kernel
theorem dX10_rawWidth_16 : decode cX10_rawWidth 16 = .ok (.iconst 0, 1) := by decide +kernel
theorem dX10_rawWidth_17 : decode cX10_rawWidth 17 = .ok (.ireturn, 1) := by decide +kernel
theorem dX10_trueWidth_0 : decode cX10_trueWidth 0 = .ok (.iload_n 1, 1) := by decide +kernel
theorem dX10_trueWidth_1 : decode cX10_trueWidth 1 = .ok (.invokestatic 88, 3) := by decide +kernel
theorem dX10_trueWidth_4 : decode cX10_trueWidth 4 = .ok (.ifCond .eq 16, 3) := by decide +kernel
theorem dX10_trueWidth_7 : decode cX10_trueWidth 7 = .ok (.iconst 1, 1) := by decide +kernel
theorem dX10_trueWidth_8 : decode cX10_trueWidth 8 = .ok (.aload_n 0, 1) := by decide +kernel
theorem dX10_trueWidth_9 : decode cX10_trueWidth 9 = .ok (.iload_n 1, 1) := by decide +kernel
theorem dX10_trueWidth_10 : decode cX10_trueWidth 10 = .ok (.iconst 1, 1) := by decide +kernel
theorem dX10_trueWidth_11 : decode cX10_trueWidth 11 = .ok (.invokevirtual 53, 3) := by decide +kernel
theorem dX10_trueWidth_14 : decode cX10_trueWidth 14 = .ok (.invokestatic 108, 3) := by decide +kernel
theorem dX10_trueWidth_17 : decode cX10_trueWidth 17 = .ok (.goto 4, 3) := by decide +kernel
theorem dX10_trueWidth_20 : decode cX10_trueWidth 20 = .ok (.iconst 0, 1) := by decide +kernel
theorem dX10_trueWidth_21 : decode cX10_trueWidth 21 = .ok (.ireturn, 1) := by decide +kernel
theorem dX10_leaningOf_0 : decode cX10_leaningOf 0 = .ok (.iload_n 1, 1) := by decide +kernel
theorem dX10_leaningOf_1 : decode cX10_leaningOf 1 = .ok (.iconst 0, 1) := by decide +kernel
theorem dX10_leaningOf_2 : decode cX10_leaningOf 2 = .ok (.bipush 7, 2) := by decide +kernel
theorem dX10_leaningOf_4 : decode cX10_leaningOf 4 = .ok (.invokestatic 92, 3) := by decide +kernel
theorem dX10_leaningOf_7 : decode cX10_leaningOf 7 = .ok (.ifCond .eq 12, 3) := by decide +kernel
theorem dX10_leaningOf_10 : decode cX10_leaningOf 10 = .ok (.aload_n 0, 1) := by decide +kernel
theorem dX10_leaningOf_11 : decode cX10_leaningOf 11 = .ok (.getfield 21, 3) := by decide +kernel
theorem dX10_leaningOf_14 : decode cX10_leaningOf 14 = .ok (.iload_n 1, 1) := by decide +kernel
theorem dX10_leaningOf_15 : decode cX10_leaningOf 15 = .ok (.iaload, 1) := by decide +kernel
theorem dX10_leaningOf_16 : decode cX10_leaningOf 16 = .ok (.goto 6, 3) := by decide +kernel
theorem dX10_leaningOf_19 : decode cX10_leaningOf 19 = .ok (.sipush (-1000), 3) := by decide +kernel
theorem dX10_leaningOf_22 : decode cX10_leaningOf 22 = .ok (.ireturn, 1) := by decide +kernel
theorem dX10_spread_0 : decode cX10_spread 0 = .ok (.aload_n 0, 1) := by decide +kernel
theorem dX10_spread_1 : decode cX10_spread 1 = .ok (.iload_n 1, 1) := by decide +kernel
theorem dX10_spread_2 : decode cX10_spread 2 = .ok (.invokevirtual 111, 3) := by decide +kernel
theorem dX10_spread_5 : decode cX10_spread 5 = .ok (.ifCond .ne 5, 3) := by decide +kernel
theorem dX10_spread_8 : decode cX10_spread 8 = .ok (.iconst 0, 1) := by decide +kernel
theorem dX10_spread_9 : decode cX10_spread 9 = .ok (.ireturn, 1) := by decide +kernel
theorem dX10_spread_10 : decode cX10_spread 10 = .ok (.sipush 400, 3) := by decide +kernel
theorem dX10_spread_13 : decode cX10_spread 13 = .ok (.istore_n 2, 1) := by decide +kernel
theorem dX10_spread_14 : decode cX10_spread 14 = .ok (.iconst 0, 1) := by decide +kernel
theorem dX10_spread_15 : decode cX10_spread 15 = .ok (.istore_n 3, 1) := by decide +kernel
theorem dX10_spread_16 : decode cX10_spread 16 = .ok (.iconst 0, 1) := by decide +kernel
theorem dX10_spread_17 : decode cX10_spread 17 = .ok (.istore 4, 2) := by decide +kernel
theorem dX10_spread_19 : decode cX10_spread 19 = .ok (.iload 4, 2) := by decide +kernel
theorem dX10_spread_21 : decode cX10_spread 21 = .ok (.bipush 8, 2) := by decide +kernel
theorem dX10_spread_23 : decode cX10_spread 23 = .ok (.if_icmp .ge 42, 3) := by decide +kernel
theorem dX10_spread_26 : decode cX10_spread 26 = .ok (.aload_n 0, 1) := by decide +kernel
theorem dX10_spread_27 : decode cX10_spread 27 = .ok (.getfield 9, 3) := by decide +kernel
theorem dX10_spread_30 : decode cX10_spread 30 = .ok (.iload_n 1, 1) := by decide +kernel
theorem dX10_spread_31 : decode cX10_spread 31 = .ok (.bipush 8, 2) := by decide +kernel
theorem dX10_spread_33 : decode cX10_spread 33 = .ok (.imul, 1) := by decide +kernel
theorem dX10_spread_34 : decode cX10_spread 34 = .ok (.iload 4, 2) := by decide +kernel
theorem dX10_spread_36 : decode cX10_spread 36 = .ok (.iadd, 1) := by decide +kernel
theorem dX10_spread_37 : decode cX10_spread 37 = .ok (.iaload, 1) := by decide +kernel
theorem dX10_spread_38 : decode cX10_spread 38 = .ok (.istore 5, 2) := by decide +kernel
theorem dX10_spread_40 : decode cX10_spread 40 = .ok (.iload 5, 2) := by decide +kernel
theorem dX10_spread_42 : decode cX10_spread 42 = .ok (.ifCond .le 17, 3) := by decide +kernel
theorem dX10_spread_45 : decode cX10_spread 45 = .ok (.iload_n 2, 1) := by decide +kernel
theorem dX10_spread_46 : decode cX10_spread 46 = .ok (.iload 5, 2) := by decide +kernel
theorem dX10_spread_48 : decode cX10_spread 48 = .ok (.invokestatic 102, 3) := by decide +kernel
theorem dX10_spread_51 : decode cX10_spread 51 = .ok (.istore_n 2, 1) := by decide +kernel
theorem dX10_spread_52 : decode cX10_spread 52 = .ok (.iload_n 3, 1) := by decide +kernel
theorem dX10_spread_53 : decode cX10_spread 53 = .ok (.iload 5, 2) := by decide +kernel
theorem dX10_spread_55 : decode cX10_spread 55 = .ok (.invokestatic 108, 3) := by decide +kernel
theorem dX10_spread_58 : decode cX10_spread 58 = .ok (.istore_n 3, 1) := by decide +kernel
theorem dX10_spread_59 : decode cX10_spread 59 = .ok (.iinc 4 1, 3) := by decide +kernel
theorem dX10_spread_62 : decode cX10_spread 62 = .ok (.goto (-43), 3) := by decide +kernel
theorem dX10_spread_65 : decode cX10_spread 65 = .ok (.iload_n 3, 1) := by decide +kernel
theorem dX10_spread_66 : decode cX10_spread 66 = .ok (.iload_n 2, 1) := by decide +kernel
theorem dX10_spread_67 : decode cX10_spread 67 = .ok (.isub, 1) := by decide +kernel
theorem dX10_spread_68 : decode cX10_spread 68 = .ok (.ireturn, 1) := by decide +kernel
theorem dX10_many_0 : decode cX10_many 0 = .ok (.iconst 0, 1) := by decide +kernel
theorem dX10_many_1 : decode cX10_many 1 = .ok (.istore_n 2, 1) := by decide +kernel
theorem dX10_many_2 : decode cX10_many 2 = .ok (.iconst 0, 1) := by decide +kernel
theorem dX10_many_3 : decode cX10_many 3 = .ok (.istore_n 3, 1) := by decide +kernel
theorem dX10_many_4 : decode cX10_many 4 = .ok (.iload_n 3, 1) := by decide +kernel
theorem dX10_many_5 : decode cX10_many 5 = .ok (.bipush 10, 2) := by decide +kernel
theorem dX10_many_7 : decode cX10_many 7 = .ok (.if_icmp .ge 25, 3) := by decide +kernel
theorem dX10_many_10 : decode cX10_many 10 = .ok (.aload_n 0, 1) := by decide +kernel
theorem dX10_many_11 : decode cX10_many 11 = .ok (.iload_n 1, 1) := by decide +kernel
theorem dX10_many_12 : decode cX10_many 12 = .ok (.bipush 10, 2) := by decide +kernel
theorem dX10_many_14 : decode cX10_many 14 = .ok (.imul, 1) := by decide +kernel
theorem dX10_many_15 : decode cX10_many 15 = .ok (.iload_n 3, 1) := by decide +kernel
theorem dX10_many_16 : decode cX10_many 16 = .ok (.iadd, 1) := by decide +kernel
theorem dX10_many_17 : decode cX10_many 17 = .ok (.invokevirtual 111, 3) := by decide +kernel
theorem dX10_many_20 : decode cX10_many 20 = .ok (.ifCond .le 6, 3) := by decide +kernel
theorem dX10_many_23 : decode cX10_many 23 = .ok (.iinc 2 1, 3) := by decide +kernel
theorem dX10_many_26 : decode cX10_many 26 = .ok (.iinc 3 1, 3) := by decide +kernel
theorem dX10_many_29 : decode cX10_many 29 = .ok (.goto (-25), 3) := by decide +kernel
theorem dX10_many_32 : decode cX10_many 32 = .ok (.iload_n 2, 1) := by decide +kernel
theorem dX10_many_33 : decode cX10_many 33 = .ok (.ireturn, 1) := by decide +kernel
theorem dX10_isSeen_0 : decode cX10_isSeen 0 = .ok (.aload_n 0, 1) := by decide +kernel
theorem dX10_isSeen_1 : decode cX10_isSeen 1 = .ok (.getfield 34, 3) := by decide +kernel
theorem dX10_isSeen_4 : decode cX10_isSeen 4 = .ok (.iload_n 1, 1) := by decide +kernel
theorem dX10_isSeen_5 : decode cX10_isSeen 5 = .ok (.invokevirtual 114, 3) := by decide +kernel
theorem dX10_isSeen_8 : decode cX10_isSeen 8 = .ok (.ifCond .eq 31, 3) := by decide +kernel
theorem dX10_isSeen_11 : decode cX10_isSeen 11 = .ok (.aload_n 0, 1) := by decide +kernel
theorem dX10_isSeen_12 : decode cX10_isSeen 12 = .ok (.getfield 34, 3) := by decide +kernel
theorem dX10_isSeen_15 : decode cX10_isSeen 15 = .ok (.getfield 117, 3) := by decide +kernel
theorem dX10_isSeen_18 : decode cX10_isSeen 18 = .ok (.iload_n 1, 1) := by decide +kernel
theorem dX10_isSeen_19 : decode cX10_isSeen 19 = .ok (.iaload, 1) := by decide +kernel
theorem dX10_isSeen_20 : decode cX10_isSeen 20 = .ok (.aload_n 0, 1) := by decide +kernel
theorem dX10_isSeen_21 : decode cX10_isSeen 21 = .ok (.getfield 27, 3) := by decide +kernel
theorem dX10_isSeen_24 : decode cX10_isSeen 24 = .ok (.if_icmp .le 11, 3) := by decide +kernel
theorem dX10_isSeen_27 : decode cX10_isSeen 27 = .ok (.aload_n 0, 1) := by decide +kernel
theorem dX10_isSeen_28 : decode cX10_isSeen 28 = .ok (.iload_n 1, 1) := by decide +kernel
theorem dX10_isSeen_29 : decode cX10_isSeen 29 = .ok (.invokevirtual 120, 3) := by decide +kernel
theorem dX10_isSeen_32 : decode cX10_isSeen 32 = .ok (.ifCond .le 7, 3) := by decide +kernel
theorem dX10_isSeen_35 : decode cX10_isSeen 35 = .ok (.iconst 1, 1) := by decide +kernel
theorem dX10_isSeen_36 : decode cX10_isSeen 36 = .ok (.goto 4, 3) := by decide +kernel
theorem dX10_isSeen_39 : decode cX10_isSeen 39 = .ok (.iconst 0, 1) := by decide +kernel
theorem dX10_isSeen_40 : decode cX10_isSeen 40 = .ok (.ireturn, 1) := by decide +kernel
theorem dX10_boardSize_0 : decode cX10_boardSize 0 = .ok (.iconst 0, 1) := by decide +kernel
theorem dX10_boardSize_1 : decode cX10_boardSize 1 = .ok (.istore_n 2, 1) := by decide +kernel
theorem dX10_boardSize_2 : decode cX10_boardSize 2 = .ok (.iconst 0, 1) := by decide +kernel
theorem dX10_boardSize_3 : decode cX10_boardSize 3 = .ok (.istore_n 3, 1) := by decide +kernel
theorem dX10_boardSize_4 : decode cX10_boardSize 4 = .ok (.iload_n 3, 1) := by decide +kernel
theorem dX10_boardSize_5 : decode cX10_boardSize 5 = .ok (.bipush 10, 2) := by decide +kernel
theorem dX10_boardSize_7 : decode cX10_boardSize 7 = .ok (.if_icmp .ge 44, 3) := by decide +kernel
theorem dX10_boardSize_10 : decode cX10_boardSize 10 = .ok (.iload_n 1, 1) := by decide +kernel
theorem dX10_boardSize_11 : decode cX10_boardSize 11 = .ok (.bipush 10, 2) := by decide +kernel
theorem dX10_boardSize_13 : decode cX10_boardSize 13 = .ok (.imul, 1) := by decide +kernel
theorem dX10_boardSize_14 : decode cX10_boardSize 14 = .ok (.iload_n 3, 1) := by decide +kernel
theorem dX10_boardSize_15 : decode cX10_boardSize 15 = .ok (.iadd, 1) := by decide +kernel
theorem dX10_boardSize_16 : decode cX10_boardSize 16 = .ok (.istore 4, 2) := by decide +kernel
theorem dX10_boardSize_18 : decode cX10_boardSize 18 = .ok (.aload_n 0, 1) := by decide +kernel
theorem dX10_boardSize_19 : decode cX10_boardSize 19 = .ok (.iload 4, 2) := by decide +kernel
theorem dX10_boardSize_21 : decode cX10_boardSize 21 = .ok (.invokevirtual 111, 3) := by decide +kernel
theorem dX10_boardSize_24 : decode cX10_boardSize 24 = .ok (.ifCond .le 21, 3) := by decide +kernel
theorem dX10_boardSize_27 : decode cX10_boardSize 27 = .ok (.iload_n 2, 1) := by decide +kernel
theorem dX10_boardSize_28 : decode cX10_boardSize 28 = .ok (.aload_n 0, 1) := by decide +kernel
theorem dX10_boardSize_29 : decode cX10_boardSize 29 = .ok (.getfield 42, 3) := by decide +kernel
theorem dX10_boardSize_32 : decode cX10_boardSize 32 = .ok (.aload_n 0, 1) := by decide +kernel
theorem dX10_boardSize_33 : decode cX10_boardSize 33 = .ok (.iload 4, 2) := by decide +kernel
theorem dX10_boardSize_35 : decode cX10_boardSize 35 = .ok (.invokevirtual 123, 3) := by decide +kernel
theorem dX10_boardSize_38 : decode cX10_boardSize 38 = .ok (.invokevirtual 126, 3) := by decide +kernel
theorem dX10_boardSize_41 : decode cX10_boardSize 41 = .ok (.invokestatic 108, 3) := by decide +kernel
theorem dX10_boardSize_44 : decode cX10_boardSize 44 = .ok (.istore_n 2, 1) := by decide +kernel
theorem dX10_boardSize_45 : decode cX10_boardSize 45 = .ok (.iinc 3 1, 3) := by decide +kernel
theorem dX10_boardSize_48 : decode cX10_boardSize 48 = .ok (.goto (-44), 3) := by decide +kernel
theorem dX10_boardSize_51 : decode cX10_boardSize 51 = .ok (.iload_n 2, 1) := by decide +kernel
theorem dX10_boardSize_52 : decode cX10_boardSize 52 = .ok (.ireturn, 1) := by decide +kernel
theorem dX11_init_0 : decode cX11_init 0 = .ok (.aload_n 0, 1) := by decide +kernel
theorem dX11_init_1 : decode cX11_init 1 = .ok (.invokespecial 3, 3) := by decide +kernel
theorem dX11_init_4 : decode cX11_init 4 = .ok (.aload_n 0, 1) := by decide +kernel
theorem dX11_init_5 : decode cX11_init 5 = .ok (.new 9, 3) := by decide +kernel
theorem dX11_init_8 : decode cX11_init 8 = .ok (.dup, 1) := by decide +kernel
theorem dX11_init_9 : decode cX11_init 9 = .ok (.invokespecial 11, 3) := by decide +kernel
theorem dX11_init_12 : decode cX11_init 12 = .ok (.putfield 12, 3) := by decide +kernel
theorem dX11_init_15 : decode cX11_init 15 = .ok (.aload_n 0, 1) := by decide +kernel
theorem dX11_init_16 : decode cX11_init 16 = .ok (.new 16, 3) := by decide +kernel
theorem dX11_init_19 : decode cX11_init 19 = .ok (.dup, 1) := by decide +kernel
theorem dX11_init_20 : decode cX11_init 20 = .ok (.invokespecial 18, 3) := by decide +kernel
theorem dX11_init_23 : decode cX11_init 23 = .ok (.putfield 19, 3) := by decide +kernel
theorem dX11_init_26 : decode cX11_init 26 = .ok (.aload_n 0, 1) := by decide +kernel
theorem dX11_init_27 : decode cX11_init 27 = .ok (.new 23, 3) := by decide +kernel
theorem dX11_init_30 : decode cX11_init 30 = .ok (.dup, 1) := by decide +kernel
theorem dX11_init_31 : decode cX11_init 31 = .ok (.invokespecial 25, 3) := by decide +kernel
theorem dX11_init_34 : decode cX11_init 34 = .ok (.putfield 26, 3) := by decide +kernel
theorem dX11_init_37 : decode cX11_init 37 = .ok (.aload_n 0, 1) := by decide +kernel
theorem dX11_init_38 : decode cX11_init 38 = .ok (.new 30, 3) := by decide +kernel
theorem dX11_init_41 : decode cX11_init 41 = .ok (.dup, 1) := by decide +kernel
theorem dX11_init_42 : decode cX11_init 42 = .ok (.aload_n 0, 1) := by decide +kernel
theorem dX11_init_43 : decode cX11_init 43 = .ok (.getfield 12, 3) := by decide +kernel
theorem dX11_init_46 : decode cX11_init 46 = .ok (.aload_n 0, 1) := by decide +kernel
theorem dX11_init_47 : decode cX11_init 47 = .ok (.getfield 19, 3) := by decide +kernel
theorem dX11_init_50 : decode cX11_init 50 = .ok (.aload_n 0, 1) := by decide +kernel
theorem dX11_init_51 : decode cX11_init 51 = .ok (.getfield 26, 3) := by decide +kernel
theorem dX11_init_54 : decode cX11_init 54 = .ok (.invokespecial 32, 3) := by decide +kernel
theorem dX11_init_57 : decode cX11_init 57 = .ok (.putfield 35, 3) := by decide +kernel
theorem dX11_init_60 : decode cX11_init 60 = .ok (.aload_n 0, 1) := by decide +kernel
theorem dX11_init_61 : decode cX11_init 61 = .ok (.new 39, 3) := by decide +kernel
theorem dX11_init_64 : decode cX11_init 64 = .ok (.dup, 1) := by decide +kernel
theorem dX11_init_65 : decode cX11_init 65 = .ok (.aload_n 0, 1) := by decide +kernel
theorem dX11_init_66 : decode cX11_init 66 = .ok (.getfield 12, 3) := by decide +kernel
theorem dX11_init_69 : decode cX11_init 69 = .ok (.invokespecial 41, 3) := by decide +kernel
theorem dX11_init_72 : decode cX11_init 72 = .ok (.putfield 44, 3) := by decide +kernel
theorem dX11_init_75 : decode cX11_init 75 = .ok (.aload_n 0, 1) := by decide +kernel
theorem dX11_init_76 : decode cX11_init 76 = .ok (.new 48, 3) := by decide +kernel
theorem dX11_init_79 : decode cX11_init 79 = .ok (.dup, 1) := by decide +kernel
theorem dX11_init_80 : decode cX11_init 80 = .ok (.aload_n 0, 1) := by decide +kernel
theorem dX11_init_81 : decode cX11_init 81 = .ok (.getfield 12, 3) := by decide +kernel
theorem dX11_init_84 : decode cX11_init 84 = .ok (.aload_n 0, 1) := by decide +kernel
theorem dX11_init_85 : decode cX11_init 85 = .ok (.getfield 35, 3) := by decide +kernel
theorem dX11_init_88 : decode cX11_init 88 = .ok (.invokespecial 50, 3) := by decide +kernel
theorem dX11_init_91 : decode cX11_init 91 = .ok (.putfield 53, 3) := by decide +kernel
theorem dX11_init_94 : decode cX11_init 94 = .ok (.aload_n 0, 1) := by decide +kernel
theorem dX11_init_95 : decode cX11_init 95 = .ok (.new 57, 3) := by decide +kernel
theorem dX11_init_98 : decode cX11_init 98 = .ok (.dup, 1) := by decide +kernel
theorem dX11_init_99 : decode cX11_init 99 = .ok (.invokespecial 59, 3) := by decide +kernel
theorem dX11_init_102 : decode cX11_init 102 = .ok (.putfield 60, 3) := by decide +kernel
theorem dX11_init_105 : decode cX11_init 105 = .ok (.aload_n 0, 1) := by decide +kernel
theorem dX11_init_106 : decode cX11_init 106 = .ok (.new 64, 3) := by decide +kernel
theorem dX11_init_109 : decode cX11_init 109 = .ok (.dup, 1) := by decide +kernel
theorem dX11_init_110 : decode cX11_init 110 = .ok (.invokespecial 66, 3) := by decide +kernel
theorem dX11_init_113 : decode cX11_init 113 = .ok (.putfield 67, 3) := by decide +kernel
theorem dX11_init_116 : decode cX11_init 116 = .ok (.aload_n 0, 1) := by decide +kernel
theorem dX11_init_117 : decode cX11_init 117 = .ok (.new 71, 3) := by decide +kernel
theorem dX11_init_120 : decode cX11_init 120 = .ok (.dup, 1) := by decide +kernel
theorem dX11_init_121 : decode cX11_init 121 = .ok (.aload_n 0, 1) := by decide +kernel
theorem dX11_init_122 : decode cX11_init 122 = .ok (.getfield 67, 3) := by decide +kernel
theorem dX11_init_125 : decode cX11_init 125 = .ok (.invokespecial 73, 3) := by decide +kernel
theorem dX11_init_128 : decode cX11_init 128 = .ok (.putfield 76, 3) := by decide +kernel
theorem dX11_init_131 : decode cX11_init 131 = .ok (.aload_n 0, 1) := by decide +kernel
theorem dX11_init_132 : decode cX11_init 132 = .ok (.new 80, 3) := by decide +kernel
theorem dX11_init_135 : decode cX11_init 135 = .ok (.dup, 1) := by decide +kernel
theorem dX11_init_136 : decode cX11_init 136 = .ok (.invokespecial 82, 3) := by decide +kernel
theorem dX11_init_139 : decode cX11_init 139 = .ok (.putfield 83, 3) := by decide +kernel
theorem dX11_init_142 : decode cX11_init 142 = .ok (.aload_n 0, 1) := by decide +kernel
theorem dX11_init_143 : decode cX11_init 143 = .ok (.new 87, 3) := by decide +kernel
theorem dX11_init_146 : decode cX11_init 146 = .ok (.dup, 1) := by decide +kernel
theorem dX11_init_147 : decode cX11_init 147 = .ok (.invokespecial 89, 3) := by decide +kernel
theorem dX11_init_150 : decode cX11_init 150 = .ok (.putfield 90, 3) := by decide +kernel
theorem dX11_init_153 : decode cX11_init 153 = .ok (.aload_n 0, 1) := by decide +kernel
theorem dX11_init_154 : decode cX11_init 154 = .ok (.new 87, 3) := by decide +kernel
theorem dX11_init_157 : decode cX11_init 157 = .ok (.dup, 1) := by decide +kernel
theorem dX11_init_158 : decode cX11_init 158 = .ok (.invokespecial 89, 3) := by decide +kernel
theorem dX11_init_161 : decode cX11_init 161 = .ok (.putfield 94, 3) := by decide +kernel
theorem dX11_init_164 : decode cX11_init 164 = .ok (.aload_n 0, 1) := by decide +kernel
theorem dX11_init_165 : decode cX11_init 165 = .ok (.iconst (-1), 1) := by decide +kernel
theorem dX11_init_166 : decode cX11_init 166 = .ok (.putfield 97, 3) := by decide +kernel
theorem dX11_init_169 : decode cX11_init 169 = .ok (.aload_n 0, 1) := by decide +kernel
theorem dX11_init_170 : decode cX11_init 170 = .ok (.iconst 0, 1) := by decide +kernel
theorem dX11_init_171 : decode cX11_init 171 = .ok (.putfield 101, 3) := by decide +kernel
theorem dX11_init_174 : decode cX11_init 174 = .ok (.return_, 1) := by decide +kernel
theorem dX11_board_0 : decode cX11_board 0 = .ok (.iload_n 1, 1) := by decide +kernel
theorem dX11_board_1 : decode cX11_board 1 = .ok (.iload_n 2, 1) := by decide +kernel
theorem dX11_board_2 : decode cX11_board 2 = .ok (.invokestatic 104, 3) := by decide +kernel
theorem dX11_board_5 : decode cX11_board 5 = .ok (.ifCond .ne 9, 3) := by decide +kernel
theorem dX11_board_8 : decode cX11_board 8 = .ok (.aload_n 0, 1) := by decide +kernel
theorem dX11_board_9 : decode cX11_board 9 = .ok (.iconst (-1), 1) := by decide +kernel
theorem dX11_board_10 : decode cX11_board 10 = .ok (.invokevirtual 108, 3) := by decide +kernel
theorem dX11_board_13 : decode cX11_board 13 = .ok (.ireturn, 1) := by decide +kernel
theorem dX11_board_14 : decode cX11_board 14 = .ok (.aload_n 0, 1) := by decide +kernel
theorem dX11_board_15 : decode cX11_board 15 = .ok (.getfield 12, 3) := by decide +kernel
theorem dX11_board_18 : decode cX11_board 18 = .ok (.getfield 112, 3) := by decide +kernel
theorem dX11_board_21 : decode cX11_board 21 = .ok (.bipush 30, 2) := by decide +kernel
theorem dX11_board_23 : decode cX11_board 23 = .ok (.if_icmp .lt 10, 3) := by decide +kernel
theorem dX11_board_26 : decode cX11_board 26 = .ok (.aload_n 0, 1) := by decide +kernel
theorem dX11_board_27 : decode cX11_board 27 = .ok (.bipush (-5), 2) := by decide +kernel
theorem dX11_board_29 : decode cX11_board 29 = .ok (.invokevirtual 108, 3) := by decide +kernel
theorem dX11_board_32 : decode cX11_board 32 = .ok (.ireturn, 1) := by decide +kernel
theorem dX11_board_33 : decode cX11_board 33 = .ok (.aload_n 0, 1) := by decide +kernel
theorem dX11_board_34 : decode cX11_board 34 = .ok (.aload_n 0, 1) := by decide +kernel
theorem dX11_board_35 : decode cX11_board 35 = .ok (.getfield 12, 3) := by decide +kernel
theorem dX11_board_38 : decode cX11_board 38 = .ok (.iload_n 1, 1) := by decide +kernel
theorem dX11_board_39 : decode cX11_board 39 = .ok (.iload_n 2, 1) := by decide +kernel
theorem dX11_board_40 : decode cX11_board 40 = .ok (.invokevirtual 115, 3) := by decide +kernel
theorem dX11_board_43 : decode cX11_board 43 = .ok (.invokevirtual 119, 3) := by decide +kernel
theorem dX11_board_46 : decode cX11_board 46 = .ok (.ireturn, 1) := by decide +kernel
theorem dX11_dent_0 : decode cX11_dent 0 = .ok (.iload_n 2, 1) := by decide +kernel
theorem dX11_dent_1 : decode cX11_dent 1 = .ok (.iconst 0, 1) := by decide +kernel
theorem dX11_dent_2 : decode cX11_dent 2 = .ok (.bipush 9, 2) := by decide +kernel
theorem dX11_dent_4 : decode cX11_dent 4 = .ok (.invokestatic 122, 3) := by decide +kernel
theorem dX11_dent_7 : decode cX11_dent 7 = .ok (.ifCond .eq 33, 3) := by decide +kernel
theorem dX11_dent_10 : decode cX11_dent 10 = .ok (.iload_n 3, 1) := by decide +kernel
theorem dX11_dent_11 : decode cX11_dent 11 = .ok (.iconst 0, 1) := by decide +kernel
theorem dX11_dent_12 : decode cX11_dent 12 = .ok (.bipush 7, 2) := by decide +kernel
theorem dX11_dent_14 : decode cX11_dent 14 = .ok (.invokestatic 122, 3) := by decide +kernel
theorem dX11_dent_17 : decode cX11_dent 17 = .ok (.ifCond .eq 23, 3) := by decide +kernel
theorem dX11_dent_20 : decode cX11_dent 20 = .ok (.iload 4, 2) := by decide +kernel
theorem dX11_dent_22 : decode cX11_dent 22 = .ok (.iconst 1, 1) := by decide +kernel
theorem dX11_dent_23 : decode cX11_dent 23 = .ok (.sipush 400, 3) := by decide +kernel
theorem dX11_dent_26 : decode cX11_dent 26 = .ok (.invokestatic 122, 3) := by decide +kernel
theorem dX11_dent_29 : decode cX11_dent 29 = .ok (.ifCond .eq 11, 3) := by decide +kernel
theorem dX11_dent_32 : decode cX11_dent 32 = .ok (.iload 5, 2) := by decide +kernel
theorem dX11_dent_34 : decode cX11_dent 34 = .ok (.invokestatic 126, 3) := by decide +kernel
theorem dX11_dent_37 : decode cX11_dent 37 = .ok (.ifCond .ne 9, 3) := by decide +kernel
theorem dX11_dent_40 : decode cX11_dent 40 = .ok (.aload_n 0, 1) := by decide +kernel
theorem dX11_dent_41 : decode cX11_dent 41 = .ok (.iconst (-1), 1) := by decide +kernel
theorem dX11_dent_42 : decode cX11_dent 42 = .ok (.invokevirtual 108, 3) := by decide +kernel
theorem dX11_dent_45 : decode cX11_dent 45 = .ok (.ireturn, 1) := by decide +kernel
theorem dX11_dent_46 : decode cX11_dent 46 = .ok (.aload_n 0, 1) := by decide +kernel
theorem dX11_dent_47 : decode cX11_dent 47 = .ok (.getfield 12, 3) := by decide +kernel
theorem dX11_dent_50 : decode cX11_dent 50 = .ok (.iload_n 1, 1) := by decide +kernel
theorem dX11_dent_51 : decode cX11_dent 51 = .ok (.invokevirtual 130, 3) := by decide +kernel
theorem dX11_dent_54 : decode cX11_dent 54 = .ok (.ifCond .ne 10, 3) := by decide +kernel
theorem dX11_dent_57 : decode cX11_dent 57 = .ok (.aload_n 0, 1) := by decide +kernel
theorem dX11_dent_58 : decode cX11_dent 58 = .ok (.bipush (-2), 2) := by decide +kernel
theorem dX11_dent_60 : decode cX11_dent 60 = .ok (.invokevirtual 108, 3) := by decide +kernel
theorem dX11_dent_63 : decode cX11_dent 63 = .ok (.ireturn, 1) := by decide +kernel
theorem dX11_dent_64 : decode cX11_dent 64 = .ok (.aload_n 0, 1) := by decide +kernel
theorem dX11_dent_65 : decode cX11_dent 65 = .ok (.getfield 19, 3) := by decide +kernel
theorem dX11_dent_68 : decode cX11_dent 68 = .ok (.getfield 133, 3) := by decide +kernel
theorem dX11_dent_71 : decode cX11_dent 71 = .ok (.sipush 300, 3) := by decide +kernel
theorem dX11_dent_74 : decode cX11_dent 74 = .ok (.if_icmp .lt 10, 3) := by decide +kernel
theorem dX11_dent_77 : decode cX11_dent 77 = .ok (.aload_n 0, 1) := by decide +kernel
theorem dX11_dent_78 : decode cX11_dent 78 = .ok (.bipush (-5), 2) := by decide +kernel
theorem dX11_dent_80 : decode cX11_dent 80 = .ok (.invokevirtual 108, 3) := by decide +kernel
theorem dX11_dent_83 : decode cX11_dent 83 = .ok (.ireturn, 1) := by decide +kernel
theorem dX11_dent_84 : decode cX11_dent 84 = .ok (.aload_n 0, 1) := by decide +kernel
theorem dX11_dent_85 : decode cX11_dent 85 = .ok (.getfield 35, 3) := by decide +kernel
theorem dX11_dent_88 : decode cX11_dent 88 = .ok (.invokevirtual 134, 3) := by decide +kernel
theorem dX11_dent_91 : decode cX11_dent 91 = .ok (.aload_n 0, 1) := by decide +kernel
theorem dX11_dent_92 : decode cX11_dent 92 = .ok (.aload_n 0, 1) := by decide +kernel
theorem dX11_dent_93 : decode cX11_dent 93 = .ok (.getfield 19, 3) := by decide +kernel
theorem dX11_dent_96 : decode cX11_dent 96 = .ok (.iload_n 1, 1) := by decide +kernel
theorem dX11_dent_97 : decode cX11_dent 97 = .ok (.bipush 10, 2) := by decide +kernel
theorem dX11_dent_99 : decode cX11_dent 99 = .ok (.imul, 1) := by decide +kernel
theorem dX11_dent_100 : decode cX11_dent 100 = .ok (.iload_n 2, 1) := by decide +kernel
theorem dX11_dent_101 : decode cX11_dent 101 = .ok (.iadd, 1) := by decide +kernel
theorem dX11_dent_102 : decode cX11_dent 102 = .ok (.iload_n 3, 1) := by decide +kernel
theorem dX11_dent_103 : decode cX11_dent 103 = .ok (.iload 4, 2) := by decide +kernel
theorem dX11_dent_105 : decode cX11_dent 105 = .ok (.iload 5, 2) := by decide +kernel
theorem dX11_dent_107 : decode cX11_dent 107 = .ok (.invokevirtual 137, 3) := by decide +kernel
theorem dX11_dent_110 : decode cX11_dent 110 = .ok (.invokevirtual 119, 3) := by decide +kernel
theorem dX11_dent_113 : decode cX11_dent 113 = .ok (.ireturn, 1) := by decide +kernel
theorem dX11_clear_0 : decode cX11_clear 0 = .ok (.iload_n 2, 1) := by decide +kernel
theorem dX11_clear_1 : decode cX11_clear 1 = .ok (.invokestatic 126, 3) := by decide +kernel
theorem dX11_clear_4 : decode cX11_clear 4 = .ok (.ifCond .ne 9, 3) := by decide +kernel
theorem dX11_clear_7 : decode cX11_clear 7 = .ok (.aload_n 0, 1) := by decide +kernel
theorem dX11_clear_8 : decode cX11_clear 8 = .ok (.iconst (-1), 1) := by decide +kernel
theorem dX11_clear_9 : decode cX11_clear 9 = .ok (.invokevirtual 108, 3) := by decide +kernel
theorem dX11_clear_12 : decode cX11_clear 12 = .ok (.ireturn, 1) := by decide +kernel
theorem dX11_clear_13 : decode cX11_clear 13 = .ok (.aload_n 0, 1) := by decide +kernel
theorem dX11_clear_14 : decode cX11_clear 14 = .ok (.getfield 12, 3) := by decide +kernel
theorem dX11_clear_17 : decode cX11_clear 17 = .ok (.iload_n 1, 1) := by decide +kernel
theorem dX11_clear_18 : decode cX11_clear 18 = .ok (.invokevirtual 130, 3) := by decide +kernel
theorem dX11_clear_21 : decode cX11_clear 21 = .ok (.ifCond .ne 10, 3) := by decide +kernel
theorem dX11_clear_24 : decode cX11_clear 24 = .ok (.aload_n 0, 1) := by decide +kernel
theorem dX11_clear_25 : decode cX11_clear 25 = .ok (.bipush (-2), 2) := by decide +kernel
theorem dX11_clear_27 : decode cX11_clear 27 = .ok (.invokevirtual 108, 3) := by decide +kernel
theorem dX11_clear_30 : decode cX11_clear 30 = .ok (.ireturn, 1) := by decide +kernel
theorem dX11_clear_31 : decode cX11_clear 31 = .ok (.aload_n 0, 1) := by decide +kernel
theorem dX11_clear_32 : decode cX11_clear 32 = .ok (.getfield 12, 3) := by decide +kernel
theorem dX11_clear_35 : decode cX11_clear 35 = .ok (.iload_n 1, 1) := by decide +kernel
theorem dX11_clear_36 : decode cX11_clear 36 = .ok (.iload_n 2, 1) := by decide +kernel
theorem dX11_clear_37 : decode cX11_clear 37 = .ok (.invokevirtual 140, 3) := by decide +kernel
theorem dX11_clear_40 : decode cX11_clear 40 = .ok (.aload_n 0, 1) := by decide +kernel
theorem dX11_clear_41 : decode cX11_clear 41 = .ok (.iconst 0, 1) := by decide +kernel
theorem dX11_clear_42 : decode cX11_clear 42 = .ok (.invokevirtual 119, 3) := by decide +kernel
theorem dX11_clear_45 : decode cX11_clear 45 = .ok (.ireturn, 1) := by decide +kernel
theorem dX11_table_0 : decode cX11_table 0 = .ok (.iload_n 1, 1) := by decide +kernel
theorem dX11_table_1 : decode cX11_table 1 = .ok (.iconst 0, 1) := by decide +kernel
theorem dX11_table_2 : decode cX11_table 2 = .ok (.bipush 7, 2) := by decide +kernel
theorem dX11_table_4 : decode cX11_table 4 = .ok (.invokestatic 122, 3) := by decide +kernel
theorem dX11_table_7 : decode cX11_table 7 = .ok (.ifCond .eq 21, 3) := by decide +kernel
theorem dX11_table_10 : decode cX11_table 10 = .ok (.iload_n 2, 1) := by decide +kernel
theorem dX11_table_11 : decode cX11_table 11 = .ok (.iconst 0, 1) := by decide +kernel
theorem dX11_table_12 : decode cX11_table 12 = .ok (.sipush 400, 3) := by decide +kernel
theorem dX11_table_15 : decode cX11_table 15 = .ok (.invokestatic 122, 3) := by decide +kernel
theorem dX11_table_18 : decode cX11_table 18 = .ok (.ifCond .eq 10, 3) := by decide +kernel
theorem dX11_table_21 : decode cX11_table 21 = .ok (.iload_n 3, 1) := by decide +kernel
theorem dX11_table_22 : decode cX11_table 22 = .ok (.invokestatic 144, 3) := by decide +kernel
theorem dX11_table_25 : decode cX11_table 25 = .ok (.ifCond .ne 9, 3) := by decide +kernel
theorem dX11_table_28 : decode cX11_table 28 = .ok (.aload_n 0, 1) := by decide +kernel
theorem dX11_table_29 : decode cX11_table 29 = .ok (.iconst (-1), 1) := by decide +kernel
theorem dX11_table_30 : decode cX11_table 30 = .ok (.invokevirtual 108, 3) := by decide +kernel
theorem dX11_table_33 : decode cX11_table 33 = .ok (.ireturn, 1) := by decide +kernel
theorem dX11_table_34 : decode cX11_table 34 = .ok (.aload_n 0, 1) := by decide +kernel
theorem dX11_table_35 : decode cX11_table 35 = .ok (.getfield 26, 3) := by decide +kernel
theorem dX11_table_38 : decode cX11_table 38 = .ok (.iload_n 1, 1) := by decide +kernel
theorem dX11_table_39 : decode cX11_table 39 = .ok (.iload_n 2, 1) := by decide +kernel
theorem dX11_table_40 : decode cX11_table 40 = .ok (.iload_n 3, 1) := by decide +kernel
theorem dX11_table_41 : decode cX11_table 41 = .ok (.invokevirtual 147, 3) := by decide +kernel
theorem dX11_table_44 : decode cX11_table 44 = .ok (.aload_n 0, 1) := by decide +kernel
theorem dX11_table_45 : decode cX11_table 45 = .ok (.iconst 0, 1) := by decide +kernel
theorem dX11_table_46 : decode cX11_table 46 = .ok (.invokevirtual 119, 3) := by decide +kernel
theorem dX11_table_49 : decode cX11_table 49 = .ok (.ireturn, 1) := by decide +kernel
theorem dX11_of_0 : decode cX11_of 0 = .ok (.aload_n 0, 1) := by decide +kernel
theorem dX11_of_1 : decode cX11_of 1 = .ok (.getfield 12, 3) := by decide +kernel
theorem dX11_of_4 : decode cX11_of 4 = .ok (.iload_n 1, 1) := by decide +kernel
theorem dX11_of_5 : decode cX11_of 5 = .ok (.invokevirtual 130, 3) := by decide +kernel
theorem dX11_of_8 : decode cX11_of 8 = .ok (.ifCond .eq 20, 3) := by decide +kernel
theorem dX11_of_11 : decode cX11_of 11 = .ok (.iload_n 2, 1) := by decide +kernel
theorem dX11_of_12 : decode cX11_of 12 = .ok (.iconst 0, 1) := by decide +kernel
theorem dX11_of_13 : decode cX11_of 13 = .ok (.bipush 9, 2) := by decide +kernel
theorem dX11_of_15 : decode cX11_of 15 = .ok (.invokestatic 122, 3) := by decide +kernel
theorem dX11_of_18 : decode cX11_of 18 = .ok (.ifCond .eq 10, 3) := by decide +kernel
theorem dX11_of_21 : decode cX11_of 21 = .ok (.iload_n 3, 1) := by decide +kernel
theorem dX11_of_22 : decode cX11_of 22 = .ok (.invokestatic 126, 3) := by decide +kernel
theorem dX11_of_25 : decode cX11_of 25 = .ok (.ifCond .ne 5, 3) := by decide +kernel
theorem dX11_of_28 : decode cX11_of 28 = .ok (.iconst (-1), 1) := by decide +kernel
theorem dX11_of_29 : decode cX11_of 29 = .ok (.ireturn, 1) := by decide +kernel
theorem dX11_of_30 : decode cX11_of 30 = .ok (.aload_n 0, 1) := by decide +kernel
theorem dX11_of_31 : decode cX11_of 31 = .ok (.getfield 35, 3) := by decide +kernel
theorem dX11_of_34 : decode cX11_of 34 = .ok (.iload_n 3, 1) := by decide +kernel
theorem dX11_of_35 : decode cX11_of 35 = .ok (.invokevirtual 151, 3) := by decide +kernel
theorem dX11_of_38 : decode cX11_of 38 = .ok (.iload_n 1, 1) := by decide +kernel
theorem dX11_of_39 : decode cX11_of 39 = .ok (.bipush 10, 2) := by decide +kernel
theorem dX11_of_41 : decode cX11_of 41 = .ok (.imul, 1) := by decide +kernel
theorem dX11_of_42 : decode cX11_of 42 = .ok (.iload_n 2, 1) := by decide +kernel
theorem dX11_of_43 : decode cX11_of 43 = .ok (.iadd, 1) := by decide +kernel
theorem dX11_of_44 : decode cX11_of 44 = .ok (.istore 5, 2) := by decide +kernel
theorem dX11_of_46 : decode cX11_of 46 = .ok (.aload_n 0, 1) := by decide +kernel
theorem dX11_of_47 : decode cX11_of 47 = .ok (.getfield 35, 3) := by decide +kernel
theorem dX11_of_50 : decode cX11_of 50 = .ok (.iload 5, 2) := by decide +kernel
theorem dX11_of_52 : decode cX11_of 52 = .ok (.invokevirtual 155, 3) := by decide +kernel
theorem dX11_of_55 : decode cX11_of 55 = .ok (.ifCond .ne 5, 3) := by decide +kernel
theorem dX11_of_58 : decode cX11_of 58 = .ok (.iconst (-1), 1) := by decide +kernel
theorem dX11_of_59 : decode cX11_of 59 = .ok (.ireturn, 1) := by decide +kernel
theorem dX11_of_60 : decode cX11_of 60 = .ok (.iload 4, 2) := by decide +kernel
theorem dX11_of_62 : decode cX11_of 62 = .ok (.tableswitch 77 0 3 #[30, 40, 50, 67], 30) := by decide +kernel
theorem dX11_of_92 : decode cX11_of 92 = .ok (.aload_n 0, 1) := by decide +kernel
theorem dX11_of_93 : decode cX11_of 93 = .ok (.getfield 35, 3) := by decide +kernel
theorem dX11_of_96 : decode cX11_of 96 = .ok (.iload 5, 2) := by decide +kernel
theorem dX11_of_98 : decode cX11_of 98 = .ok (.invokevirtual 158, 3) := by decide +kernel
theorem dX11_of_101 : decode cX11_of 101 = .ok (.ireturn, 1) := by decide +kernel
theorem dX11_of_102 : decode cX11_of 102 = .ok (.aload_n 0, 1) := by decide +kernel
theorem dX11_of_103 : decode cX11_of 103 = .ok (.getfield 35, 3) := by decide +kernel
theorem dX11_of_106 : decode cX11_of 106 = .ok (.iload 5, 2) := by decide +kernel
theorem dX11_of_108 : decode cX11_of 108 = .ok (.invokevirtual 161, 3) := by decide +kernel
theorem dX11_of_111 : decode cX11_of 111 = .ok (.ireturn, 1) := by decide +kernel
theorem dX11_of_112 : decode cX11_of 112 = .ok (.aload_n 0, 1) := by decide +kernel
theorem dX11_of_113 : decode cX11_of 113 = .ok (.getfield 26, 3) := by decide +kernel
theorem dX11_of_116 : decode cX11_of 116 = .ok (.aload_n 0, 1) := by decide +kernel
theorem dX11_of_117 : decode cX11_of 117 = .ok (.getfield 35, 3) := by decide +kernel
theorem dX11_of_120 : decode cX11_of 120 = .ok (.iload 5, 2) := by decide +kernel
theorem dX11_of_122 : decode cX11_of 122 = .ok (.invokevirtual 161, 3) := by decide +kernel
theorem dX11_of_125 : decode cX11_of 125 = .ok (.invokevirtual 164, 3) := by decide +kernel
theorem dX11_of_128 : decode cX11_of 128 = .ok (.ireturn, 1) := by decide +kernel
theorem dX11_of_129 : decode cX11_of 129 = .ok (.aload_n 0, 1) := by decide +kernel
theorem dX11_of_130 : decode cX11_of 130 = .ok (.getfield 35, 3) := by decide +kernel
theorem dX11_of_133 : decode cX11_of 133 = .ok (.iload 5, 2) := by decide +kernel
theorem dX11_of_135 : decode cX11_of 135 = .ok (.invokevirtual 155, 3) := by decide +kernel
theorem dX11_of_138 : decode cX11_of 138 = .ok (.ireturn, 1) := by decide +kernel
theorem dX11_of_139 : decode cX11_of 139 = .ok (.iconst (-1), 1) := by decide +kernel
theorem dX11_of_140 : decode cX11_of 140 = .ok (.ireturn, 1) := by decide +kernel
theorem dX11_leaning_0 : decode cX11_leaning 0 = .ok (.iload_n 1, 1) := by decide +kernel
theorem dX11_leaning_1 : decode cX11_leaning 1 = .ok (.iconst 0, 1) := by decide +kernel
theorem dX11_leaning_2 : decode cX11_leaning 2 = .ok (.bipush 7, 2) := by decide +kernel
theorem dX11_leaning_4 : decode cX11_leaning 4 = .ok (.invokestatic 122, 3) := by decide +kernel
theorem dX11_leaning_7 : decode cX11_leaning 7 = .ok (.ifCond .eq 10, 3) := by decide +kernel
theorem dX11_leaning_10 : decode cX11_leaning 10 = .ok (.iload_n 2, 1) := by decide +kernel
theorem dX11_leaning_11 : decode cX11_leaning 11 = .ok (.invokestatic 126, 3) := by decide +kernel
theorem dX11_leaning_14 : decode cX11_leaning 14 = .ok (.ifCond .ne 7, 3) := by decide +kernel
theorem dX11_leaning_17 : decode cX11_leaning 17 = .ok (.sipush (-1000), 3) := by decide +kernel
theorem dX11_leaning_20 : decode cX11_leaning 20 = .ok (.ireturn, 1) := by decide +kernel
theorem dX11_leaning_21 : decode cX11_leaning 21 = .ok (.aload_n 0, 1) := by decide +kernel
theorem dX11_leaning_22 : decode cX11_leaning 22 = .ok (.getfield 35, 3) := by decide +kernel
theorem dX11_leaning_25 : decode cX11_leaning 25 = .ok (.iload_n 2, 1) := by decide +kernel
theorem dX11_leaning_26 : decode cX11_leaning 26 = .ok (.invokevirtual 151, 3) := by decide +kernel
theorem dX11_leaning_29 : decode cX11_leaning 29 = .ok (.aload_n 0, 1) := by decide +kernel
theorem dX11_leaning_30 : decode cX11_leaning 30 = .ok (.getfield 35, 3) := by decide +kernel
theorem dX11_leaning_33 : decode cX11_leaning 33 = .ok (.iload_n 1, 1) := by decide +kernel
theorem dX11_leaning_34 : decode cX11_leaning 34 = .ok (.invokevirtual 167, 3) := by decide +kernel
theorem dX11_leaning_37 : decode cX11_leaning 37 = .ok (.ireturn, 1) := by decide +kernel
theorem dX11_seen_0 : decode cX11_seen 0 = .ok (.aload_n 0, 1) := by decide +kernel
theorem dX11_seen_1 : decode cX11_seen 1 = .ok (.getfield 12, 3) := by decide +kernel
theorem dX11_seen_4 : decode cX11_seen 4 = .ok (.iload_n 1, 1) := by decide +kernel
theorem dX11_seen_5 : decode cX11_seen 5 = .ok (.invokevirtual 130, 3) := by decide +kernel
theorem dX11_seen_8 : decode cX11_seen 8 = .ok (.ifCond .eq 10, 3) := by decide +kernel
theorem dX11_seen_11 : decode cX11_seen 11 = .ok (.iload_n 2, 1) := by decide +kernel
theorem dX11_seen_12 : decode cX11_seen 12 = .ok (.invokestatic 126, 3) := by decide +kernel
theorem dX11_seen_15 : decode cX11_seen 15 = .ok (.ifCond .ne 5, 3) := by decide +kernel
theorem dX11_seen_18 : decode cX11_seen 18 = .ok (.iconst (-1), 1) := by decide +kernel
theorem dX11_seen_19 : decode cX11_seen 19 = .ok (.ireturn, 1) := by decide +kernel
theorem dX11_seen_20 : decode cX11_seen 20 = .ok (.aload_n 0, 1) := by decide +kernel
theorem dX11_seen_21 : decode cX11_seen 21 = .ok (.getfield 35, 3) := by decide +kernel
theorem dX11_seen_24 : decode cX11_seen 24 = .ok (.iload_n 2, 1) := by decide +kernel
theorem dX11_seen_25 : decode cX11_seen 25 = .ok (.invokevirtual 151, 3) := by decide +kernel
theorem dX11_seen_28 : decode cX11_seen 28 = .ok (.iload_n 3, 1) := by decide +kernel
theorem dX11_seen_29 : decode cX11_seen 29 = .ok (.tableswitch 77 0 2 #[27, 51, 60], 27) := by decide +kernel
theorem dX11_seen_56 : decode cX11_seen 56 = .ok (.aload_n 0, 1) := by decide +kernel
theorem dX11_seen_57 : decode cX11_seen 57 = .ok (.getfield 35, 3) := by decide +kernel
theorem dX11_seen_60 : decode cX11_seen 60 = .ok (.iload_n 1, 1) := by decide +kernel
theorem dX11_seen_61 : decode cX11_seen 61 = .ok (.invokevirtual 170, 3) := by decide +kernel
theorem dX11_seen_64 : decode cX11_seen 64 = .ok (.ifCond .eq 14, 3) := by decide +kernel
theorem dX11_seen_67 : decode cX11_seen 67 = .ok (.aload_n 0, 1) := by decide +kernel
theorem dX11_seen_68 : decode cX11_seen 68 = .ok (.getfield 35, 3) := by decide +kernel
theorem dX11_seen_71 : decode cX11_seen 71 = .ok (.iload_n 1, 1) := by decide +kernel
theorem dX11_seen_72 : decode cX11_seen 72 = .ok (.invokevirtual 173, 3) := by decide +kernel
theorem dX11_seen_75 : decode cX11_seen 75 = .ok (.goto 4, 3) := by decide +kernel
theorem dX11_seen_78 : decode cX11_seen 78 = .ok (.iconst (-1), 1) := by decide +kernel
theorem dX11_seen_79 : decode cX11_seen 79 = .ok (.ireturn, 1) := by decide +kernel
theorem dX11_seen_80 : decode cX11_seen 80 = .ok (.aload_n 0, 1) := by decide +kernel
theorem dX11_seen_81 : decode cX11_seen 81 = .ok (.getfield 35, 3) := by decide +kernel
theorem dX11_seen_84 : decode cX11_seen 84 = .ok (.iload_n 1, 1) := by decide +kernel
theorem dX11_seen_85 : decode cX11_seen 85 = .ok (.invokevirtual 176, 3) := by decide +kernel
theorem dX11_seen_88 : decode cX11_seen 88 = .ok (.ireturn, 1) := by decide +kernel
theorem dX11_seen_89 : decode cX11_seen 89 = .ok (.aload_n 0, 1) := by decide +kernel
theorem dX11_seen_90 : decode cX11_seen 90 = .ok (.getfield 35, 3) := by decide +kernel
theorem dX11_seen_93 : decode cX11_seen 93 = .ok (.iload_n 1, 1) := by decide +kernel
theorem dX11_seen_94 : decode cX11_seen 94 = .ok (.invokevirtual 170, 3) := by decide +kernel
theorem dX11_seen_97 : decode cX11_seen 97 = .ok (.ifCond .eq 7, 3) := by decide +kernel
theorem dX11_seen_100 : decode cX11_seen 100 = .ok (.iconst 1, 1) := by decide +kernel
theorem dX11_seen_101 : decode cX11_seen 101 = .ok (.goto 4, 3) := by decide +kernel
theorem dX11_seen_104 : decode cX11_seen 104 = .ok (.iconst 0, 1) := by decide +kernel
theorem dX11_seen_105 : decode cX11_seen 105 = .ok (.ireturn, 1) := by decide +kernel
theorem dX11_seen_106 : decode cX11_seen 106 = .ok (.iconst (-1), 1) := by decide +kernel
theorem dX11_seen_107 : decode cX11_seen 107 = .ok (.ireturn, 1) := by decide +kernel
theorem dX11_track_0 : decode cX11_track 0 = .ok (.iload_n 1, 1) := by decide +kernel
theorem dX11_track_1 : decode cX11_track 1 = .ok (.invokestatic 144, 3) := by decide +kernel
theorem dX11_track_4 : decode cX11_track 4 = .ok (.ifCond .eq 20, 3) := by decide +kernel
theorem dX11_track_7 : decode cX11_track 7 = .ok (.iload_n 2, 1) := by decide +kernel
theorem dX11_track_8 : decode cX11_track 8 = .ok (.iconst 0, 1) := by decide +kernel
theorem dX11_track_9 : decode cX11_track 9 = .ok (.bipush 20, 2) := by decide +kernel
theorem dX11_track_11 : decode cX11_track 11 = .ok (.invokestatic 122, 3) := by decide +kernel
theorem dX11_track_14 : decode cX11_track 14 = .ok (.ifCond .eq 10, 3) := by decide +kernel
theorem dX11_track_17 : decode cX11_track 17 = .ok (.iload_n 3, 1) := by decide +kernel
theorem dX11_track_18 : decode cX11_track 18 = .ok (.invokestatic 126, 3) := by decide +kernel
theorem dX11_track_21 : decode cX11_track 21 = .ok (.ifCond .ne 5, 3) := by decide +kernel
theorem dX11_track_24 : decode cX11_track 24 = .ok (.iconst (-1), 1) := by decide +kernel
theorem dX11_track_25 : decode cX11_track 25 = .ok (.ireturn, 1) := by decide +kernel
theorem dX11_track_26 : decode cX11_track 26 = .ok (.aload_n 0, 1) := by decide +kernel
theorem dX11_track_27 : decode cX11_track 27 = .ok (.getfield 35, 3) := by decide +kernel
theorem dX11_track_30 : decode cX11_track 30 = .ok (.iload_n 3, 1) := by decide +kernel
theorem dX11_track_31 : decode cX11_track 31 = .ok (.invokevirtual 151, 3) := by decide +kernel
theorem dX11_track_34 : decode cX11_track 34 = .ok (.iconst 0, 1) := by decide +kernel
theorem dX11_track_35 : decode cX11_track 35 = .ok (.istore 4, 2) := by decide +kernel
theorem dX11_track_37 : decode cX11_track 37 = .ok (.iload 4, 2) := by decide +kernel
theorem dX11_track_39 : decode cX11_track 39 = .ok (.aload_n 0, 1) := by decide +kernel
theorem dX11_track_40 : decode cX11_track 40 = .ok (.getfield 12, 3) := by decide +kernel
theorem dX11_track_43 : decode cX11_track 43 = .ok (.getfield 112, 3) := by decide +kernel
theorem dX11_track_46 : decode cX11_track 46 = .ok (.if_icmp .ge 48, 3) := by decide +kernel
theorem dX11_track_49 : decode cX11_track 49 = .ok (.aload_n 0, 1) := by decide +kernel
theorem dX11_track_50 : decode cX11_track 50 = .ok (.getfield 44, 3) := by decide +kernel
theorem dX11_track_53 : decode cX11_track 53 = .ok (.iload 4, 2) := by decide +kernel
theorem dX11_track_55 : decode cX11_track 55 = .ok (.aload_n 0, 1) := by decide +kernel
theorem dX11_track_56 : decode cX11_track 56 = .ok (.getfield 35, 3) := by decide +kernel
theorem dX11_track_59 : decode cX11_track 59 = .ok (.iload 4, 2) := by decide +kernel
theorem dX11_track_61 : decode cX11_track 61 = .ok (.invokevirtual 170, 3) := by decide +kernel
theorem dX11_track_64 : decode cX11_track 64 = .ok (.ifCond .eq 20, 3) := by decide +kernel
theorem dX11_track_67 : decode cX11_track 67 = .ok (.aload_n 0, 1) := by decide +kernel
theorem dX11_track_68 : decode cX11_track 68 = .ok (.getfield 35, 3) := by decide +kernel
theorem dX11_track_71 : decode cX11_track 71 = .ok (.iload 4, 2) := by decide +kernel
theorem dX11_track_73 : decode cX11_track 73 = .ok (.invokevirtual 173, 3) := by decide +kernel
theorem dX11_track_76 : decode cX11_track 76 = .ok (.iload_n 1, 1) := by decide +kernel
theorem dX11_track_77 : decode cX11_track 77 = .ok (.if_icmp .lt 7, 3) := by decide +kernel
theorem dX11_track_80 : decode cX11_track 80 = .ok (.iconst 1, 1) := by decide +kernel
theorem dX11_track_81 : decode cX11_track 81 = .ok (.goto 4, 3) := by decide +kernel
theorem dX11_track_84 : decode cX11_track 84 = .ok (.iconst 0, 1) := by decide +kernel
theorem dX11_track_85 : decode cX11_track 85 = .ok (.invokevirtual 179, 3) := by decide +kernel
theorem dX11_track_88 : decode cX11_track 88 = .ok (.iinc 4 1, 3) := by decide +kernel
theorem dX11_track_91 : decode cX11_track 91 = .ok (.goto (-54), 3) := by decide +kernel
theorem dX11_track_94 : decode cX11_track 94 = .ok (.aload_n 0, 1) := by decide +kernel
theorem dX11_track_95 : decode cX11_track 95 = .ok (.getfield 44, 3) := by decide +kernel
theorem dX11_track_98 : decode cX11_track 98 = .ok (.iload_n 2, 1) := by decide +kernel
theorem dX11_track_99 : decode cX11_track 99 = .ok (.invokevirtual 183, 3) := by decide +kernel
theorem dX11_track_102 : decode cX11_track 102 = .ok (.ireturn, 1) := by decide +kernel
theorem dX11_through_0 : decode cX11_through 0 = .ok (.iload_n 1, 1) := by decide +kernel
theorem dX11_through_1 : decode cX11_through 1 = .ok (.ifCond .ne 11, 3) := by decide +kernel
theorem dX11_through_4 : decode cX11_through 4 = .ok (.aload_n 0, 1) := by decide +kernel
theorem dX11_through_5 : decode cX11_through 5 = .ok (.getfield 44, 3) := by decide +kernel
theorem dX11_through_8 : decode cX11_through 8 = .ok (.getfield 186, 3) := by decide +kernel
theorem dX11_through_11 : decode cX11_through 11 = .ok (.ireturn, 1) := by decide +kernel
theorem dX11_through_12 : decode cX11_through 12 = .ok (.iload_n 1, 1) := by decide +kernel
theorem dX11_through_13 : decode cX11_through 13 = .ok (.iconst 1, 1) := by decide +kernel
theorem dX11_through_14 : decode cX11_through 14 = .ok (.if_icmp .ne 13, 3) := by decide +kernel
theorem dX11_through_17 : decode cX11_through 17 = .ok (.aload_n 0, 1) := by decide +kernel
theorem dX11_through_18 : decode cX11_through 18 = .ok (.getfield 44, 3) := by decide +kernel
theorem dX11_through_21 : decode cX11_through 21 = .ok (.getfield 189, 3) := by decide +kernel
theorem dX11_through_24 : decode cX11_through 24 = .ok (.goto 4, 3) := by decide +kernel
theorem dX11_through_27 : decode cX11_through 27 = .ok (.iconst (-1), 1) := by decide +kernel
theorem dX11_through_28 : decode cX11_through 28 = .ok (.ireturn, 1) := by decide +kernel
theorem dX11_within_0 : decode cX11_within 0 = .ok (.aload_n 0, 1) := by decide +kernel
theorem dX11_within_1 : decode cX11_within 1 = .ok (.getfield 12, 3) := by decide +kernel
theorem dX11_within_4 : decode cX11_within 4 = .ok (.iload_n 1, 1) := by decide +kernel
theorem dX11_within_5 : decode cX11_within 5 = .ok (.invokevirtual 130, 3) := by decide +kernel
theorem dX11_within_8 : decode cX11_within 8 = .ok (.ifCond .eq 13, 3) := by decide +kernel
theorem dX11_within_11 : decode cX11_within 11 = .ok (.aload_n 0, 1) := by decide +kernel
theorem dX11_within_12 : decode cX11_within 12 = .ok (.getfield 44, 3) := by decide +kernel
theorem dX11_within_15 : decode cX11_within 15 = .ok (.invokevirtual 192, 3) := by decide +kernel
theorem dX11_within_18 : decode cX11_within 18 = .ok (.ifCond .ne 5, 3) := by decide +kernel
theorem dX11_within_21 : decode cX11_within 21 = .ok (.iconst (-1), 1) := by decide +kernel
theorem dX11_within_22 : decode cX11_within 22 = .ok (.ireturn, 1) := by decide +kernel
theorem dX11_within_23 : decode cX11_within 23 = .ok (.aload_n 0, 1) := by decide +kernel
theorem dX11_within_24 : decode cX11_within 24 = .ok (.getfield 44, 3) := by decide +kernel
theorem dX11_within_27 : decode cX11_within 27 = .ok (.iload_n 1, 1) := by decide +kernel
theorem dX11_within_28 : decode cX11_within 28 = .ok (.invokevirtual 196, 3) := by decide +kernel
theorem dX11_within_31 : decode cX11_within 31 = .ok (.ifCond .eq 7, 3) := by decide +kernel
theorem dX11_within_34 : decode cX11_within 34 = .ok (.iconst 1, 1) := by decide +kernel
theorem dX11_within_35 : decode cX11_within 35 = .ok (.goto 4, 3) := by decide +kernel
theorem dX11_within_38 : decode cX11_within 38 = .ok (.iconst 0, 1) := by decide +kernel
theorem dX11_within_39 : decode cX11_within 39 = .ok (.ireturn, 1) := by decide +kernel
theorem dX11_map_0 : decode cX11_map 0 = .ok (.iload_n 1, 1) := by decide +kernel
theorem dX11_map_1 : decode cX11_map 1 = .ok (.iload_n 2, 1) := by decide +kernel
theorem dX11_map_2 : decode cX11_map 2 = .ok (.invokestatic 104, 3) := by decide +kernel
theorem dX11_map_5 : decode cX11_map 5 = .ok (.ifCond .eq 20, 3) := by decide +kernel
theorem dX11_map_8 : decode cX11_map 8 = .ok (.iload_n 3, 1) := by decide +kernel
theorem dX11_map_9 : decode cX11_map 9 = .ok (.invokestatic 126, 3) := by decide +kernel
theorem dX11_map_12 : decode cX11_map 12 = .ok (.ifCond .eq 13, 3) := by decide +kernel
theorem dX11_map_15 : decode cX11_map 15 = .ok (.iload 4, 2) := by decide +kernel
theorem dX11_map_17 : decode cX11_map 17 = .ok (.iconst 0, 1) := by decide +kernel
theorem dX11_map_18 : decode cX11_map 18 = .ok (.iconst 1, 1) := by decide +kernel
theorem dX11_map_19 : decode cX11_map 19 = .ok (.invokestatic 122, 3) := by decide +kernel
theorem dX11_map_22 : decode cX11_map 22 = .ok (.ifCond .ne 5, 3) := by decide +kernel
theorem dX11_map_25 : decode cX11_map 25 = .ok (.iconst (-1), 1) := by decide +kernel
theorem dX11_map_26 : decode cX11_map 26 = .ok (.ireturn, 1) := by decide +kernel
theorem dX11_map_27 : decode cX11_map 27 = .ok (.aload_n 0, 1) := by decide +kernel
theorem dX11_map_28 : decode cX11_map 28 = .ok (.getfield 35, 3) := by decide +kernel
theorem dX11_map_31 : decode cX11_map 31 = .ok (.iload_n 3, 1) := by decide +kernel
theorem dX11_map_32 : decode cX11_map 32 = .ok (.invokevirtual 151, 3) := by decide +kernel
theorem dX11_map_35 : decode cX11_map 35 = .ok (.aload_n 0, 1) := by decide +kernel
theorem dX11_map_36 : decode cX11_map 36 = .ok (.getfield 53, 3) := by decide +kernel
theorem dX11_map_39 : decode cX11_map 39 = .ok (.iload_n 1, 1) := by decide +kernel
theorem dX11_map_40 : decode cX11_map 40 = .ok (.iload_n 2, 1) := by decide +kernel
theorem dX11_map_41 : decode cX11_map 41 = .ok (.invokevirtual 199, 3) := by decide +kernel
theorem dX11_map_44 : decode cX11_map 44 = .ok (.ifCond .ne 5, 3) := by decide +kernel
theorem dX11_map_47 : decode cX11_map 47 = .ok (.iconst (-1), 1) := by decide +kernel
theorem dX11_map_48 : decode cX11_map 48 = .ok (.ireturn, 1) := by decide +kernel
theorem dX11_map_49 : decode cX11_map 49 = .ok (.iload 4, 2) := by decide +kernel
theorem dX11_map_51 : decode cX11_map 51 = .ok (.ifCond .ne 13, 3) := by decide +kernel
theorem dX11_map_54 : decode cX11_map 54 = .ok (.aload_n 0, 1) := by decide +kernel
theorem dX11_map_55 : decode cX11_map 55 = .ok (.getfield 53, 3) := by decide +kernel
theorem dX11_map_58 : decode cX11_map 58 = .ok (.invokevirtual 202, 3) := by decide +kernel
theorem dX11_map_61 : decode cX11_map 61 = .ok (.goto 10, 3) := by decide +kernel
theorem dX11_map_64 : decode cX11_map 64 = .ok (.aload_n 0, 1) := by decide +kernel
theorem dX11_map_65 : decode cX11_map 65 = .ok (.getfield 53, 3) := by decide +kernel
theorem dX11_map_68 : decode cX11_map 68 = .ok (.invokevirtual 206, 3) := by decide +kernel
theorem dX11_map_71 : decode cX11_map 71 = .ok (.ireturn, 1) := by decide +kernel
theorem dX11_radar_0 : decode cX11_radar 0 = .ok (.iload_n 1, 1) := by decide +kernel
theorem dX11_radar_1 : decode cX11_radar 1 = .ok (.iconst 0, 1) := by decide +kernel
theorem dX11_radar_2 : decode cX11_radar 2 = .ok (.bipush 7, 2) := by decide +kernel
theorem dX11_radar_4 : decode cX11_radar 4 = .ok (.invokestatic 122, 3) := by decide +kernel
theorem dX11_radar_7 : decode cX11_radar 7 = .ok (.ifCond .eq 23, 3) := by decide +kernel
theorem dX11_radar_10 : decode cX11_radar 10 = .ok (.iload_n 2, 1) := by decide +kernel
theorem dX11_radar_11 : decode cX11_radar 11 = .ok (.iconst 0, 1) := by decide +kernel
theorem dX11_radar_12 : decode cX11_radar 12 = .ok (.bipush 7, 2) := by decide +kernel
theorem dX11_radar_14 : decode cX11_radar 14 = .ok (.invokestatic 122, 3) := by decide +kernel
theorem dX11_radar_17 : decode cX11_radar 17 = .ok (.ifCond .eq 13, 3) := by decide +kernel
theorem dX11_radar_20 : decode cX11_radar 20 = .ok (.iload_n 3, 1) := by decide +kernel
theorem dX11_radar_21 : decode cX11_radar 21 = .ok (.iconst (-1), 1) := by decide +kernel
theorem dX11_radar_22 : decode cX11_radar 22 = .ok (.bipush 100, 2) := by decide +kernel
theorem dX11_radar_24 : decode cX11_radar 24 = .ok (.invokestatic 122, 3) := by decide +kernel
theorem dX11_radar_27 : decode cX11_radar 27 = .ok (.ifCond .ne 9, 3) := by decide +kernel
theorem dX11_radar_30 : decode cX11_radar 30 = .ok (.aload_n 0, 1) := by decide +kernel
theorem dX11_radar_31 : decode cX11_radar 31 = .ok (.iconst (-1), 1) := by decide +kernel
theorem dX11_radar_32 : decode cX11_radar 32 = .ok (.invokevirtual 108, 3) := by decide +kernel
theorem dX11_radar_35 : decode cX11_radar 35 = .ok (.ireturn, 1) := by decide +kernel
theorem dX11_radar_36 : decode cX11_radar 36 = .ok (.aload_n 0, 1) := by decide +kernel
theorem dX11_radar_37 : decode cX11_radar 37 = .ok (.getfield 60, 3) := by decide +kernel
theorem dX11_radar_40 : decode cX11_radar 40 = .ok (.iload_n 1, 1) := by decide +kernel
theorem dX11_radar_41 : decode cX11_radar 41 = .ok (.iload_n 2, 1) := by decide +kernel
theorem dX11_radar_42 : decode cX11_radar 42 = .ok (.iload_n 3, 1) := by decide +kernel
theorem dX11_radar_43 : decode cX11_radar 43 = .ok (.invokevirtual 209, 3) := by decide +kernel
theorem dX11_radar_46 : decode cX11_radar 46 = .ok (.aload_n 0, 1) := by decide +kernel
theorem dX11_radar_47 : decode cX11_radar 47 = .ok (.iconst 0, 1) := by decide +kernel
theorem dX11_radar_48 : decode cX11_radar 48 = .ok (.invokevirtual 119, 3) := by decide +kernel
theorem dX11_radar_51 : decode cX11_radar 51 = .ok (.ireturn, 1) := by decide +kernel
theorem dX11_off_0 : decode cX11_off 0 = .ok (.iload_n 1, 1) := by decide +kernel
theorem dX11_off_1 : decode cX11_off 1 = .ok (.iload_n 2, 1) := by decide +kernel
theorem dX11_off_2 : decode cX11_off 2 = .ok (.invokestatic 104, 3) := by decide +kernel
theorem dX11_off_5 : decode cX11_off 5 = .ok (.ifCond .eq 10, 3) := by decide +kernel
theorem dX11_off_8 : decode cX11_off 8 = .ok (.iload_n 3, 1) := by decide +kernel
theorem dX11_off_9 : decode cX11_off 9 = .ok (.invokestatic 126, 3) := by decide +kernel
theorem dX11_off_12 : decode cX11_off 12 = .ok (.ifCond .ne 7, 3) := by decide +kernel
theorem dX11_off_15 : decode cX11_off 15 = .ok (.sipush (-1000), 3) := by decide +kernel
theorem dX11_off_18 : decode cX11_off 18 = .ok (.ireturn, 1) := by decide +kernel
theorem dX11_off_19 : decode cX11_off 19 = .ok (.aload_n 0, 1) := by decide +kernel
theorem dX11_off_20 : decode cX11_off 20 = .ok (.getfield 60, 3) := by decide +kernel
theorem dX11_off_23 : decode cX11_off 23 = .ok (.iload_n 1, 1) := by decide +kernel
theorem dX11_off_24 : decode cX11_off 24 = .ok (.iload_n 2, 1) := by decide +kernel
theorem dX11_off_25 : decode cX11_off 25 = .ok (.invokevirtual 210, 3) := by decide +kernel
theorem dX11_off_28 : decode cX11_off 28 = .ok (.istore 4, 2) := by decide +kernel
theorem dX11_off_30 : decode cX11_off 30 = .ok (.iload 4, 2) := by decide +kernel
theorem dX11_off_32 : decode cX11_off 32 = .ok (.iconst (-1), 1) := by decide +kernel
theorem dX11_off_33 : decode cX11_off 33 = .ok (.if_icmp .ne 7, 3) := by decide +kernel
theorem dX11_off_36 : decode cX11_off 36 = .ok (.sipush (-1000), 3) := by decide +kernel
theorem dX11_off_39 : decode cX11_off 39 = .ok (.ireturn, 1) := by decide +kernel
theorem dX11_off_40 : decode cX11_off 40 = .ok (.aload_n 0, 1) := by decide +kernel
theorem dX11_off_41 : decode cX11_off 41 = .ok (.getfield 35, 3) := by decide +kernel
theorem dX11_off_44 : decode cX11_off 44 = .ok (.iload_n 3, 1) := by decide +kernel
theorem dX11_off_45 : decode cX11_off 45 = .ok (.invokevirtual 151, 3) := by decide +kernel
theorem dX11_off_48 : decode cX11_off 48 = .ok (.aload_n 0, 1) := by decide +kernel
theorem dX11_off_49 : decode cX11_off 49 = .ok (.getfield 53, 3) := by decide +kernel
theorem dX11_off_52 : decode cX11_off 52 = .ok (.iload_n 1, 1) := by decide +kernel
theorem dX11_off_53 : decode cX11_off 53 = .ok (.iload_n 2, 1) := by decide +kernel
theorem dX11_off_54 : decode cX11_off 54 = .ok (.invokevirtual 199, 3) := by decide +kernel
theorem dX11_off_57 : decode cX11_off 57 = .ok (.ifCond .eq 16, 3) := by decide +kernel
theorem dX11_off_60 : decode cX11_off 60 = .ok (.iload 4, 2) := by decide +kernel
theorem dX11_off_62 : decode cX11_off 62 = .ok (.aload_n 0, 1) := by decide +kernel
theorem dX11_off_63 : decode cX11_off 63 = .ok (.getfield 53, 3) := by decide +kernel
theorem dX11_off_66 : decode cX11_off 66 = .ok (.invokevirtual 202, 3) := by decide +kernel
theorem dX11_off_69 : decode cX11_off 69 = .ok (.isub, 1) := by decide +kernel
theorem dX11_off_70 : decode cX11_off 70 = .ok (.goto 6, 3) := by decide +kernel
theorem dX11_off_73 : decode cX11_off 73 = .ok (.sipush (-1000), 3) := by decide +kernel
theorem dX11_off_76 : decode cX11_off 76 = .ok (.ireturn, 1) := by decide +kernel
theorem dX11_feed_0 : decode cX11_feed 0 = .ok (.aload_n 0, 1) := by decide +kernel
theorem dX11_feed_1 : decode cX11_feed 1 = .ok (.getfield 67, 3) := by decide +kernel
theorem dX11_feed_4 : decode cX11_feed 4 = .ok (.bipush 20, 2) := by decide +kernel
theorem dX11_feed_6 : decode cX11_feed 6 = .ok (.invokevirtual 213, 3) := by decide +kernel
theorem dX11_feed_9 : decode cX11_feed 9 = .ok (.ifCond .ne 5, 3) := by decide +kernel
theorem dX11_feed_12 : decode cX11_feed 12 = .ok (.iconst (-1), 1) := by decide +kernel
theorem dX11_feed_13 : decode cX11_feed 13 = .ok (.ireturn, 1) := by decide +kernel
theorem dX11_feed_14 : decode cX11_feed 14 = .ok (.aload_n 0, 1) := by decide +kernel
theorem dX11_feed_15 : decode cX11_feed 15 = .ok (.getfield 67, 3) := by decide +kernel
theorem dX11_feed_18 : decode cX11_feed 18 = .ok (.iload_n 1, 1) := by decide +kernel
theorem dX11_feed_19 : decode cX11_feed 19 = .ok (.invokevirtual 216, 3) := by decide +kernel
theorem dX11_feed_22 : decode cX11_feed 22 = .ok (.aload_n 0, 1) := by decide +kernel
theorem dX11_feed_23 : decode cX11_feed 23 = .ok (.getfield 67, 3) := by decide +kernel
theorem dX11_feed_26 : decode cX11_feed 26 = .ok (.iload_n 2, 1) := by decide +kernel
theorem dX11_feed_27 : decode cX11_feed 27 = .ok (.invokevirtual 216, 3) := by decide +kernel
theorem dX11_feed_30 : decode cX11_feed 30 = .ok (.aload_n 0, 1) := by decide +kernel
theorem dX11_feed_31 : decode cX11_feed 31 = .ok (.getfield 67, 3) := by decide +kernel
theorem dX11_feed_34 : decode cX11_feed 34 = .ok (.iload_n 3, 1) := by decide +kernel
theorem dX11_feed_35 : decode cX11_feed 35 = .ok (.invokevirtual 216, 3) := by decide +kernel
theorem dX11_feed_38 : decode cX11_feed 38 = .ok (.aload_n 0, 1) := by decide +kernel
theorem dX11_feed_39 : decode cX11_feed 39 = .ok (.getfield 67, 3) := by decide +kernel
theorem dX11_feed_42 : decode cX11_feed 42 = .ok (.iload 4, 2) := by decide +kernel
theorem dX11_feed_44 : decode cX11_feed 44 = .ok (.invokevirtual 216, 3) := by decide +kernel
theorem dX11_feed_47 : decode cX11_feed 47 = .ok (.aload_n 0, 1) := by decide +kernel
theorem dX11_feed_48 : decode cX11_feed 48 = .ok (.getfield 67, 3) := by decide +kernel
theorem dX11_feed_51 : decode cX11_feed 51 = .ok (.iload 5, 2) := by decide +kernel
theorem dX11_feed_53 : decode cX11_feed 53 = .ok (.invokevirtual 216, 3) := by decide +kernel
theorem dX11_feed_56 : decode cX11_feed 56 = .ok (.aload_n 0, 1) := by decide +kernel
theorem dX11_feed_57 : decode cX11_feed 57 = .ok (.getfield 67, 3) := by decide +kernel
theorem dX11_feed_60 : decode cX11_feed 60 = .ok (.getfield 219, 3) := by decide +kernel
theorem dX11_feed_63 : decode cX11_feed 63 = .ok (.ireturn, 1) := by decide +kernel
theorem dX11_end_0 : decode cX11_end 0 = .ok (.iload_n 1, 1) := by decide +kernel
theorem dX11_end_1 : decode cX11_end 1 = .ok (.iconst 0, 1) := by decide +kernel
theorem dX11_end_2 : decode cX11_end 2 = .ok (.aload_n 0, 1) := by decide +kernel
theorem dX11_end_3 : decode cX11_end 3 = .ok (.getfield 67, 3) := by decide +kernel
theorem dX11_end_6 : decode cX11_end 6 = .ok (.getfield 219, 3) := by decide +kernel
theorem dX11_end_9 : decode cX11_end 9 = .ok (.invokestatic 122, 3) := by decide +kernel
theorem dX11_end_12 : decode cX11_end 12 = .ok (.ifCond .ne 5, 3) := by decide +kernel
theorem dX11_end_15 : decode cX11_end 15 = .ok (.iconst (-1), 1) := by decide +kernel
theorem dX11_end_16 : decode cX11_end 16 = .ok (.ireturn, 1) := by decide +kernel
theorem dX11_end_17 : decode cX11_end 17 = .ok (.aload_n 0, 1) := by decide +kernel
theorem dX11_end_18 : decode cX11_end 18 = .ok (.getfield 67, 3) := by decide +kernel
theorem dX11_end_21 : decode cX11_end 21 = .ok (.iload_n 1, 1) := by decide +kernel
theorem dX11_end_22 : decode cX11_end 22 = .ok (.putfield 219, 3) := by decide +kernel
theorem dX11_end_25 : decode cX11_end 25 = .ok (.iload_n 1, 1) := by decide +kernel
theorem dX11_end_26 : decode cX11_end 26 = .ok (.ireturn, 1) := by decide +kernel
theorem dX11_rules_0 : decode cX11_rules 0 = .ok (.aload_n 0, 1) := by decide +kernel
theorem dX11_rules_1 : decode cX11_rules 1 = .ok (.aload_n 0, 1) := by decide +kernel
theorem dX11_rules_2 : decode cX11_rules 2 = .ok (.getfield 76, 3) := by decide +kernel
theorem dX11_rules_5 : decode cX11_rules 5 = .ok (.aload_n 0, 1) := by decide +kernel
theorem dX11_rules_6 : decode cX11_rules 6 = .ok (.getfield 94, 3) := by decide +kernel
theorem dX11_rules_9 : decode cX11_rules 9 = .ok (.invokevirtual 222, 3) := by decide +kernel
theorem dX11_rules_12 : decode cX11_rules 12 = .ok (.putfield 97, 3) := by decide +kernel
theorem dX11_rules_15 : decode cX11_rules 15 = .ok (.aload_n 0, 1) := by decide +kernel
theorem dX11_rules_16 : decode cX11_rules 16 = .ok (.getfield 67, 3) := by decide +kernel
theorem dX11_rules_19 : decode cX11_rules 19 = .ok (.iconst 0, 1) := by decide +kernel
theorem dX11_rules_20 : decode cX11_rules 20 = .ok (.putfield 219, 3) := by decide +kernel
theorem dX11_rules_23 : decode cX11_rules 23 = .ok (.aload_n 0, 1) := by decide +kernel
theorem dX11_rules_24 : decode cX11_rules 24 = .ok (.getfield 97, 3) := by decide +kernel
theorem dX11_rules_27 : decode cX11_rules 27 = .ok (.iconst (-1), 1) := by decide +kernel
theorem dX11_rules_28 : decode cX11_rules 28 = .ok (.if_icmp .eq 10, 3) := by decide +kernel
theorem dX11_rules_31 : decode cX11_rules 31 = .ok (.aload_n 0, 1) := by decide +kernel
theorem dX11_rules_32 : decode cX11_rules 32 = .ok (.bipush (-6), 2) := by decide +kernel
theorem dX11_rules_34 : decode cX11_rules 34 = .ok (.invokevirtual 108, 3) := by decide +kernel
theorem dX11_rules_37 : decode cX11_rules 37 = .ok (.ireturn, 1) := by decide +kernel
theorem dX11_rules_38 : decode cX11_rules 38 = .ok (.aload_n 0, 1) := by decide +kernel
theorem dX11_rules_39 : decode cX11_rules 39 = .ok (.getfield 90, 3) := by decide +kernel
theorem dX11_rules_42 : decode cX11_rules 42 = .ok (.astore_n 1, 1) := by decide +kernel
theorem dX11_rules_43 : decode cX11_rules 43 = .ok (.aload_n 0, 1) := by decide +kernel
theorem dX11_rules_44 : decode cX11_rules 44 = .ok (.aload_n 0, 1) := by decide +kernel
theorem dX11_rules_45 : decode cX11_rules 45 = .ok (.getfield 94, 3) := by decide +kernel
theorem dX11_rules_48 : decode cX11_rules 48 = .ok (.putfield 90, 3) := by decide +kernel
theorem dX11_rules_51 : decode cX11_rules 51 = .ok (.aload_n 0, 1) := by decide +kernel
theorem dX11_rules_52 : decode cX11_rules 52 = .ok (.aload_n 1, 1) := by decide +kernel
theorem dX11_rules_53 : decode cX11_rules 53 = .ok (.putfield 94, 3) := by decide +kernel
theorem dX11_rules_56 : decode cX11_rules 56 = .ok (.aload_n 0, 1) := by decide +kernel
theorem dX11_rules_57 : decode cX11_rules 57 = .ok (.aload_n 0, 1) := by decide +kernel
theorem dX11_rules_58 : decode cX11_rules 58 = .ok (.getfield 90, 3) := by decide +kernel
theorem dX11_rules_61 : decode cX11_rules 61 = .ok (.getfield 226, 3) := by decide +kernel
theorem dX11_rules_64 : decode cX11_rules 64 = .ok (.invokevirtual 119, 3) := by decide +kernel
theorem dX11_rules_67 : decode cX11_rules 67 = .ok (.ireturn, 1) := by decide +kernel
theorem dX11_fault_0 : decode cX11_fault 0 = .ok (.aload_n 0, 1) := by decide +kernel
theorem dX11_fault_1 : decode cX11_fault 1 = .ok (.getfield 97, 3) := by decide +kernel
theorem dX11_fault_4 : decode cX11_fault 4 = .ok (.ireturn, 1) := by decide +kernel
theorem dX11_claim_0 : decode cX11_claim 0 = .ok (.iload_n 1, 1) := by decide +kernel
theorem dX11_claim_1 : decode cX11_claim 1 = .ok (.iload_n 2, 1) := by decide +kernel
theorem dX11_claim_2 : decode cX11_claim 2 = .ok (.invokestatic 104, 3) := by decide +kernel
theorem dX11_claim_5 : decode cX11_claim 5 = .ok (.ifCond .eq 24, 3) := by decide +kernel
theorem dX11_claim_8 : decode cX11_claim 8 = .ok (.iload_n 3, 1) := by decide +kernel
theorem dX11_claim_9 : decode cX11_claim 9 = .ok (.iconst 0, 1) := by decide +kernel
theorem dX11_claim_10 : decode cX11_claim 10 = .ok (.ldc 227, 2) := by decide +kernel
theorem dX11_claim_12 : decode cX11_claim 12 = .ok (.invokestatic 122, 3) := by decide +kernel
theorem dX11_claim_15 : decode cX11_claim 15 = .ok (.ifCond .eq 14, 3) := by decide +kernel
theorem dX11_claim_18 : decode cX11_claim 18 = .ok (.iload 4, 2) := by decide +kernel
theorem dX11_claim_20 : decode cX11_claim 20 = .ok (.iconst 0, 1) := by decide +kernel
theorem dX11_claim_21 : decode cX11_claim 21 = .ok (.bipush 100, 2) := by decide +kernel
theorem dX11_claim_23 : decode cX11_claim 23 = .ok (.invokestatic 122, 3) := by decide +kernel
theorem dX11_claim_26 : decode cX11_claim 26 = .ok (.ifCond .ne 9, 3) := by decide +kernel
theorem dX11_claim_29 : decode cX11_claim 29 = .ok (.aload_n 0, 1) := by decide +kernel
theorem dX11_claim_30 : decode cX11_claim 30 = .ok (.iconst (-1), 1) := by decide +kernel
theorem dX11_claim_31 : decode cX11_claim 31 = .ok (.invokevirtual 108, 3) := by decide +kernel
theorem dX11_claim_34 : decode cX11_claim 34 = .ok (.ireturn, 1) := by decide +kernel
theorem dX11_claim_35 : decode cX11_claim 35 = .ok (.aload_n 0, 1) := by decide +kernel
theorem dX11_claim_36 : decode cX11_claim 36 = .ok (.getfield 83, 3) := by decide +kernel
theorem dX11_claim_39 : decode cX11_claim 39 = .ok (.getfield 228, 3) := by decide +kernel
theorem dX11_claim_42 : decode cX11_claim 42 = .ok (.bipush 40, 2) := by decide +kernel
theorem dX11_claim_44 : decode cX11_claim 44 = .ok (.if_icmp .lt 10, 3) := by decide +kernel
theorem dX11_claim_47 : decode cX11_claim 47 = .ok (.aload_n 0, 1) := by decide +kernel
theorem dX11_claim_48 : decode cX11_claim 48 = .ok (.bipush (-5), 2) := by decide +kernel
theorem dX11_claim_50 : decode cX11_claim 50 = .ok (.invokevirtual 108, 3) := by decide +kernel
theorem dX11_claim_53 : decode cX11_claim 53 = .ok (.ireturn, 1) := by decide +kernel
theorem dX11_claim_54 : decode cX11_claim 54 = .ok (.aload_n 0, 1) := by decide +kernel
theorem dX11_claim_55 : decode cX11_claim 55 = .ok (.aload_n 0, 1) := by decide +kernel
theorem dX11_claim_56 : decode cX11_claim 56 = .ok (.getfield 83, 3) := by decide +kernel
theorem dX11_claim_59 : decode cX11_claim 59 = .ok (.iload_n 1, 1) := by decide +kernel
theorem dX11_claim_60 : decode cX11_claim 60 = .ok (.iload_n 2, 1) := by decide +kernel
theorem dX11_claim_61 : decode cX11_claim 61 = .ok (.iload_n 3, 1) := by decide +kernel
theorem dX11_claim_62 : decode cX11_claim 62 = .ok (.iload 4, 2) := by decide +kernel
theorem dX11_claim_64 : decode cX11_claim 64 = .ok (.invokevirtual 229, 3) := by decide +kernel
theorem dX11_claim_67 : decode cX11_claim 67 = .ok (.invokevirtual 119, 3) := by decide +kernel
theorem dX11_claim_70 : decode cX11_claim 70 = .ok (.ireturn, 1) := by decide +kernel
theorem dX11_judged_0 : decode cX11_judged 0 = .ok (.aload_n 0, 1) := by decide +kernel
theorem dX11_judged_1 : decode cX11_judged 1 = .ok (.getfield 83, 3) := by decide +kernel
theorem dX11_judged_4 : decode cX11_judged 4 = .ok (.iload_n 1, 1) := by decide +kernel
theorem dX11_judged_5 : decode cX11_judged 5 = .ok (.invokevirtual 230, 3) := by decide +kernel
theorem dX11_judged_8 : decode cX11_judged 8 = .ok (.ifCond .eq 10, 3) := by decide +kernel
theorem dX11_judged_11 : decode cX11_judged 11 = .ok (.iload_n 2, 1) := by decide +kernel
theorem dX11_judged_12 : decode cX11_judged 12 = .ok (.invokestatic 126, 3) := by decide +kernel
theorem dX11_judged_15 : decode cX11_judged 15 = .ok (.ifCond .ne 5, 3) := by decide +kernel
theorem dX11_judged_18 : decode cX11_judged 18 = .ok (.iconst (-1), 1) := by decide +kernel
theorem dX11_judged_19 : decode cX11_judged 19 = .ok (.ireturn, 1) := by decide +kernel
theorem dX11_judged_20 : decode cX11_judged 20 = .ok (.aload_n 0, 1) := by decide +kernel
theorem dX11_judged_21 : decode cX11_judged 21 = .ok (.getfield 83, 3) := by decide +kernel
theorem dX11_judged_24 : decode cX11_judged 24 = .ok (.getfield 231, 3) := by decide +kernel
theorem dX11_judged_27 : decode cX11_judged 27 = .ok (.iload_n 1, 1) := by decide +kernel
theorem dX11_judged_28 : decode cX11_judged 28 = .ok (.iaload, 1) := by decide +kernel
theorem dX11_judged_29 : decode cX11_judged 29 = .ok (.istore_n 3, 1) := by decide +kernel
theorem dX11_judged_30 : decode cX11_judged 30 = .ok (.aload_n 0, 1) := by decide +kernel
theorem dX11_judged_31 : decode cX11_judged 31 = .ok (.getfield 83, 3) := by decide +kernel
theorem dX11_judged_34 : decode cX11_judged 34 = .ok (.getfield 235, 3) := by decide +kernel
theorem dX11_judged_37 : decode cX11_judged 37 = .ok (.iload_n 1, 1) := by decide +kernel
theorem dX11_judged_38 : decode cX11_judged 38 = .ok (.iaload, 1) := by decide +kernel
theorem dX11_judged_39 : decode cX11_judged 39 = .ok (.istore 4, 2) := by decide +kernel
theorem dX11_judged_41 : decode cX11_judged 41 = .ok (.aload_n 0, 1) := by decide +kernel
theorem dX11_judged_42 : decode cX11_judged 42 = .ok (.getfield 35, 3) := by decide +kernel
theorem dX11_judged_45 : decode cX11_judged 45 = .ok (.iload_n 2, 1) := by decide +kernel
theorem dX11_judged_46 : decode cX11_judged 46 = .ok (.invokevirtual 151, 3) := by decide +kernel
theorem dX11_judged_49 : decode cX11_judged 49 = .ok (.aload_n 0, 1) := by decide +kernel
theorem dX11_judged_50 : decode cX11_judged 50 = .ok (.getfield 53, 3) := by decide +kernel
theorem dX11_judged_53 : decode cX11_judged 53 = .ok (.iload_n 3, 1) := by decide +kernel
theorem dX11_judged_54 : decode cX11_judged 54 = .ok (.iload 4, 2) := by decide +kernel
theorem dX11_judged_56 : decode cX11_judged 56 = .ok (.invokevirtual 199, 3) := by decide +kernel
theorem dX11_judged_59 : decode cX11_judged 59 = .ok (.ifCond .ne 6, 3) := by decide +kernel
theorem dX11_judged_62 : decode cX11_judged 62 = .ok (.bipush (-2), 2) := by decide +kernel
theorem dX11_judged_64 : decode cX11_judged 64 = .ok (.ireturn, 1) := by decide +kernel
theorem dX11_judged_65 : decode cX11_judged 65 = .ok (.aload_n 0, 1) := by decide +kernel
theorem dX11_judged_66 : decode cX11_judged 66 = .ok (.getfield 60, 3) := by decide +kernel
theorem dX11_judged_69 : decode cX11_judged 69 = .ok (.iload_n 3, 1) := by decide +kernel
theorem dX11_judged_70 : decode cX11_judged 70 = .ok (.iload 4, 2) := by decide +kernel
theorem dX11_judged_72 : decode cX11_judged 72 = .ok (.invokevirtual 210, 3) := by decide +kernel
theorem dX11_judged_75 : decode cX11_judged 75 = .ok (.istore 5, 2) := by decide +kernel
theorem dX11_judged_77 : decode cX11_judged 77 = .ok (.iload 5, 2) := by decide +kernel
theorem dX11_judged_79 : decode cX11_judged 79 = .ok (.iconst (-1), 1) := by decide +kernel
theorem dX11_judged_80 : decode cX11_judged 80 = .ok (.if_icmp .eq 26, 3) := by decide +kernel
theorem dX11_judged_83 : decode cX11_judged 83 = .ok (.aload_n 0, 1) := by decide +kernel
theorem dX11_judged_84 : decode cX11_judged 84 = .ok (.getfield 90, 3) := by decide +kernel
theorem dX11_judged_87 : decode cX11_judged 87 = .ok (.iload 5, 2) := by decide +kernel
theorem dX11_judged_89 : decode cX11_judged 89 = .ok (.aload_n 0, 1) := by decide +kernel
theorem dX11_judged_90 : decode cX11_judged 90 = .ok (.getfield 53, 3) := by decide +kernel
theorem dX11_judged_93 : decode cX11_judged 93 = .ok (.invokevirtual 202, 3) := by decide +kernel
theorem dX11_judged_96 : decode cX11_judged 96 = .ok (.isub, 1) := by decide +kernel
theorem dX11_judged_97 : decode cX11_judged 97 = .ok (.invokevirtual 238, 3) := by decide +kernel
theorem dX11_judged_100 : decode cX11_judged 100 = .ok (.ifCond .eq 6, 3) := by decide +kernel
theorem dX11_judged_103 : decode cX11_judged 103 = .ok (.bipush (-2), 2) := by decide +kernel
theorem dX11_judged_105 : decode cX11_judged 105 = .ok (.ireturn, 1) := by decide +kernel
theorem dX11_judged_106 : decode cX11_judged 106 = .ok (.aload_n 0, 1) := by decide +kernel
theorem dX11_judged_107 : decode cX11_judged 107 = .ok (.getfield 90, 3) := by decide +kernel
theorem dX11_judged_110 : decode cX11_judged 110 = .ok (.aload_n 0, 1) := by decide +kernel
theorem dX11_judged_111 : decode cX11_judged 111 = .ok (.getfield 53, 3) := by decide +kernel
theorem dX11_judged_114 : decode cX11_judged 114 = .ok (.invokevirtual 202, 3) := by decide +kernel
theorem dX11_judged_117 : decode cX11_judged 117 = .ok (.aload_n 0, 1) := by decide +kernel
theorem dX11_judged_118 : decode cX11_judged 118 = .ok (.getfield 53, 3) := by decide +kernel
theorem dX11_judged_121 : decode cX11_judged 121 = .ok (.invokevirtual 206, 3) := by decide +kernel
theorem dX11_judged_124 : decode cX11_judged 124 = .ok (.invokevirtual 241, 3) := by decide +kernel
theorem dX11_judged_127 : decode cX11_judged 127 = .ok (.aload_n 0, 1) := by decide +kernel
theorem dX11_judged_128 : decode cX11_judged 128 = .ok (.getfield 83, 3) := by decide +kernel
theorem dX11_judged_131 : decode cX11_judged 131 = .ok (.getfield 244, 3) := by decide +kernel
theorem dX11_judged_134 : decode cX11_judged 134 = .ok (.iload_n 1, 1) := by decide +kernel
theorem dX11_judged_135 : decode cX11_judged 135 = .ok (.iaload, 1) := by decide +kernel
theorem dX11_judged_136 : decode cX11_judged 136 = .ok (.invokestatic 247, 3) := by decide +kernel
theorem dX11_judged_139 : decode cX11_judged 139 = .ok (.istore 6, 2) := by decide +kernel
theorem dX11_judged_141 : decode cX11_judged 141 = .ok (.iconst 0, 1) := by decide +kernel
theorem dX11_judged_142 : decode cX11_judged 142 = .ok (.iload 6, 2) := by decide +kernel
